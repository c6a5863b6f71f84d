/-! most, stale -/
theorem e_most : E_most := by
  intro ik now nbt nki npl nva nwr kow kbt kki kpl kva kwr smn snu rmn rnu rf mr mb mo ml mw mt mk mp mq mz mh my mn x1 hR hx
  have hI := hR.1
  have hD := hR.2.1
  by_cases h1 : 0 ≤ x1 ∧ x1 < 4
  · have hr := rom_bd hI
    have hh : 0 ≤ hol ml mt (24 * x1 + 0) 24 ∧ hol ml mt (24 * x1 + 0) 24 ≤ 24 := cn_bd _ 24
    have e1 := pM_holes hI (f := x1) (p := 0) (n := 24) h1 (by omega)
    have e2 := pD_holes hI hD (f := x1) (p := 0) (n := 24) h1 (by omega)
    have e3 : m_Mod_holesAmong x1 0 24 ml mt = some (hol ml mt (24 * x1 + 0) 24) := e1
    have e4 : m_Disk_holesAmong x1 0 24 npl nva = some (hol ml mt (24 * x1 + 0) 24) := e2
    refine ⟨(min (hol ml mt (24 * x1 + 0) 24) (rom mo ml mt), rf), (min (hol ml mt (24 * x1 + 0) 24) (rom mo ml mt), mr), ?_, ?_, rfl, hR⟩
    · unfold m_Vol_most
      rw [p_Vol_isFile (by omega), bnd_s, if_pos h1, ceq_f (by omega), e4, bnd_s, pD_room hI hD, bnd_s, gd_rr (by omega)]
    · unfold m_Mod_most
      rw [p_Mod_isFile (by omega), bnd_s, if_pos h1, ceq_f (by omega), e3, bnd_s, pM_room hI, bnd_s]
      by_cases h : hol ml mt (24 * x1 + 0) 24 < rom mo ml mt
      · rw [clt_t (by omega), show min (hol ml mt (24 * x1 + 0) 24) (rom mo ml mt) = hol ml mt (24 * x1 + 0) 24 by omega]
      · rw [clt_f (by omega), bnd_s, show min (hol ml mt (24 * x1 + 0) 24) (rom mo ml mt) = rom mo ml mt by omega]
  · refine ⟨(-1, uf rf (- -1) (rf (- -1) + 1)), (-1, uf mr (- -1) (mr (- -1) + 1)), ?_, ?_, rfl, hR.no (-1) (by omega)⟩
    · unfold m_Vol_most
      rw [p_Vol_isFile (by omega), bnd_s, if_neg h1, ceq_t (by omega), p_refuse (by omega), bnd_s]
    · unfold m_Mod_most
      rw [p_Mod_isFile (by omega), bnd_s, if_neg h1, ceq_t (by omega), p_no (by omega), bnd_s]
theorem judge_loop {now nbt nki npl nva nwr mb mo ml mw mt mk rnu my mr : Int → Int} (hI : Inv mb mo ml mw mt mk) (hD : Dsk now nbt nki npl nva nwr mb mo ml mw mt mk) {f rmn : Int} (hf : 0 ≤ f ∧ f < 4) (hn : 0 ≤ rmn ∧ rmn ≤ 32) (hrw : ∀ j : Int, 0 ≤ j → j < rmn → rnu j = my j ∧ 0 ≤ my j ∧ my j ≤ 99) : ∀ (d : Nat) (i : Int) (fuel : Nat), 0 ≤ i → i + d = rmn → d < fuel → ∃ r : Int, m_Vol_firstWrongPlace_2 fuel f i npl rmn rnu = some r ∧ m_Mod_judge_25 fuel f rmn i 0 mr ml my = some (r, 0, mr) := by
  intro d
  induction d with
  | zero =>
    intro i fuel h0 h1 h2
    cases fuel with
    | zero => omega
    | succ fuel => exact ⟨-9, by rw [m_Vol_firstWrongPlace_2, clt_f (by omega)], by rw [m_Mod_judge_25, clt_f (by omega)]⟩
  | succ d ih =>
    intro i fuel h0 h1 h2
    cases fuel with
    | zero => omega
    | succ fuel =>
      obtain ⟨e1, e2, e3⟩ := hrw i h0 (by omega)
      obtain ⟨r, g1, g2⟩ := ih (i + 1) fuel (by omega) (by omega) (by omega)
      have hnum : m_Row_numberAt_W32 i rmn rnu = some (my i) := by
        unfold m_Row_numberAt_W32
        rw [clt_f (by omega), clt_t (by omega), clt_t (by omega), gd_x (by omega), e1]
      have key : ∀ v : Int, -1 ≤ v ∧ v ≤ 99 → (ceq (my i) v (m_Vol_firstWrongPlace_2 fuel f (i + 1) npl rmn rnu) (some i) = some (if my i = v then r else i)) ∧ (gd (zx i 32) (ceq v (my i) (m_Mod_judge_25 fuel f rmn (i + 1) 0 mr ml my) (some (i, 0, mr))) = some (if my i = v then r else i, 0, mr)) := by
        intro v hv
        rw [gd_x (by omega)]
        by_cases h : my i = v
        · rw [if_pos h, ceq_t (by omega), ceq_t (by omega), g1, g2]
          exact ⟨rfl, rfl⟩
        · rw [if_neg h, ceq_f (by omega), ceq_f (by omega)]
          exact ⟨rfl, rfl⟩
      by_cases hp : i < 24
      · have hb := (Inv.at hI).2 (24 * f + i) (by omega) (by omega)
        have hq := Rel.pg hD hf ⟨h0, hp⟩
        by_cases hpl : 0 ≤ ml (24 * f + i)
        · refine ⟨if my i = ml (24 * f + i) then r else i, ?_, ?_⟩
          rotate_left
          · rw [m_Mod_judge_25, clt_t (by omega)]
            simp only [jn_s]
            rw [clt_t (by omega), p_isPlaced (by omega) (by omega), bnd_s, ceq_yn, if_pos hpl, gd_x (by omega)]
            exact (key (ml (24 * f + i)) (by omega)).2
          · rw [m_Vol_firstWrongPlace_2, clt_t (by omega), p_blockAt hf ⟨h0, hp⟩, bnd_s, hnum, bnd_s]
            simp only [jn_s]
            rw [clt_f (by omega), show npl (24 * f + i) = ml (24 * f + i) by omega]
            exact (key (ml (24 * f + i)) (by omega)).1
        · refine ⟨if my i = 99 then r else i, ?_, ?_⟩
          rotate_left
          · rw [m_Mod_judge_25, clt_t (by omega)]
            simp only [jn_s]
            rw [clt_t (by omega), p_isPlaced (by omega) (by omega), bnd_s, ceq_yn, if_neg hpl]
            exact (key 99 (by omega)).2
          · rw [m_Vol_firstWrongPlace_2, clt_t (by omega), p_blockAt hf ⟨h0, hp⟩, bnd_s, hnum, bnd_s]
            simp only [jn_s]
            rw [clt_t (by omega)]
            exact (key 99 (by omega)).1
      · refine ⟨if my i = 99 then r else i, ?_, ?_⟩
        rotate_left
        · rw [m_Mod_judge_25, clt_t (by omega)]
          simp only [jn_s]
          rw [clt_f (by omega)]
          exact (key 99 (by omega)).2
        · rw [m_Vol_firstWrongPlace_2, clt_t (by omega), p_blockAt_out hf (by omega) (by omega), bnd_s, hnum, bnd_s]
          simp only [jn_s]
          rw [clt_t (by omega)]
          exact (key 99 (by omega)).1
theorem e_judge : E_judge := by
  intro ik now nbt nki npl nva nwr kow kbt kki kpl kva kwr smn snu rmn rnu rf mr mb mo ml mw mt mk mp mq mz mh my mn x1 hR hx
  have hI := hR.1
  have hD := hR.2.1
  by_cases h1 : 0 ≤ x1 ∧ x1 < 4
  · obtain ⟨hI, hD, hik, hkp, hrf, hlt, ⟨rfl, hl0, hl1, hl⟩⟩ := hR
    obtain ⟨r, g1, g2⟩ := judge_loop (mr := mr) hI hD h1 ⟨hl0, hl1⟩ hl rmn.toNat 0 5000 (by omega) (by omega) (by omega)
    refine ⟨(r, 0, rf), (r, 0, mr), ?_, ?_, rfl, hI, hD, hik, hkp, hrf, hlt, rfl, Int.le_refl _, by show (0 : Int) ≤ 32; omega, fun j h0 h1 => absurd h1 (by show ¬ j < 0; omega)⟩
    · unfold m_Vol_judge m_Vol_firstWrongPlace m_Row_empty_W32
      rw [p_Vol_isFile (by omega), bnd_s, if_pos h1, ceq_f (by omega), g1, bnd_s, bnd_s]
    · unfold m_Mod_judge
      rw [p_Mod_isFile (by omega), bnd_s, if_pos h1, ceq_f (by omega), g2]
  · refine ⟨(-1, rmn, uf rf (- -1) (rf (- -1) + 1)), (-1, mn, uf mr (- -1) (mr (- -1) + 1)), ?_, ?_, rfl, hR.no (-1) (by omega)⟩
    · unfold m_Vol_judge
      rw [p_Vol_isFile (by omega), bnd_s, if_neg h1, ceq_t (by omega), p_refuse (by omega), bnd_s]
    · unfold m_Mod_judge
      rw [p_Mod_isFile (by omega), bnd_s, if_neg h1, ceq_t (by omega), p_no (by omega), bnd_s]
