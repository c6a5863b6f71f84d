/-! page, read, whose -/
theorem Rel.no {ik : Int} {now nbt nki npl nva nwr kow kbt kki kpl kva kwr : Int → Int} {smn : Int} {snu : Int → Int} {rmn : Int} {rnu rf mr mb mo ml mw mt mk mp : Int → Int} {mq : Int} {mz : Int → Int} {mh : Int} {my : Int → Int} {mn : Int} (hR : Rel ik now nbt nki npl nva nwr kow kbt kki kpl kva kwr smn snu rmn rnu rf mr mb mo ml mw mt mk mp mq mz mh my mn) (k : Int) (hk : k = -1 ∨ k = -2 ∨ k = -3 ∨ k = -4 ∨ k = -6) : Rel ik now nbt nki npl nva nwr kow kbt kki kpl kva kwr smn snu rmn rnu (uf rf (-k) (rf (-k) + 1)) (uf mr (-k) (mr (-k) + 1)) mb mo ml mw mt mk mp mq mz mh my mn := by
  obtain ⟨hI, hD, hik, hkp, hrf, hlt, hrw⟩ := hR
  exact ⟨hI, hD, hik, hkp, hrf.bump (by omega), hlt, hrw⟩
theorem e_page : E_page := by
  intro ik now nbt nki npl nva nwr kow kbt kki kpl kva kwr smn snu rmn rnu rf mr mb mo ml mw mt mk mp mq mz mh my mn x1 x2 x3 hR hx hy hz
  by_cases h1 : 0 ≤ x1 ∧ x1 < 4
  · by_cases h2 : 0 ≤ x2 ∧ x2 < 24
    · obtain ⟨q1, q2, q3⟩ := Rel.pg hR.2.1 h1 h2
      obtain ⟨r1, r2, r3⟩ := (Inv.at hR.1).2 (24 * x1 + x2) (by omega) (by omega)
      by_cases h30 : x3 = 0
      · refine ⟨(ml (24 * x1 + x2), rf), (ml (24 * x1 + x2), mr), ?_, ?_, rfl, hR⟩
        · unfold m_Vol_page
          simp only [jn_s]
          rw [p_Vol_isFile (by omega), bnd_s, if_pos h1, ceq_f (by omega), p_Vol_isPage (by omega), bnd_s, if_pos h2, ceq_f (by omega), ceq_t (by omega), p_blockAt h1 h2, bnd_s, p_orNothing (by omega), bnd_s]
          rcases q1 with ⟨e1, e2⟩ | ⟨e1, e2⟩
          · rw [e2, e1]
            rfl
          · rw [e2, if_neg (by omega)]
        · unfold m_Mod_page
          simp only [jn_s]
          rw [p_Mod_isFile (by omega), bnd_s, if_pos h1, ceq_f (by omega), p_Mod_isPage (by omega), bnd_s, if_pos h2, ceq_f (by omega), ceq_t (by omega), gd_x (by omega)]
      · by_cases h31 : x3 = 1
        · refine ⟨(mw (24 * x1 + x2), rf), (mw (24 * x1 + x2), mr), ?_, ?_, rfl, hR⟩
          · unfold m_Vol_page
            simp only [jn_s]
            rw [p_Vol_isFile (by omega), bnd_s, if_pos h1, ceq_f (by omega), p_Vol_isPage (by omega), bnd_s, if_pos h2, ceq_f (by omega), ceq_f (by omega), ceq_t (by omega), p_isWritten h1 h2 (by rw [q3]; exact r3), bnd_s, q3]
            rcases r3 with e | e
            · rw [ceq_t (by omega), e]
            · rw [ceq_f (by omega), e]
          · unfold m_Mod_page
            simp only [jn_s]
            rw [p_Mod_isFile (by omega), bnd_s, if_pos h1, ceq_f (by omega), p_Mod_isPage (by omega), bnd_s, if_pos h2, ceq_f (by omega), ceq_f (by omega), ceq_t (by omega), gd_x (by omega)]
        · by_cases h32 : x3 = 2
          · refine ⟨(mt (24 * x1 + x2), rf), (mt (24 * x1 + x2), mr), ?_, ?_, rfl, hR⟩
            · unfold m_Vol_page
              simp only [jn_s]
              rw [p_Vol_isFile (by omega), bnd_s, if_pos h1, ceq_f (by omega), p_Vol_isPage (by omega), bnd_s, if_pos h2, ceq_f (by omega), ceq_f (by omega), ceq_f (by omega), ceq_t (by omega), p_valueAt h1 h2, bnd_s, p_orNothing (by omega), bnd_s]
              rcases q2 with ⟨e1, e2⟩ | ⟨e1, e2⟩
              · rw [e2, e1]
                rfl
              · rw [e2, if_neg (by omega)]
            · unfold m_Mod_page
              simp only [jn_s]
              rw [p_Mod_isFile (by omega), bnd_s, if_pos h1, ceq_f (by omega), p_Mod_isPage (by omega), bnd_s, if_pos h2, ceq_f (by omega), ceq_f (by omega), ceq_f (by omega), ceq_t (by omega), gd_x (by omega)]
          · refine ⟨(-2, uf rf (- -2) (rf (- -2) + 1)), (-2, uf mr (- -2) (mr (- -2) + 1)), ?_, ?_, rfl, hR.no (-2) (by omega)⟩
            · unfold m_Vol_page
              simp only [jn_s]
              rw [p_Vol_isFile (by omega), bnd_s, if_pos h1, ceq_f (by omega), p_Vol_isPage (by omega), bnd_s, if_pos h2, ceq_f (by omega), ceq_f (by omega), ceq_f (by omega), ceq_f (by omega), p_refuse (by omega), bnd_s]
            · unfold m_Mod_page
              simp only [jn_s]
              rw [p_Mod_isFile (by omega), bnd_s, if_pos h1, ceq_f (by omega), p_Mod_isPage (by omega), bnd_s, if_pos h2, ceq_f (by omega), ceq_f (by omega), ceq_f (by omega), ceq_f (by omega), p_no (by omega), bnd_s]
    · refine ⟨(-1, uf rf (- -1) (rf (- -1) + 1)), (-1, uf mr (- -1) (mr (- -1) + 1)), ?_, ?_, rfl, hR.no (-1) (by omega)⟩
      · unfold m_Vol_page
        simp only [jn_s]
        rw [p_Vol_isFile (by omega), bnd_s, if_pos h1, ceq_f (by omega), p_Vol_isPage (by omega), bnd_s, if_neg h2, ceq_t (by omega), p_refuse (by omega), bnd_s]
      · unfold m_Mod_page
        simp only [jn_s]
        rw [p_Mod_isFile (by omega), bnd_s, if_pos h1, ceq_f (by omega), p_Mod_isPage (by omega), bnd_s, if_neg h2, ceq_t (by omega), p_no (by omega), bnd_s]
  · refine ⟨(-1, uf rf (- -1) (rf (- -1) + 1)), (-1, uf mr (- -1) (mr (- -1) + 1)), ?_, ?_, rfl, hR.no (-1) (by omega)⟩
    · unfold m_Vol_page
      simp only [jn_s]
      rw [p_Vol_isFile (by omega), bnd_s, if_neg h1, ceq_t (by omega), p_refuse (by omega), bnd_s]
    · unfold m_Mod_page
      simp only [jn_s]
      rw [p_Mod_isFile (by omega), bnd_s, if_neg h1, ceq_t (by omega), p_no (by omega), bnd_s]
/-- what a page is read as -/
def rdv (bt bl wr wa : Int → Int) (a : Int) : Int := if 0 ≤ wa a then wa a else if wr a = 1 then bt (bl a) else 0
theorem p_Mod_readAt {bt ow bl wr wa ki : Int → Int} (hI : Inv bt ow bl wr wa ki) {a : Int} (ha : 0 ≤ a ∧ a < 96) : m_Mod_readAt a bt bl wr wa = some (rdv bt bl wr wa a) := by
  obtain ⟨r1, r2, r3⟩ := (Inv.at hI).2 a ha.1 ha.2
  obtain ⟨i1, i2, i3, -⟩ := hI
  unfold m_Mod_readAt rdv
  rw [p_isWaiting ha (by omega), bnd_s, ceq_yn]
  by_cases h : 0 ≤ wa a
  · rw [if_pos h, if_pos h, gd_x (by omega)]
  · rw [if_neg h, if_neg h, p_isPlaced ha (by omega), bnd_s, ceq_yn]
    rcases i3 a ha.1 ha.2 with h3 | ⟨h3, h4⟩
    · by_cases h5 : 0 ≤ bl a
      · rw [if_pos h5, gd_x (by omega), ceq_f (by omega), if_neg (by omega)]
      · rw [if_neg h5, if_neg (by omega)]
    · rw [if_pos h4, gd_x (by omega), ceq_t (by omega), gd_x (by omega), gd_x (by omega), if_pos h3]
theorem p_Disk_readAt {f p : Int} {vow vbt vki vpl vva vwr bt ow bl wr wa ki : Int → Int} (hI : Inv bt ow bl wr wa ki) (hD : Dsk vow vbt vki vpl vva vwr bt ow bl wr wa ki) (hf : 0 ≤ f ∧ f < 4) (hp : 0 ≤ p ∧ p < 24) : m_Disk_readAt f p vbt vpl vva vwr = some (rdv bt bl wr wa (24 * f + p)) := by
  obtain ⟨r1, r2, r3⟩ := (Inv.at hI).2 (24 * f + p) (by omega) (by omega)
  obtain ⟨q1, q2, q3⟩ := Rel.pg hD hf hp
  obtain ⟨i1, i2, i3, -⟩ := hI
  unfold m_Disk_readAt rdv
  rw [p_valueAt hf hp, bnd_s]
  rcases q2 with ⟨e1, e2⟩ | ⟨e1, e2⟩
  · rw [clt_t (by omega), if_neg (by omega), p_isWritten hf hp (by rw [q3]; exact r3), bnd_s, q3]
    rcases i3 (24 * f + p) (by omega) (by omega) with h3 | ⟨h3, h4⟩
    · rw [ceq_t (by omega), if_neg (by omega)]
    · have e3 : vpl (24 * f + p) = bl (24 * f + p) := by omega
      rw [ceq_f (by omega), if_pos h3, p_blockAt hf hp, bnd_s, e3, p_byteAt (by omega), bnd_s, hD.2.1 _ (by omega) (by omega)]
  · rw [clt_f (by omega), if_pos e1, bnd_s, e2]
theorem e_read : E_read := by
  intro ik now nbt nki npl nva nwr kow kbt kki kpl kva kwr smn snu rmn rnu rf mr mb mo ml mw mt mk mp mq mz mh my mn x1 x2 hR hx hy
  by_cases h1 : 0 ≤ x1 ∧ x1 < 4
  · by_cases h2 : 0 ≤ x2 ∧ x2 < 24
    · refine ⟨(rdv mb ml mw mt (24 * x1 + x2), rf), (rdv mb ml mw mt (24 * x1 + x2), mr), ?_, ?_, rfl, hR⟩
      · unfold m_Vol_read
        simp only [jn_s]
        rw [p_Vol_isFile (by omega), bnd_s, if_pos h1, ceq_f (by omega), p_Vol_isPage (by omega), bnd_s, if_pos h2, ceq_f (by omega), p_Disk_readAt hR.1 hR.2.1 h1 h2, bnd_s]
      · unfold m_Mod_read
        simp only [jn_s]
        rw [p_Mod_isFile (by omega), bnd_s, if_pos h1, ceq_f (by omega), p_Mod_isPage (by omega), bnd_s, if_pos h2, ceq_f (by omega), p_Mod_readAt hR.1 (by omega), bnd_s]
    · refine ⟨(-1, uf rf (- -1) (rf (- -1) + 1)), (-1, uf mr (- -1) (mr (- -1) + 1)), ?_, ?_, rfl, hR.no (-1) (by omega)⟩
      · unfold m_Vol_read
        simp only [jn_s]
        rw [p_Vol_isFile (by omega), bnd_s, if_pos h1, ceq_f (by omega), p_Vol_isPage (by omega), bnd_s, if_neg h2, ceq_t (by omega), p_refuse (by omega), bnd_s]
      · unfold m_Mod_read
        simp only [jn_s]
        rw [p_Mod_isFile (by omega), bnd_s, if_pos h1, ceq_f (by omega), p_Mod_isPage (by omega), bnd_s, if_neg h2, ceq_t (by omega), p_no (by omega), bnd_s]
  · refine ⟨(-1, uf rf (- -1) (rf (- -1) + 1)), (-1, uf mr (- -1) (mr (- -1) + 1)), ?_, ?_, rfl, hR.no (-1) (by omega)⟩
    · unfold m_Vol_read
      simp only [jn_s]
      rw [p_Vol_isFile (by omega), bnd_s, if_neg h1, ceq_t (by omega), p_refuse (by omega), bnd_s]
    · unfold m_Mod_read
      simp only [jn_s]
      rw [p_Mod_isFile (by omega), bnd_s, if_neg h1, ceq_t (by omega), p_no (by omega), bnd_s]
theorem e_whose : E_whose := by
  intro ik now nbt nki npl nva nwr kow kbt kki kpl kva kwr smn snu rmn rnu rf mr mb mo ml mw mt mk mp mq mz mh my mn x1 x2 hR hx hy
  by_cases h1 : 0 ≤ x1 ∧ x1 < 64
  · have hb := hR.2.1.1 x1 h1.1 h1.2
    have hr := (Inv.at hR.1).1 x1 h1.1 h1.2
    have hbt := hR.2.1.2.1 x1 h1.1 h1.2
    by_cases h2 : x2 = 0 ∨ x2 = 1
    · by_cases h3 : x2 = 1
      · refine ⟨(mb x1, rf), (mb x1, mr), ?_, ?_, rfl, hR⟩
        · unfold m_Vol_whose
          rw [p_Vol_isBlock (by omega), bnd_s, if_pos h1, ceq_f (by omega), p_Vol_isEither (by omega), bnd_s, if_pos h2, ceq_f (by omega), ceq_t (by omega), p_byteAt h1, bnd_s, hbt]
        · unfold m_Mod_whose
          rw [p_Mod_isBlock (by omega), bnd_s, if_pos h1, ceq_f (by omega), p_Mod_isIn (by omega) (by omega) (by omega), bnd_s, if_pos (by omega), ceq_f (by omega), gd_x (by omega), ceq_t (by omega), gd_x (by omega)]
      · by_cases h4 : mo x1 < 0
        · refine ⟨(-9, rf), (-9, mr), ?_, ?_, rfl, hR⟩
          · unfold m_Vol_whose
            rw [p_Vol_isBlock (by omega), bnd_s, if_pos h1, ceq_f (by omega), p_Vol_isEither (by omega), bnd_s, if_pos h2, ceq_f (by omega), ceq_f (by omega), p_ownerAt h1, bnd_s, clt_t (by omega)]
          · unfold m_Mod_whose
            rw [p_Mod_isBlock (by omega), bnd_s, if_pos h1, ceq_f (by omega), p_Mod_isIn (by omega) (by omega) (by omega), bnd_s, if_pos (by omega), ceq_f (by omega), gd_x (by omega), ceq_f (by omega), clt_t (by omega)]
        · have e : now x1 = mo x1 := by omega
          refine ⟨(100 * (mo x1 / 24) + mo x1 % 24, rf), (100 * (mo x1 / 24) + mo x1 % 24, mr), ?_, ?_, rfl, hR⟩
          · unfold m_Vol_whose
            rw [p_Vol_isBlock (by omega), bnd_s, if_pos h1, ceq_f (by omega), p_Vol_isEither (by omega), bnd_s, if_pos h2, ceq_f (by omega), ceq_f (by omega), p_ownerAt h1, bnd_s, clt_f (by omega), gd_xz (by omega), gd_xz (by omega), e]
          · unfold m_Mod_whose
            rw [p_Mod_isBlock (by omega), bnd_s, if_pos h1, ceq_f (by omega), p_Mod_isIn (by omega) (by omega) (by omega), bnd_s, if_pos (by omega), ceq_f (by omega), gd_x (by omega), ceq_f (by omega), clt_f (by omega), gd_xz (by omega), gd_xz (by omega)]
    · refine ⟨(-2, uf rf (- -2) (rf (- -2) + 1)), (-2, uf mr (- -2) (mr (- -2) + 1)), ?_, ?_, rfl, hR.no (-2) (by omega)⟩
      · unfold m_Vol_whose
        rw [p_Vol_isBlock (by omega), bnd_s, if_pos h1, ceq_f (by omega), p_Vol_isEither (by omega), bnd_s, if_neg h2, ceq_t (by omega), p_refuse (by omega), bnd_s]
      · unfold m_Mod_whose
        rw [p_Mod_isBlock (by omega), bnd_s, if_pos h1, ceq_f (by omega), p_Mod_isIn (by omega) (by omega) (by omega), bnd_s, if_neg (by omega), ceq_t (by omega), p_no (by omega), bnd_s]
  · refine ⟨(-1, uf rf (- -1) (rf (- -1) + 1)), (-1, uf mr (- -1) (mr (- -1) + 1)), ?_, ?_, rfl, hR.no (-1) (by omega)⟩
    · unfold m_Vol_whose
      rw [p_Vol_isBlock (by omega), bnd_s, if_neg h1, ceq_t (by omega), p_refuse (by omega), bnd_s]
    · unfold m_Mod_whose
      rw [p_Mod_isBlock (by omega), bnd_s, if_neg h1, ceq_t (by omega), p_no (by omega), bnd_s]
