/-! e_forged, e_gather -/
theorem p_numberAt32 {i mn : Int} {nu : Int → Int} (h0 : 0 ≤ i) (h1 : i < mn) (h2 : mn ≤ 32) : m_Row_numberAt_W32 i mn nu = some (nu i) := by
  unfold m_Row_numberAt_W32
  rw [clt_f (by omega), clt_t (by omega), clt_t (by omega), gd_x (by omega)]
section FGD
variable {ow : Int → Int} {rm : Int} {rs rz : Int → Int}
theorem p_forged (hb : ∀ b : Int, 0 ≤ b → b < 64 → -9 ≤ ow b ∧ ow b < 96) (R : RunsTo ow 64 rm rs rz) {n rmn : Int} {vow rnu my mr : Int → Int} (hn : rmn = 2 * n ∧ 0 ≤ rmn ∧ rmn ≤ 32) (hq : ∀ j : Int, 0 ≤ j → j < rmn → rnu j = my j ∧ 0 ≤ my j ∧ my j ≤ 99) : ∃ r : Int, m_Mod_forged_33 5000 n 0 0 0 mr ow my = some (r, 0, mr) ∧ m_Vol_firstWrongRun_20 5000 n 0 vow rm rs rz rmn rnu = some (r, rm, rs, rz) := by
  have hm := R.many (by omega)
  have hm0 := R.1
  obtain ⟨u, v, e1, e2, r, e3, e4⟩ := run_scan R (fun fuel s b => m_Mod_forged_33 fuel n s b 0 mr ow my) (fun fuel (_ : Unit) i => m_Vol_firstWrongRun_20 fuel n i vow rm rs rz rmn rnu) (fun s _ i => s = i ∧ i ≤ n) (fun u v => ∃ r : Int, u = (r, 0, mr) ∧ v = (r, rm, rs, rz)) 0 () ⟨rfl, by omega⟩ (fun fuel s b q0 q1 q2 => by
      show m_Mod_forged_33 (fuel + 1) n s b 0 mr ow my = m_Mod_forged_33 fuel n s (b + 1) 0 mr ow my
      rw [m_Mod_forged_33, clt_t (by omega), pM_beg0 hb ⟨q0, q1⟩ q2, bnd_s, ceq_t (by omega)]) (fun s t i q0 q1 hR => by
      obtain ⟨hs, hi⟩ := hR
      subst hs
      have ha := R.at q0 q1
      have hg := pM_beg hb (b := rs s) ⟨by omega, by omega⟩ (R.run q0 q1)
      have hz := pM_size_at hb R q0 q1
      by_cases hend : s = n
      · subst hend
        refine Or.inr ⟨(s, 0, mr), (s, rm, rs, rz), fun fuel => ?_, fun fuel => ?_, s, rfl, rfl⟩
        · show m_Mod_forged_33 (fuel + 1) s s (rs s) 0 mr ow my = _
          rw [m_Mod_forged_33, clt_t (by omega), hg, bnd_s, ceq_f (by omega), ceq_t (by omega)]
        · show m_Vol_firstWrongRun_20 (fuel + 1) s s vow rm rs rz rmn rnu = _
          rw [m_Vol_firstWrongRun_20, gd_rr (by omega), clt_f (by omega), ceq_f (by omega), gd_rr (by omega), show min s rm = s by omega]
      · have h1 := hq (2 * s) (by omega) (by omega)
        have h2 := hq (2 * s + 1) (by omega) (by omega)
        have kD : ∀ fuel, m_Vol_firstWrongRun_20 (fuel + 1) n s vow rm rs rz rmn rnu = if my (2 * s) = rs s ∧ my (2 * s + 1) = rz s then m_Vol_firstWrongRun_20 fuel n (s + 1) vow rm rs rz rmn rnu else some (s, rm, rs, rz) := by
          intro fuel
          rw [m_Vol_firstWrongRun_20, gd_rr (by omega), clt_t (by omega), p_numberAt32 (by omega) (by omega) hn.2.2, bnd_s, p_startAt q0 q1 hm.1, bnd_s]
          simp only [jn_s]
          rw [h1.1]
          by_cases c : my (2 * s) = rs s
          · rw [ceq_t (by omega), p_numberAt32 (by omega) (by omega) hn.2.2, bnd_s, p_sizeAt q0 q1 hm.1, bnd_s, h2.1]
            by_cases c2 : my (2 * s + 1) = rz s
            · rw [ceq_t (by omega), ceq_f (by omega), if_pos ⟨c, c2⟩]
            · rw [ceq_f (by omega), ceq_t (by omega), if_neg (fun q => c2 q.2)]
          · rw [ceq_f (by omega), ceq_t (by omega), if_neg (fun q => c q.1)]
        have kM : ∀ fuel, m_Mod_forged_33 (fuel + 1) n s (rs s) 0 mr ow my = if my (2 * s) = rs s ∧ my (2 * s + 1) = rz s then m_Mod_forged_33 fuel n (s + 1) (rs s + 1) 0 mr ow my else some (s, 0, mr) := by
          intro fuel
          rw [m_Mod_forged_33, clt_t (by omega), hg, bnd_s, ceq_f (by omega), ceq_f (by omega), gd_x (by omega)]
          by_cases c : my (2 * s) = rs s
          · rw [ceq_t (by omega), gd_x (by omega), hz, bnd_s]
            by_cases c2 : my (2 * s + 1) = rz s
            · rw [ceq_t (by omega), if_pos ⟨c, c2⟩]
            · rw [ceq_f (by omega), if_neg (fun q => c2 q.2)]
          · rw [ceq_f (by omega), if_neg (fun q => c q.1)]
        by_cases c : my (2 * s) = rs s ∧ my (2 * s + 1) = rz s
        · refine Or.inl ⟨s + 1, (), fun fuel => ?_, fun fuel => ?_, rfl, by omega⟩
          · show m_Mod_forged_33 (fuel + 1) n s (rs s) 0 mr ow my = _
            rw [kM, if_pos c]
          · show m_Vol_firstWrongRun_20 (fuel + 1) n s vow rm rs rz rmn rnu = _
            rw [kD, if_pos c]
        · refine Or.inr ⟨(s, 0, mr), (s, rm, rs, rz), fun fuel => ?_, fun fuel => ?_, s, rfl, rfl⟩
          · show m_Mod_forged_33 (fuel + 1) n s (rs s) 0 mr ow my = _
            rw [kM, if_neg c]
          · show m_Vol_firstWrongRun_20 (fuel + 1) n s vow rm rs rz rmn rnu = _
            rw [kD, if_neg c]) (fun s t hR => by
      obtain ⟨hs, hi⟩ := hR
      subst hs
      by_cases c : s = n
      · refine ⟨(-9, 0, mr), (-9, s, rs, rz), fun fuel => ?_, fun fuel => ?_, -9, rfl, rfl⟩
        · show m_Mod_forged_33 (fuel + 1) n s 64 0 mr ow my = _
          rw [m_Mod_forged_33, clt_f (by omega), clt_f (by omega)]
        · show m_Vol_firstWrongRun_20 (fuel + 1) n s vow s rs rz rmn rnu = _
          rw [m_Vol_firstWrongRun_20, gd_rr (by omega), clt_f (by omega), ceq_t (by omega)]
      · refine ⟨(s, 0, mr), (s, s, rs, rz), fun fuel => ?_, fun fuel => ?_, s, rfl, rfl⟩
        · show m_Mod_forged_33 (fuel + 1) n s 64 0 mr ow my = _
          rw [m_Mod_forged_33, clt_f (by omega), clt_t (by omega)]
        · show m_Vol_firstWrongRun_20 (fuel + 1) n s vow s rs rz rmn rnu = _
          rw [m_Vol_firstWrongRun_20, gd_rr (by omega), clt_f (by omega), ceq_f (by omega), gd_rr (by omega), show min n s = s by omega])
  exact ⟨r, e1.trans (congrArg some e3), e2.trans (congrArg some e4)⟩
end FGD
theorem e_forged : E_forged := by
  intro ik now nbt nki npl nva nwr kow kbt kki kpl kva kwr smn snu rmn rnu rf mr mb mo ml mw mt mk mp mq mz mh my mn nrm nrs nrz hR
  obtain ⟨hI, hD, hk, hk1, h5, h6, h7⟩ := id hR
  obtain ⟨g1, g2, g3, g4⟩ := id h7
  subst g1
  unfold m_Vol_forged m_Mod_forged
  rw [gd_xz (by omega), gd_xz (by omega), gd_xz (by omega)]
  by_cases h : rmn % 2 = 0
  · rw [ceq_t (by omega), ceq_f (by omega)]
    obtain ⟨rm', rs', rz', e, R⟩ := lookedAt hI hD nrm nrs nrz
    obtain ⟨r, e1, e2⟩ := p_forged (Inv.at hI).1 R (n := rmn / 2) (rmn := rmn) (vow := now) (rnu := rnu) (my := my) (mr := mr) ⟨by omega, g2, g3⟩ g4
    unfold m_Vol_firstWrongRun m_Row_empty_W32
    rw [e, bnd_s, gd_xz (by omega), e2, bnd_s, bnd_s, e1]
    exact ⟨_, _, rfl, rfl, rfl, hI, hD, hk, hk1, h5, h6, rfl, by show (0 : Int) ≤ 0; omega, by show (0 : Int) ≤ 32; omega, fun j q0 q1 => by
      have q1 : j < 0 := q1
      omega⟩
  · rw [ceq_f (by omega), ceq_t (by omega), p_refuse (by omega), p_no (by omega), bnd_s, bnd_s]
    exact ⟨_, _, rfl, rfl, rfl, hR.no (-3) (by omega)⟩
section GAT
variable {bt ow bl wr wa ki vow vbt vki vpl vva vwr : Int → Int}
def tk (ow : Int → Int) (b : Int) (n : Nat) : Int := cn (fun j => 0 ≤ ow (b + j)) n
theorem p_taken (hI : Inv bt ow bl wr wa ki) (hD : Dsk vow vbt vki vpl vva vwr bt ow bl wr wa ki) {b : Int} {n : Nat} (hb : 0 ≤ b) (hn : b + n ≤ 64) : m_Disk_takenAmong b n vow = some (tk ow b n) := by
  refine cn_loop (fun j => 0 ≤ ow (b + j)) n (fun fuel v i => m_Disk_takenAmong_5 fuel b n v i vow) (fun fuel v i hi h0 h1 => ?_) (fun fuel v h0 h1 => ?_) n 0 5000 (by omega) (by omega)
  · have ho := (Inv.at hI).1 (b + i) (by omega) (by omega)
    have hq := hD.1 (b + i) (by omega) (by omega)
    rw [m_Disk_takenAmong_5, clt_t (by omega), p_ownerAt (by omega), bnd_s]
    by_cases c : 0 ≤ ow (b + i)
    · rw [clt_f (by omega), if_pos c]
    · rw [clt_t (by omega), if_neg c, Int.add_zero]
  · skip
    rw [m_Disk_takenAmong_5, clt_f (by omega)]
theorem p_notFree (hI : Inv bt ow bl wr wa ki) {b : Int} {n : Nat} (hb : 0 ≤ b) (hn : b + n ≤ 64) : m_Mod_notFreeIn b n ow = some (tk ow b n) := by
  have e := cn_loop (fun j => 0 ≤ ow (b + j)) n (fun fuel v i => m_Mod_notFreeIn_5 fuel b n v (b + i) ow) (fun fuel v i hi h0 h1 => by
    have ho := (Inv.at hI).1 (b + i) (by omega) (by omega)
    rw [m_Mod_notFreeIn_5, clt_t (by omega), gd_x (by omega), Int.add_assoc b i 1]
    by_cases c : 0 ≤ ow (b + i)
    · rw [clt_f (by omega), if_pos c]
    · rw [clt_t (by omega), if_neg c]) (fun fuel v h0 h1 => by
    rw [m_Mod_notFreeIn_5, clt_f (by omega)]) n 0 5000 (by omega) (by omega)
  unfold m_Mod_notFreeIn
  have e2 : m_Mod_notFreeIn_5 5000 b n 0 (b + ((0 : Nat) : Int)) ow = some (tk ow b n) := e
  rw [show b + ((0 : Nat) : Int) = b by omega] at e2
  exact e2
theorem gather_loop (hI : Inv bt ow bl wr wa ki) (hD : Dsk vow vbt vki vpl vva vwr bt ow bl wr wa ki) {n : Nat} {x2 : Int} {mr : Int → Int} (hn : 1 ≤ n ∧ n ≤ 64) (hx : x2 = 0 ∨ x2 = 1) : ∀ (d : Nat) (i bD lD bM lM : Int) (fM fD : Nat), 0 ≤ i → i + n + d = 65 → d < fM → d < fD → ((bD = -1 ∧ bM = -9 ∧ lM = -9 ∧ lD = 64) ∨ (0 ≤ bD ∧ bD < i ∧ bM = bD ∧ lM = lD ∧ lD = tk ow bD n)) →
    (m_Disk_leastTakenWindow_14 fD n (cn (fun b => ow b < 0) 64) bD lD i vow = some (-1) ∧ m_Mod_gather_45 fM n x2 bM lM i mr ow = some (-9, mr)) ∨ (∃ b : Int, 0 ≤ b ∧ b + n ≤ 64 ∧ m_Disk_leastTakenWindow_14 fD n (cn (fun b => ow b < 0) 64) bD lD i vow = some b ∧ m_Mod_gather_45 fM n x2 bM lM i mr ow = some (if x2 = 0 then b else tk ow b n, mr)) := by
  have hf := cn_bd (fun b => ow b < 0) 64
  intro d
  induction d with
  | zero =>
    intro i bD lD bM lM fM fD h0 h1 h2 h3 h4
    cases fM with
    | zero => omega
    | succ fM =>
      cases fD with
      | zero => omega
      | succ fD =>
        rw [m_Disk_leastTakenWindow_14, cle_f (by omega), m_Mod_gather_45, cle_f (by omega)]
        rcases h4 with ⟨a1, a2, a3, a4⟩ | ⟨a1, a2, a3, a4, a5⟩
        · left
          subst a1
          subst a2
          subst a3
          refine ⟨rfl, ?_⟩
          rcases hx with hx | hx
          · rw [ceq_t (by omega)]
          · rw [ceq_f (by omega)]
        · right
          refine ⟨bD, a1, by omega, rfl, ?_⟩
          rcases hx with hx | hx
          · rw [ceq_t (by omega), if_pos hx, a3]
          · rw [ceq_f (by omega), if_neg (by omega), a4, a5]
  | succ d ih =>
    intro i bD lD bM lM fM fD h0 h1 h2 h3 h4
    cases fM with
    | zero => omega
    | succ fM =>
      cases fD with
      | zero => omega
      | succ fD =>
        have ht := cn_bd (fun j => 0 ≤ ow (i + j)) n
        have ht : 0 ≤ tk ow i n ∧ tk ow i n ≤ n := ht
        have hl : 0 ≤ lD ∧ lD ≤ 64 ∧ -9 ≤ lM ∧ lM ≤ 64 ∧ -9 ≤ bM ∧ bM ≤ 64 ∧ -1 ≤ bD ∧ bD ≤ 64 := by
          rcases h4 with ⟨a1, a2, a3, a4⟩ | ⟨a1, a2, a3, a4, a5⟩
          · omega
          · have q : 0 ≤ tk ow bD n ∧ tk ow bD n ≤ n := cn_bd (fun j => 0 ≤ ow (bD + j)) n
            omega
        have kD : m_Disk_leastTakenWindow_14 (fD + 1) n (cn (fun b => ow b < 0) 64) bD lD i vow = if tk ow i n ≤ cn (fun b => ow b < 0) 64 - (n - tk ow i n) ∧ (bD < 0 ∨ tk ow i n < lD) then m_Disk_leastTakenWindow_14 fD n (cn (fun b => ow b < 0) 64) i (tk ow i n) (i + 1) vow else m_Disk_leastTakenWindow_14 fD n (cn (fun b => ow b < 0) 64) bD lD (i + 1) vow := by
          rw [m_Disk_leastTakenWindow_14, cle_t (by omega), p_taken hI hD h0 (by omega), bnd_s]
          by_cases c : tk ow i n ≤ cn (fun b => ow b < 0) 64 - (n - tk ow i n)
          · rw [cle_t (by omega)]
            by_cases c2 : bD < 0
            · rw [clt_t (by omega), if_pos ⟨c, Or.inl c2⟩]
            · rw [clt_f (by omega)]
              by_cases c3 : tk ow i n < lD
              · rw [clt_t (by omega), if_pos ⟨c, Or.inr c3⟩]
              · rw [clt_f (by omega), if_neg (fun q => q.2.elim c2 c3)]
          · rw [cle_f (by omega), if_neg (fun q => c q.1)]
        have kM : m_Mod_gather_45 (fM + 1) n x2 bM lM i mr ow = if tk ow i n ≤ cn (fun b => ow b < 0) 64 - (n - tk ow i n) ∧ (bM < 0 ∨ tk ow i n < lM) then m_Mod_gather_45 fM n x2 i (tk ow i n) (i + 1) mr ow else m_Mod_gather_45 fM n x2 bM lM (i + 1) mr ow := by
          rw [m_Mod_gather_45, cle_t (by omega), p_notFree hI h0 (by omega), bnd_s, pM_free hI, bnd_s]
          by_cases c : tk ow i n ≤ cn (fun b => ow b < 0) 64 - (n - tk ow i n)
          · rw [cle_t (by omega)]
            by_cases c2 : bM < 0
            · rw [clt_t (by omega), if_pos ⟨c, Or.inl c2⟩]
            · rw [clt_f (by omega)]
              by_cases c3 : tk ow i n < lM
              · rw [clt_t (by omega), if_pos ⟨c, Or.inr c3⟩]
              · rw [clt_f (by omega), if_neg (fun q => q.2.elim c2 c3)]
          · rw [cle_f (by omega), if_neg (fun q => c q.1)]
        rw [kD, kM]
        by_cases c : tk ow i n ≤ cn (fun b => ow b < 0) 64 - (n - tk ow i n) ∧ (bD < 0 ∨ tk ow i n < lD)
        · rw [if_pos c, if_pos ⟨c.1, by omega⟩]
          exact ih (i + 1) i (tk ow i n) i (tk ow i n) fM fD (by omega) (by omega) (by omega) (by omega) (Or.inr ⟨h0, by omega, rfl, rfl, rfl⟩)
        · rw [if_neg c, if_neg (by omega)]
          exact ih (i + 1) bD lD bM lM fM fD (by omega) (by omega) (by omega) (by omega) (h4.elim Or.inl (fun q => Or.inr ⟨q.1, by omega, q.2.2⟩))
end GAT
theorem e_gather : E_gather := by
  intro ik now nbt nki npl nva nwr kow kbt kki kpl kva kwr smn snu rmn rnu rf mr mb mo ml mw mt mk mp mq mz mh my mn x1 x2 hR hx hx2
  obtain ⟨hI, hD, hk, hk1, h5, h6, h7⟩ := id hR
  unfold m_Vol_gather m_Mod_gather
  simp only [jn_s]
  rw [p_refusalOfSize hx, bnd_s, p_Mod_bound hx (by omega) (by omega), bnd_s]
  by_cases h1 : x1 < 1
  · rw [if_pos h1, ceq_f (by omega), clt_t (by omega), p_refuse (by omega), bnd_s, ceq_f (by omega), ceq_f (by omega), p_no (by omega), bnd_s]
    exact ⟨_, _, rfl, rfl, rfl, hR.no (-4) (by omega)⟩
  · rw [if_neg h1]
    by_cases h2 : x1 ≤ 64
    · rw [if_pos h2, ceq_t (by omega), ceq_t (x := 0) (y := 0) (by omega), p_Vol_isEither hx2, bnd_s, p_Mod_isIn hx2 (by omega) (by omega), bnd_s, ceq_yn, ceq_yn]
      by_cases hw : x2 = 0 ∨ x2 = 1
      · rw [if_pos hw, if_pos (by omega), clt_f (by omega)]
        have ht := gather_loop hI hD (n := x1.toNat) (x2 := x2) (mr := mr) ⟨by omega, by omega⟩ hw (65 - x1).toNat 0 (-1) 64 (-9) (-9) 5000 5000 (by omega) (by omega) (by omega) (by omega) (Or.inl ⟨rfl, rfl, rfl, rfl⟩)
        rw [show ((x1.toNat : Nat) : Int) = x1 by omega] at ht
        unfold m_Disk_leastTakenWindow
        rw [pD_free hI hD, bnd_s]
        rcases ht with ⟨e1, e2⟩ | ⟨b, b0, b1, e1, e2⟩
        · rw [e1, bnd_s, clt_t (by omega), ceq_t (by omega), e2]
          exact ⟨_, _, rfl, rfl, rfl, hR⟩
        · rw [e1, bnd_s, clt_f (by omega)]
          rcases hw with hw | hw
          · rw [ceq_t (by omega), ceq_t (by omega), e2, if_pos hw]
            exact ⟨_, _, rfl, rfl, rfl, hR⟩
          · have e3 := p_taken hI hD (b := b) (n := x1.toNat) b0 (by omega)
            rw [show ((x1.toNat : Nat) : Int) = x1 by omega] at e3
            rw [ceq_f (by omega), e3, bnd_s, ceq_t (by omega), e2, if_neg (by omega)]
            exact ⟨_, _, rfl, rfl, rfl, hR⟩
      · rw [if_neg hw, if_neg (by omega), clt_t (by omega), ceq_f (by omega), p_refuse (by omega), p_no (by omega), bnd_s, bnd_s]
        exact ⟨_, _, rfl, rfl, rfl, hR.no (-2) (by omega)⟩
    · rw [if_neg h2, ceq_f (by omega), clt_t (by omega), p_refuse (by omega), bnd_s, ceq_f (by omega), ceq_f (by omega), p_no (by omega), bnd_s]
      exact ⟨_, _, rfl, rfl, rfl, hR.no (-6) (by omega)⟩
