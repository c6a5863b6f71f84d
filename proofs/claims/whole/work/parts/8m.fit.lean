/-! e_fit, e_nearest, e_count -/
theorem p_refusalOfSize {x : Int} (h : -2147483648 ≤ x ∧ x < 2147483648) : m_Vol_refusalOfSize x = some (if x < 1 then -4 else if x ≤ 64 then 0 else -6) := by
  unfold m_Vol_refusalOfSize
  by_cases h1 : x < 1
  · rw [clt_t (by omega), if_pos h1]
  · rw [clt_f (by omega), if_neg h1]
    by_cases h2 : x ≤ 64
    · rw [cle_t (by omega), if_pos h2]
    · rw [cle_f (by omega), if_neg h2]
section LKD
variable {bt ow bl wr wa ki vow vbt vki vpl vva vwr : Int → Int}
theorem lookedAt (hI : Inv bt ow bl wr wa ki) (hD : Dsk vow vbt vki vpl vva vwr bt ow bl wr wa ki) (rm : Int) (rs rz : Int → Int) : ∃ rm' rs' rz', m_Disk_lookedAtRuns vow rm rs rz = some (rm', rs', rz') ∧ RunsTo ow 64 rm' rs' rz' := by
  obtain ⟨rm', rs', rz', e, R⟩ := looked hI hD rm rs rz
  exact ⟨rm', rs', rz', by unfold m_Disk_lookedAtRuns; rw [e, bnd_s], R⟩
theorem greatestD (hI : Inv bt ow bl wr wa ki) (hD : Dsk vow vbt vki vpl vva vwr bt ow bl wr wa ki) (rm : Int) (rs rz : Int → Int) : ∃ g rm' rs' rz', m_Disk_greatestSize vow rm rs rz = some (g, rm', rs', rz') ∧ m_Mod_greatestSize ow = some g ∧ 0 ≤ g ∧ g ≤ 64 := by
  obtain ⟨rm', rs', rz', e, R⟩ := looked hI hD rm rs rz
  obtain ⟨u, v, g, e1, e2, e3, e4, g0, g1, -⟩ := p_great (Inv.at hI).1 R
  refine ⟨g, rm', rs', rz', ?_, e3, g0, g1⟩
  unfold m_Disk_greatestSize
  rw [e, bnd_s]
  dsimp only
  rw [e2, bnd_s, e4, bnd_s]
end LKD
theorem e_fit : E_fit := by
  intro ik now nbt nki npl nva nwr kow kbt kki kpl kva kwr smn snu rmn rnu rf mr mb mo ml mw mt mk mp mq mz mh my mn nrm nrs nrz x1 hR hx
  obtain ⟨hI, hD, hk, hk1, h5, h6, h7⟩ := id hR
  unfold m_Vol_fit m_Mod_fit
  rw [p_refusalOfSize hx, bnd_s, p_Mod_bound hx (by omega) (by omega), bnd_s]
  by_cases h1 : x1 < 1
  · rw [if_pos h1, clt_t (by omega), ceq_f (by omega), p_refuse (by omega), p_no (by omega), bnd_s, bnd_s]
    exact ⟨_, _, rfl, rfl, rfl, hR.no (-4) (by omega)⟩
  · rw [if_neg h1]
    by_cases h2 : x1 ≤ 64
    · rw [if_pos h2, clt_f (by omega), ceq_t (by omega)]
      obtain ⟨rm', rs', rz', e, R⟩ := lookedAt hI hD nrm nrs nrz
      obtain ⟨u, v, f1, f2, f3⟩ := p_fitOf (Inv.at hI).1 R (n := x1) ⟨by omega, by omega⟩
      rw [e, bnd_s, f1, bnd_s]
      dsimp only
      rw [f2, bnd_s]
      rcases f3 with ⟨q1, q2, q3⟩ | ⟨q1, q2, q3, q4⟩
      · rw [q2, p_startAt_no, bnd_s, p_orNothing (by omega), bnd_s, if_pos (by omega), q1]
        exact ⟨_, _, rfl, rfl, rfl, hR⟩
      · have hv := R.at q1 q2
        rw [p_startAt q1 q2 hv.2.2, bnd_s, p_orNothing (by omega), bnd_s, if_neg (by omega), q3]
        exact ⟨_, _, rfl, rfl, rfl, hR⟩
    · rw [if_neg h2, clt_t (by omega), ceq_f (by omega), p_refuse (by omega), p_no (by omega), bnd_s, bnd_s]
      exact ⟨_, _, rfl, rfl, rfl, hR.no (-6) (by omega)⟩
theorem e_nearest : E_nearest := by
  intro ik now nbt nki npl nva nwr kow kbt kki kpl kva kwr smn snu rmn rnu rf mr mb mo ml mw mt mk mp mq mz mh my mn nrm nrs nrz x1 x2 hR hx hx2
  obtain ⟨hI, hD, hk, hk1, h5, h6, h7⟩ := id hR
  unfold m_Vol_nearest m_Mod_nearest
  simp only [jn_s]
  rw [p_Vol_isBlock hx, bnd_s, p_Mod_isBlock hx, bnd_s, ceq_yn, ceq_yn]
  by_cases hb : 0 ≤ x1 ∧ x1 < 64
  · rw [if_pos hb, if_pos hb, p_refusalOfSize hx2, bnd_s, p_Mod_bound hx2 (by omega) (by omega), bnd_s]
    by_cases h1 : x2 < 1
    · rw [if_pos h1, clt_t (by omega), ceq_f (by omega), p_refuse (by omega), p_no (by omega), bnd_s, bnd_s]
      exact ⟨_, _, rfl, rfl, rfl, hR.no (-4) (by omega)⟩
    · rw [if_neg h1]
      by_cases h2 : x2 ≤ 64
      · rw [if_pos h2, clt_f (by omega), ceq_t (by omega)]
        obtain ⟨rm', rs', rz', e, R⟩ := lookedAt hI hD nrm nrs nrz
        obtain ⟨u, v, f1, f2, f3⟩ := p_nearest (Inv.at hI).1 R (to := x1) (n := x2) hb ⟨by omega, by omega⟩
        rw [e, bnd_s, f1, bnd_s]
        dsimp only
        rw [f2, bnd_s]
        rcases f3 with ⟨q1, q2, q3⟩ | ⟨q1, q2, q3, q4⟩
        · rw [q2, p_startAt_no, bnd_s, p_orNothing (by omega), bnd_s, if_pos (by omega), q1]
          exact ⟨_, _, rfl, rfl, rfl, hR⟩
        · have hv := R.at q1 q2
          rw [p_startAt q1 q2 hv.2.2, bnd_s, p_orNothing (by omega), bnd_s, if_neg (by omega), q3]
          exact ⟨_, _, rfl, rfl, rfl, hR⟩
      · rw [if_neg h2, clt_t (by omega), ceq_f (by omega), p_refuse (by omega), p_no (by omega), bnd_s, bnd_s]
        exact ⟨_, _, rfl, rfl, rfl, hR.no (-6) (by omega)⟩
  · rw [if_neg hb, if_neg hb, ceq_f (by omega), p_refuse (by omega), p_no (by omega), bnd_s, bnd_s]
    exact ⟨_, _, rfl, rfl, rfl, hR.no (-1) (by omega)⟩
theorem e_count : E_count := by
  intro ik now nbt nki npl nva nwr kow kbt kki kpl kva kwr smn snu rmn rnu rf mr mb mo ml mw mt mk mp mq mz mh my mn nrm nrs nrz x1 hR hx
  obtain ⟨hI, hD, hk, hk1, h5, h6, h7⟩ := id hR
  unfold m_Vol_count m_Mod_count
  simp only [jn_s]
  rw [p_Mod_isIn hx (by omega) (by omega), bnd_s, ceq_yn]
  by_cases hA : 11 ≤ x1 ∧ x1 ≤ 16
  · rw [if_pos hA, clt_f (by omega), cle_t (by omega), gd_x (by omega), gd_x (by omega)]
    exact ⟨_, _, rfl, rfl, h5 (x1 - 10) (by omega) (by omega), hR⟩
  · rw [if_neg hA]
    have key : ∀ {α : Type} {A B : Option α}, clt x1 11 A (cle x1 16 B A) = A := by
      intro α A B
      by_cases c : x1 < 11
      · rw [clt_t (by omega)]
      · rw [clt_f (by omega), cle_f (by omega)]
    rw [key]
    by_cases c0 : x1 = 0
    · rw [ceq_t (by omega), ceq_t (by omega), pD_free hI hD, pM_free hI, bnd_s, bnd_s]
      exact ⟨_, _, rfl, rfl, rfl, hR⟩
    rw [ceq_f (by omega), ceq_f (x := x1) (y := 0) (by omega)]
    by_cases c1 : x1 = 1
    · rw [ceq_t (by omega), ceq_t (by omega), pD_promisedInAll hI hD, pM_reserved hI, bnd_s, bnd_s]
      exact ⟨_, _, rfl, rfl, rfl, hR⟩
    rw [ceq_f (by omega), ceq_f (x := x1) (y := 1) (by omega)]
    by_cases c2 : x1 = 2
    · rw [ceq_t (by omega), ceq_t (by omega), pD_room hI hD, pM_room hI, bnd_s, bnd_s]
      exact ⟨_, _, rfl, rfl, rfl, hR⟩
    rw [ceq_f (by omega), ceq_f (x := x1) (y := 2) (by omega)]
    by_cases c3 : x1 = 3
    · obtain ⟨rm', rs', rz', e, R⟩ := lookedAt hI hD nrm nrs nrz
      rw [ceq_t (by omega), ceq_t (by omega), e, p_runs (Inv.at hI).1 R, bnd_s, bnd_s]
      exact ⟨_, _, rfl, rfl, rfl, hR⟩
    rw [ceq_f (by omega), ceq_f (x := x1) (y := 3) (by omega)]
    by_cases c4 : x1 = 4
    · obtain ⟨g, rm', rs', rz', e, e2, -⟩ := greatestD hI hD nrm nrs nrz
      rw [ceq_t (by omega), ceq_t (by omega), e, e2, bnd_s, bnd_s]
      exact ⟨_, _, rfl, rfl, rfl, hR⟩
    rw [ceq_f (by omega), ceq_f (x := x1) (y := 4) (by omega)]
    by_cases c5 : x1 = 5
    · rw [ceq_t (by omega), ceq_t (by omega), pD_extentsInAll hI hD, pM_allExtents hI, bnd_s, bnd_s]
      exact ⟨_, _, rfl, rfl, rfl, hR⟩
    rw [ceq_f (by omega), ceq_f (x := x1) (y := 5) (by omega)]
    by_cases c6 : x1 = 6
    · rw [ceq_t (by omega), ceq_t (by omega)]
      exact ⟨_, _, rfl, rfl, h7.1, hR⟩
    rw [ceq_f (by omega), ceq_f (x := x1) (y := 6) (by omega)]
    by_cases c7 : x1 = 7
    · rw [ceq_t (by omega), ceq_t (by omega)]
      exact ⟨_, _, rfl, rfl, h6.1, hR⟩
    rw [ceq_f (by omega), ceq_f (by omega)]
    exact ⟨_, _, rfl, rfl, rfl, hR⟩
