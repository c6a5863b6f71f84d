/-! where a piece begins: by KIND -/
section PLC
variable {ow : Int → Int} {rm : Int} {rs rz : Int → Int}
theorem p_near (hb : ∀ b : Int, 0 ≤ b → b < 64 → -9 ≤ ow b ∧ ow b < 96) (R : RunsTo ow 64 rm rs rz) {gM gD n : Int} (hg : (gM = -9 ∧ gD = -1) ∨ (0 ≤ gM ∧ gM < 64 ∧ gD = gM)) (hn : 1 ≤ n ∧ n ≤ 64) : ∃ x h : Int, m_Mod_nearPlace gM n ow = some x ∧ m_Runs_holds gD n rm rs rz = some h ∧ ((h = 1 ∧ x = gM ∧ gD = gM ∧ 0 ≤ gM ∧ fre ow gM n) ∨ (h = 0 ∧ x = -9 ∧ (0 ≤ gM → ¬ fre ow gM n))) := by
  rcases hg with ⟨g1, g2⟩ | ⟨g1, g2, g3⟩
  · subst g1
    subst g2
    refine ⟨-9, 0, ?_, p_holds_no R hn, Or.inr ⟨rfl, rfl, fun q => by omega⟩⟩
    unfold m_Mod_nearPlace
    rw [clt_t (by omega)]
  · subst g3
    rcases p_nearPlace hb (b := gD) ⟨g1, g2⟩ hn with ⟨q, e⟩ | ⟨q, e⟩
    · rcases p_holds R (b := gD) ⟨g1, g2⟩ hn with ⟨-, e2⟩ | ⟨q2, -⟩
      · exact ⟨gD, 1, e, e2, Or.inl ⟨rfl, rfl, rfl, g1, q⟩⟩
      · exact absurd q q2
    · rcases p_holds R (b := gD) ⟨g1, g2⟩ hn with ⟨q2, -⟩ | ⟨-, e2⟩
      · exact absurd q2 q
      · exact ⟨-9, 0, e, e2, Or.inr ⟨rfl, rfl, fun _ => q⟩⟩
theorem p_placeBy (hb : ∀ b : Int, 0 ≤ b → b < 64 → -9 ≤ ow b ∧ ow b < 96) (R : RunsTo ow 64 rm rs rz) {k gM gD n : Int} (hk : 0 ≤ k ∧ k ≤ 5) (hg : (gM = -9 ∧ gD = -1) ∨ (0 ≤ gM ∧ gM < 64 ∧ gD = gM)) (hn : 1 ≤ n ∧ n ≤ 64) (hx : ∃ j : Int, 0 ≤ j ∧ j < rm ∧ n ≤ rz j) : ∃ u, m_Mod_placeBy k gM n ow = some u ∧ m_Runs_beginOf k gD n rm rs rz = some u ∧ 0 ≤ u ∧ fre ow u n := by
  obtain ⟨u0, v0, f1, f2, f3⟩ := p_fitOf hb R (n := n) ⟨by omega, by omega⟩
  have f4 : 0 ≤ v0 ∧ v0 < rm ∧ u0 = rs v0 ∧ n ≤ rz v0 := by
    rcases f3 with ⟨q1, q2, q3⟩ | q
    · obtain ⟨j, j0, j1, j2⟩ := hx
      have := q3 j j0 j1
      omega
    · exact q
  obtain ⟨v1, v2, v3, v4⟩ := f4
  have hv := R.at v1 v2
  have hfit : fre ow (rs v0) n := (R.fre (by omega) hn.1).mpr ⟨v0, v1, v2, by omega, by omega⟩
  have hst := p_startAt (rs := rs) v1 v2 hv.2.2
  have hsz := p_sizeAt (rz := rz) v1 v2 hv.2.2
  subst v3
  obtain ⟨x, h, n1, n2, n3⟩ := p_near hb R hg hn
  have hgb : -1 ≤ gD ∧ gD < 64 ∧ -9 ≤ gM ∧ gM < 64 := by omega
  unfold m_Mod_placeBy m_Runs_beginOf
  simp only [jn_s]
  rw [f1, bnd_s, n1, bnd_s, f2, bnd_s, n2, bnd_s]
  have hkk : k = 0 ∨ k = 1 ∨ k = 2 ∨ k = 3 ∨ k = 4 ∨ k = 5 := by omega
  rcases hkk with c | c | c | c | c | c
  · subst c
    refine ⟨rs v0, ?_, ?_, by omega, hfit⟩
    · rw [ceq_f (by omega), ceq_f (by omega), ceq_f (by omega), ceq_f (by omega), ceq_f (by omega), ceq_f (by omega)]
    · rcases n3 with ⟨a1, a2, a3, a4, a5⟩ | ⟨a1, a2, a3⟩
      · rw [ceq_f (by omega), ceq_f (by omega), ceq_f (by omega), ceq_f (by omega), ceq_f (by omega), ceq_f (by omega), ceq_f (by omega), hst, bnd_s]
      · rw [ceq_t (by omega), hst, bnd_s, ceq_f (by omega), ceq_f (by omega), ceq_f (by omega), ceq_f (by omega), ceq_f (by omega), ceq_f (by omega), bnd_s]
  · subst c
    rcases n3 with ⟨a1, a2, a3, a4, a5⟩ | ⟨a1, a2, a3⟩
    · refine ⟨gM, ?_, ?_, a4, a5⟩
      · rw [ceq_f (by omega), ceq_t (by omega), clt_f (by omega), a2]
      · rw [ceq_f (by omega), ceq_f (by omega), ceq_t (by omega), a3]
    · refine ⟨rs v0, ?_, ?_, by omega, hfit⟩
      · rw [ceq_f (by omega), ceq_t (by omega), clt_t (by omega)]
      · rw [ceq_t (by omega), hst, bnd_s, ceq_f (by omega), ceq_t (by omega)]
  · subst c
    have near : ∃ u, clt x 0 (some (rs v0)) (some x) = some u ∧ (h = 1 ∧ u = gD ∨ h = 0 ∧ u = rs v0) ∧ 0 ≤ u ∧ fre ow u n := by
      rcases n3 with ⟨a1, a2, a3, a4, a5⟩ | ⟨a1, a2, a3⟩
      · exact ⟨x, clt_f (by omega), Or.inl ⟨a1, by omega⟩, by omega, a2 ▸ a5⟩
      · exact ⟨rs v0, clt_t (by omega), Or.inr ⟨a1, rfl⟩, by omega, hfit⟩
    obtain ⟨u, m1, m2, m3, m4⟩ := near
    by_cases h4 : n < 4
    · refine ⟨u, ?_, ?_, m3, m4⟩
      · rw [ceq_t (by omega), clt_t (by omega), ceq_f (by omega), ceq_t (by omega), clt_t (by omega)]
        exact m1
      · rcases m2 with ⟨q1, q2⟩ | ⟨q1, q2⟩
        · rw [ceq_f (by omega), ceq_t (by omega), clt_t (by omega), ceq_f (by omega), ceq_t (by omega), clt_t (by omega), q2]
        · rw [ceq_t (by omega), hst, bnd_s, ceq_t (by omega), clt_t (by omega), ceq_f (by omega), ceq_t (by omega), clt_t (by omega), q2]
    · rcases p_stripe hb R hn with ⟨y, s1, s2, s3, s4⟩ | ⟨s3, s4⟩
      · have hy := s2.1
        refine ⟨y, ?_, ?_, s1, s2⟩
        · rw [ceq_t (by omega), clt_f (by omega), s3, bnd_s, ceq_f (by omega), ceq_t (by omega), clt_f (by omega)]
        · rcases m2 with ⟨q1, q2⟩ | ⟨q1, q2⟩
          · rw [ceq_f (by omega), ceq_t (by omega), clt_f (by omega), s4, bnd_s, ceq_f (by omega), ceq_t (by omega), clt_f (by omega)]
          · rw [ceq_t (by omega), hst, bnd_s, ceq_t (by omega), clt_f (by omega), s4, bnd_s, ceq_f (by omega), ceq_t (by omega), clt_f (by omega)]
      · refine ⟨u, ?_, ?_, m3, m4⟩
        · rw [ceq_t (by omega), clt_f (by omega), s3, bnd_s, ceq_f (by omega), ceq_t (by omega), clt_t (by omega)]
          exact m1
        · rcases m2 with ⟨q1, q2⟩ | ⟨q1, q2⟩
          · rw [ceq_f (by omega), ceq_t (by omega), clt_f (by omega), s4, bnd_s, ceq_f (by omega), ceq_t (by omega), clt_t (by omega), q2]
          · rw [ceq_t (by omega), hst, bnd_s, ceq_t (by omega), clt_f (by omega), s4, bnd_s, ceq_f (by omega), ceq_t (by omega), clt_t (by omega), q2]
  · subst c
    obtain ⟨u, v, g, e1, e2, e3, e4, g0, g1, g2, g3⟩ := p_great hb R
    have g4 : 0 ≤ v ∧ v < rm ∧ u = rs v ∧ g = rz v := by
      rcases g3 with ⟨q1, q2, q3, q4⟩ | q
      · omega
      · exact q
    obtain ⟨w1, w2, w3, w4⟩ := g4
    have hw := R.at w1 w2
    have hmax := g2 v0 v1 v2
    refine ⟨rs v, ?_, ?_, by omega, (R.fre (by omega) hn.1).mpr ⟨v, w1, w2, by omega, by omega⟩⟩
    · rw [ceq_f (by omega), ceq_f (by omega), ceq_f (by omega), ceq_t (by omega), e1, bnd_s, w3]
    · rcases n3 with ⟨a1, a2, a3, a4, a5⟩ | ⟨a1, a2, a3⟩
      · rw [ceq_f (by omega), ceq_f (by omega), ceq_f (by omega), ceq_f (by omega), ceq_t (by omega), e2, bnd_s, p_startAt w1 w2 hw.2.2, bnd_s]
      · rw [ceq_t (by omega), hst, bnd_s, ceq_f (by omega), ceq_f (by omega), ceq_f (by omega), ceq_t (by omega), e2, bnd_s, p_startAt w1 w2 hw.2.2, bnd_s]
  · subst c
    refine ⟨rs v0 + rz v0 - n, ?_, ?_, by omega, (R.fre (by omega) hn.1).mpr ⟨v0, v1, v2, by omega, by omega⟩⟩
    · rw [ceq_f (by omega), ceq_f (by omega), ceq_f (by omega), ceq_f (by omega), ceq_t (by omega), pM_size_at hb R v1 v2, bnd_s]
    · rcases n3 with ⟨a1, a2, a3, a4, a5⟩ | ⟨a1, a2, a3⟩
      · rw [ceq_f (by omega), ceq_f (by omega), ceq_f (by omega), ceq_f (by omega), ceq_f (by omega), ceq_t (by omega), hst, bnd_s, hsz, bnd_s]
      · rw [ceq_t (by omega), hst, bnd_s, ceq_f (by omega), ceq_f (by omega), ceq_f (by omega), ceq_f (by omega), ceq_t (by omega), bnd_s, hsz, bnd_s]
  · subst c
    rcases n3 with ⟨a1, a2, a3, a4, a5⟩ | ⟨a1, a2, a3⟩
    · refine ⟨gM, ?_, ?_, a4, a5⟩
      · rw [ceq_f (by omega), ceq_f (by omega), ceq_f (by omega), ceq_f (by omega), ceq_f (by omega), ceq_t (by omega), clt_f (by omega), a2]
      · rw [ceq_f (by omega), ceq_f (by omega), ceq_f (by omega), ceq_f (by omega), ceq_f (by omega), ceq_f (by omega), ceq_t (by omega), clt_f (by omega), ceq_t (by omega), a3]
    · by_cases hg0 : gM < 0
      · refine ⟨rs v0, ?_, ?_, by omega, hfit⟩
        · rw [ceq_f (by omega), ceq_f (by omega), ceq_f (by omega), ceq_f (by omega), ceq_f (by omega), ceq_t (by omega), clt_t (by omega), clt_t (by omega)]
        · rw [ceq_t (by omega), hst, bnd_s, ceq_f (by omega), ceq_f (by omega), ceq_f (by omega), ceq_f (by omega), ceq_f (by omega), ceq_t (by omega), clt_t (by omega)]
      · have hgg : gD = gM := by omega
        have hne : rs v0 ≠ gM := fun q => a3 (by omega) (q ▸ hfit)
        obtain ⟨u, v, e1, e2, e3⟩ := p_nearest hb R (to := gM) (n := n) ⟨by omega, by omega⟩ ⟨by omega, by omega⟩
        have e4 : 0 ≤ v ∧ v < rm ∧ u = rs v ∧ n ≤ rz v := by
          rcases e3 with ⟨q1, q2, q3⟩ | q
          · have := q3 v0 v1 v2
            omega
          · exact q
        obtain ⟨w1, w2, w3, w4⟩ := e4
        have hw := R.at w1 w2
        refine ⟨rs v, ?_, ?_, by omega, (R.fre (by omega) hn.1).mpr ⟨v, w1, w2, by omega, by omega⟩⟩
        · rw [ceq_f (by omega), ceq_f (by omega), ceq_f (by omega), ceq_f (by omega), ceq_f (by omega), ceq_t (by omega), clt_t (by omega), clt_f (by omega), e1, bnd_s, w3]
        · rw [hgg, ceq_t (by omega), hst, bnd_s, ceq_f (by omega), ceq_f (by omega), ceq_f (by omega), ceq_f (by omega), ceq_f (by omega), ceq_t (by omega), clt_f (by omega), ceq_f (by omega), e2, bnd_s, p_startAt w1 w2 hw.2.2, bnd_s]
end PLC
