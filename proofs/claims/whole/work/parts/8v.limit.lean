/-! a flush that is told no more steps than it has -/
theorem steps_e {made M : Int} {r : Int × Int} (h : m_Mod_steps_ made M = some r) : (made = M ∧ r = (0, made)) ∨ (made ≠ M ∧ r = (1, made + 1)) := by
  unfold m_Mod_steps_ at h
  obtain ⟨-, h⟩ := ceq_e h
  rcases h with ⟨q, h⟩ | ⟨q, h⟩
  · cases h
    exact Or.inl ⟨q, rfl⟩
  · cases h
    exact Or.inr ⟨q, rfl⟩
theorem steps_ok {made M : Int} (h0 : 0 ≤ made ∧ made < 1000) (hM : made < M ∧ M ≤ 1000) : m_Mod_steps_ made M = some (1, made + 1) := by
  unfold m_Mod_steps_
  rw [ceq_f (by omega)]
section LIM
variable {ki wa : Int → Int}
theorem puts_lim {a : Int} : ∀ (fuel : Nat) (l n made r st : Int) (ow bl wr ow' bl' wr' : Int → Int), 0 ≤ made → m_Mod_puts_5 fuel a l n made 1000000 ow bl wr ki = some (r, st, ow', bl', wr') → made ≤ st ∧ (st ≤ 99 → r = 1 ∧ ∀ M : Int, st ≤ M → M ≤ 1000 → m_Mod_puts_5 fuel a l n made M ow bl wr ki = some (r, st, ow', bl', wr')) := by
  intro fuel
  induction fuel with
  | zero =>
    intro l n made r st ow bl wr ow' bl' wr' _ h
    rw [m_Mod_puts_5] at h
    cases h
  | succ fuel ih =>
    intro l n made r st ow bl wr ow' bl' wr' hm h
    rw [m_Mod_puts_5] at h
    obtain ⟨z0, h⟩ := cle_e h
    rcases h with ⟨q, h⟩ | ⟨q, h⟩
    · cases h
      refine ⟨by omega, fun _ => ⟨rfl, fun M _ _ => ?_⟩⟩
      rw [m_Mod_puts_5, cle_t (by omega)]
    · obtain ⟨r1, e1, h⟩ := bnd_e h
      rcases steps_e e1 with ⟨q2, q3⟩ | ⟨q2, q3⟩
      · subst q3
        dsimp only at h
        rw [ceq_t (by omega)] at h
        cases h
        exact ⟨by omega, fun c => by omega⟩
      · subst q3
        dsimp only at h
        rw [ceq_f (by omega)] at h
        obtain ⟨r3, e3, h⟩ := bnd_e h
        simp only [jn_s] at h
        obtain ⟨z1, h⟩ := clt_e h
        rcases h with ⟨p1, h⟩ | ⟨p1, h⟩
        · obtain ⟨r37, e37, h⟩ := bnd_e h
          rw [e3] at e37
          cases e37
          obtain ⟨z2, h⟩ := ceq_e h
          rcases h with ⟨p2, h⟩ | ⟨p2, h⟩
          · obtain ⟨g1, h⟩ := gd_e h
            obtain ⟨g2, h⟩ := gd_e h
            obtain ⟨r31, e31, h⟩ := bnd_e h
            obtain ⟨r33, e33, h⟩ := bnd_e h
            obtain ⟨r25, e25, h⟩ := bnd_e h
            obtain ⟨i1, i2⟩ := ih _ _ _ _ _ _ _ _ _ _ _ (by omega) h
            refine ⟨by omega, fun c => ⟨(i2 c).1, fun M h1 h2 => ?_⟩⟩
            rw [m_Mod_puts_5, cle_f (by omega), steps_ok (by omega) (by omega), bnd_s]
            dsimp only
            rw [ceq_f (by omega), e3, bnd_s]
            simp only [jn_s]
            rw [clt_t (by omega), bnd_s, ceq_t (by omega), gd_t g1, gd_t g2, e31, bnd_s, e33, bnd_s, e25, bnd_s]
            exact (i2 c).2 M h1 h2
          · obtain ⟨r29, e29, h⟩ := bnd_e h
            obtain ⟨r25, e25, h⟩ := bnd_e h
            obtain ⟨i1, i2⟩ := ih _ _ _ _ _ _ _ _ _ _ _ (by omega) h
            refine ⟨by omega, fun c => ⟨(i2 c).1, fun M h1 h2 => ?_⟩⟩
            rw [m_Mod_puts_5, cle_f (by omega), steps_ok (by omega) (by omega), bnd_s]
            dsimp only
            rw [ceq_f (by omega), e3, bnd_s]
            simp only [jn_s]
            rw [clt_t (by omega), bnd_s, ceq_f (by omega), e29, bnd_s, e25, bnd_s]
            exact (i2 c).2 M h1 h2
        · obtain ⟨z2, h⟩ := ceq_e h
          rcases h with ⟨p2, h⟩ | ⟨p2, h⟩
          · obtain ⟨g1, h⟩ := gd_e h
            obtain ⟨g2, h⟩ := gd_e h
            obtain ⟨r31, e31, h⟩ := bnd_e h
            obtain ⟨r33, e33, h⟩ := bnd_e h
            obtain ⟨r25, e25, h⟩ := bnd_e h
            obtain ⟨i1, i2⟩ := ih _ _ _ _ _ _ _ _ _ _ _ (by omega) h
            refine ⟨by omega, fun c => ⟨(i2 c).1, fun M h1 h2 => ?_⟩⟩
            rw [m_Mod_puts_5, cle_f (by omega), steps_ok (by omega) (by omega), bnd_s]
            dsimp only
            rw [ceq_f (by omega), e3, bnd_s]
            simp only [jn_s]
            rw [clt_f (by omega), ceq_t (by omega), gd_t g1, gd_t g2, e31, bnd_s, e33, bnd_s, e25, bnd_s]
            exact (i2 c).2 M h1 h2
          · exact absurd rfl p2
theorem places_lim {f : Int} : ∀ (fuel : Nat) (p made r st : Int) (ow bl wr ow' bl' wr' : Int → Int), 0 ≤ made → m_Mod_placesAll_2 fuel f p made 1000000 ow bl wr wa ki = some (r, st, ow', bl', wr') → made ≤ st ∧ (st ≤ 99 → r = 1 ∧ ∀ M : Int, st ≤ M → M ≤ 1000 → m_Mod_placesAll_2 fuel f p made M ow bl wr wa ki = some (r, st, ow', bl', wr')) := by
  intro fuel
  induction fuel with
  | zero =>
    intro p made r st ow bl wr ow' bl' wr' _ h
    rw [m_Mod_placesAll_2] at h
    cases h
  | succ fuel ih =>
    intro p made r st ow bl wr ow' bl' wr' hm h
    rw [m_Mod_placesAll_2] at h
    obtain ⟨z0, h⟩ := clt_e h
    rcases h with ⟨q, h⟩ | ⟨q, h⟩
    · obtain ⟨r1, e1, h⟩ := bnd_e h
      obtain ⟨z1, h⟩ := cle_e h
      rcases h with ⟨p1, h⟩ | ⟨p1, h⟩
      · obtain ⟨i1, i2⟩ := ih _ _ _ _ _ _ _ _ _ _ hm h
        refine ⟨i1, fun c => ⟨(i2 c).1, fun M h1 h2 => ?_⟩⟩
        rw [m_Mod_placesAll_2, clt_t (by omega), e1, bnd_s, cle_t (by omega)]
        exact (i2 c).2 M h1 h2
      · obtain ⟨⟨a1, a2, a3, a4, a5⟩, e3, h⟩ := bnd_e h
        unfold m_Mod_puts at e3
        obtain ⟨j1, j2⟩ := puts_lim _ _ _ _ _ _ _ _ _ _ _ _ hm e3
        dsimp only at h
        obtain ⟨z2, h⟩ := ceq_e h
        rcases h with ⟨p2, h⟩ | ⟨p2, h⟩
        · cases h
          refine ⟨j1, fun c => ?_⟩
          have := (j2 c).1
          omega
        · obtain ⟨i1, i2⟩ := ih _ _ _ _ _ _ _ _ _ _ (by omega) h
          refine ⟨by omega, fun c => ⟨(i2 c).1, fun M h1 h2 => ?_⟩⟩
          have e4 := (j2 (by omega)).2 M (by omega) h2
          rw [m_Mod_placesAll_2, clt_t (by omega), e1, bnd_s, cle_f (by omega)]
          unfold m_Mod_puts
          rw [e4, bnd_s]
          dsimp only
          rw [ceq_f (by omega)]
          exact (i2 c).2 M h1 h2
    · cases h
      refine ⟨by omega, fun _ => ⟨rfl, fun M _ _ => ?_⟩⟩
      rw [m_Mod_placesAll_2, clt_f (by omega)]
theorem writes_lim {f : Int} {bl : Int → Int} : ∀ (fuel : Nat) (p made st : Int) (bt wr wa bt' wr' wa' : Int → Int), 0 ≤ made → m_Mod_writesAll_5 fuel f p made 1000000 bt bl wr wa = some (st, bt', wr', wa') → made ≤ st ∧ (st ≤ 99 → ∀ M : Int, st ≤ M → M ≤ 1000 → m_Mod_writesAll_5 fuel f p made M bt bl wr wa = some (st, bt', wr', wa')) := by
  intro fuel
  induction fuel with
  | zero =>
    intro p made st bt wr wa bt' wr' wa' _ h
    rw [m_Mod_writesAll_5] at h
    cases h
  | succ fuel ih =>
    intro p made st bt wr wa bt' wr' wa' hm h
    rw [m_Mod_writesAll_5] at h
    obtain ⟨z0, h⟩ := clt_e h
    rcases h with ⟨q, h⟩ | ⟨q, h⟩
    · obtain ⟨r1, e1, h⟩ := bnd_e h
      obtain ⟨z1, h⟩ := ceq_e h
      rcases h with ⟨p1, h⟩ | ⟨p1, h⟩
      · obtain ⟨i1, i2⟩ := ih _ _ _ _ _ _ _ _ _ hm h
        refine ⟨i1, fun c M h1 h2 => ?_⟩
        rw [m_Mod_writesAll_5, clt_t (by omega), e1, bnd_s, ceq_t (by omega)]
        exact i2 c M h1 h2
      · obtain ⟨r3, e3, h⟩ := bnd_e h
        rcases steps_e e3 with ⟨q2, q3⟩ | ⟨q2, q3⟩
        · subst q3
          dsimp only at h
          rw [ceq_t (by omega)] at h
          cases h
          exact ⟨by omega, fun c => by omega⟩
        · subst q3
          dsimp only at h
          rw [ceq_f (by omega)] at h
          obtain ⟨g1, h⟩ := gd_e h
          obtain ⟨g2, h⟩ := gd_e h
          obtain ⟨g3, h⟩ := gd_e h
          obtain ⟨r5, e5, h⟩ := bnd_e h
          rcases steps_e e5 with ⟨q4, q5⟩ | ⟨q4, q5⟩
          · subst q5
            dsimp only at h
            rw [ceq_t (by omega)] at h
            cases h
            exact ⟨by omega, fun c => by omega⟩
          · subst q5
            dsimp only at h
            rw [ceq_f (by omega)] at h
            obtain ⟨g4, h⟩ := gd_e h
            obtain ⟨g5, h⟩ := gd_e h
            obtain ⟨i1, i2⟩ := ih _ _ _ _ _ _ _ _ _ (by omega) h
            refine ⟨by omega, fun c M h1 h2 => ?_⟩
            rw [m_Mod_writesAll_5, clt_t (by omega), e1, bnd_s, ceq_f (by omega), steps_ok (by omega) (by omega), bnd_s]
            dsimp only
            rw [ceq_f (by omega), gd_t g1, gd_t g2, gd_t g3, steps_ok (by omega) (by omega), bnd_s]
            dsimp only
            rw [ceq_f (by omega), gd_t g4, gd_t g5]
            exact i2 c M h1 h2
    · cases h
      refine ⟨by omega, fun _ M _ _ => ?_⟩
      rw [m_Mod_writesAll_5, clt_f (by omega)]
theorem flush_lim {f st a b : Int} {bt ow bl wr bt' ow' bl' wr' wa' : Int → Int} (h : m_Mod_flushes f 1000000 a b bt ow bl wr wa ki = some (st, st, 1000000, bt', ow', bl', wr', wa')) (hs : st ≤ 99) (c d M : Int) (h1 : st ≤ M) (h2 : M ≤ 1000) : m_Mod_flushes f M c d bt ow bl wr wa ki = some (st, st, M, bt', ow', bl', wr', wa') := by
  unfold m_Mod_flushes m_Mod_placesAll at h
  obtain ⟨⟨a1, a2, a3, a4, a5⟩, e1, h⟩ := bnd_e h
  obtain ⟨j1, j2⟩ := places_lim _ _ _ _ _ _ _ _ _ _ _ (by omega) e1
  dsimp only at h
  obtain ⟨z0, h⟩ := ceq_e h
  rcases h with ⟨q, h⟩ | ⟨q, h⟩
  · cases h
    have := (j2 hs).1
    omega
  · obtain ⟨⟨b1, b2, b3, b4⟩, e2, h⟩ := bnd_e h
    unfold m_Mod_writesAll at e2
    obtain ⟨i1, i2⟩ := writes_lim _ _ _ _ _ _ _ _ _ _ (by omega) e2
    cases h
    have e3 := (j2 (by omega)).2 M (by omega) h2
    have e4 := i2 hs M h1 h2
    unfold m_Mod_flushes m_Mod_placesAll m_Mod_writesAll
    rw [e3, bnd_s]
    dsimp only
    rw [ceq_f (by omega), e4, bnd_s]
end LIM
