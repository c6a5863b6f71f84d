/-! a statement is read: by the class letter by letter, by the reference at once -/
/-- where the ';' of a statement stands -/
def sem (h : Int) : Int := dgs h + 1 + (if h = 107 then 1 else 0)
/-- what is told of a statement -/
def TV (m : Int) (T : Int → Int) (b t : Int) (told : Int → Int) : Prop := told t = Lt m T (b + 1) - 48 ∧ (dgs (T b) = 5 → told (t + 1) = 10 * (Lt m T (b + 2) - 48) + (Lt m T (b + 3) - 48) ∧ told (t + 2) = 10 * (Lt m T (b + 4) - 48) + (Lt m T (b + 5) - 48)) ∧ (T b = 99 → told (t + 1) = 10 * (Lt m T (b + 2) - 48) + (Lt m T (b + 3) - 48)) ∧ (T b = 107 → told (t + 1) = kd (Lt m T (b + 2)) ∧ 0 ≤ kd (Lt m T (b + 2)))
section RDA
variable {m : Int} {T snu : Int → Int}
theorem good_head (hm : 0 ≤ m ∧ m ≤ 96) {b : Int} (hb : 0 ≤ b ∧ b < m) (h : 0 < dgs (T b)) : good m T b (b + 1) := by
  refine ⟨by omega, fun i q0 q1 => ?_⟩
  have e : i = b := by omega
  subst e
  exact ⟨Or.inl ⟨by omega, h⟩, (dgs_59 h).1⟩
theorem readsAll_out (hm : 0 ≤ m ∧ m ≤ 96) (hs : ∀ j : Int, 0 ≤ j → j < m → snu j = T j ∧ 0 ≤ T j ∧ T j ≤ 255) {b t : Int} {told : Int → Int} (hb : 0 ≤ b ∧ b < m) (hd : 0 < dgs (T b)) (ht : 0 ≤ t ∧ t + 2 < 99) :
    (∃ q t' told', m_Mod_readsAll (T b) m (b + 1) t T told = some (0, q, t', told') ∧ b < q ∧ good m T b q ∧ bad m T b q) ∨
    (∃ t' told', m_Mod_readsAll (T b) m (b + 1) t T told = some (1, b + sem (T b), t', told') ∧ good m T b (b + sem (T b)) ∧ TV m T b t told' ∧ ∀ j : Int, j < t → told' j = told j) := by
  have g1 := good_head (T := T) hm hb hd
  have hTb := hs b hb.1 hb.2
  have D1 := good_dig g1 (by omega) (by omega)
  unfold m_Mod_readsAll
  rw [p_rd1 hm hs ⟨by omega, by omega⟩ ⟨by omega, by omega⟩, bnd_s]
  by_cases c1 : dig m T (b + 1)
  · rw [if_pos c1]
    dsimp only
    rw [ceq_f (by omega)]
    have g2 := D1.1 c1
    rw [show b + 1 + 1 = b + 2 by omega] at g2 ⊢
    have hcases := dgs_h hd
    rcases hcases with ⟨hh, h5⟩ | ⟨hh, h3⟩ | ⟨hh, h3⟩ | ⟨hh, h3⟩
    · -- five digits
      have hk : T b ≠ 107 ∧ T b ≠ 99 := by omega
      have hsem : sem (T b) = 6 := by
        unfold sem
        rw [h5, if_neg hk.1]
        rfl
      have body : ∀ {α : Type} {B C D : Option α} (E : Option α), ceq (T b) 97 E (ceq (T b) 99 B (ceq (T b) 107 C (ceq (T b) 112 E (ceq (T b) 119 E D)))) = E := by
        intro α B C D E
        rcases hh with hh | hh | hh
        · rw [ceq_t (by omega)]
        · rw [ceq_f (by omega), ceq_f (by omega), ceq_f (by omega), ceq_t (by omega)]
        · rw [ceq_f (by omega), ceq_f (by omega), ceq_f (by omega), ceq_f (by omega), ceq_t (by omega)]
      rw [body]
      have D2 := good_dig g2 (by omega) (by omega)
      rw [p_rd2 hm hs ⟨by omega, by omega⟩ ⟨by omega, by omega⟩, bnd_s]
      by_cases c2 : dig m T (b + 2)
      · have g3 := D2.1 c2
        rw [show b + 2 + 1 = b + 3 by omega] at g3 ⊢
        have D3 := good_dig g3 (by omega) (by omega)
        rw [if_pos c2]
        by_cases c3 : dig m T (b + 3)
        · have g4 := D3.1 c3
          rw [show b + 3 + 1 = b + 4 by omega] at g4
          have D4 := good_dig g4 (by omega) (by omega)
          rw [if_pos c3]
          dsimp only
          rw [ceq_f (by omega), show b + 2 + 2 = b + 4 by omega, p_rd2 hm hs ⟨by omega, by omega⟩ ⟨by omega, by omega⟩, bnd_s]
          by_cases c4 : dig m T (b + 4)
          · have g5 := D4.1 c4
            rw [show b + 4 + 1 = b + 5 by omega] at g5 ⊢
            have D5 := good_dig g5 (by omega) (by omega)
            rw [if_pos c4]
            by_cases c5 : dig m T (b + 5)
            · have g6 := D5.1 c5
              rw [show b + 5 + 1 = b + 6 by omega] at g6
              rw [if_pos c5]
              dsimp only
              rw [ceq_f (by omega)]
              refine Or.inr ⟨_, _, by rw [hsem, show b + 4 + 2 = b + 6 by omega], by rw [hsem]; exact g6, ⟨?_, fun _ => ⟨?_, ?_⟩, fun q => by omega, fun q => by omega⟩, fun j hj => ?_⟩
              · rw [uf_n (by omega), uf_n (by omega), uf_s]
              · rw [uf_n (by omega), uf_s]
              · rw [show t + 2 = t + 1 + 1 by omega, uf_s]
              · rw [uf_n (by omega), uf_n (by omega), uf_n (by omega)]
            · rw [if_neg c5]
              dsimp only
              rw [ceq_t (by omega)]
              exact Or.inl ⟨_, _, _, rfl, by omega, g5, D5.2 c5⟩
          · rw [if_neg c4]
            dsimp only
            rw [ceq_t (by omega)]
            exact Or.inl ⟨_, _, _, rfl, by omega, g4, D4.2 c4⟩
        · rw [if_neg c3]
          dsimp only
          rw [ceq_t (by omega)]
          exact Or.inl ⟨_, _, _, rfl, by omega, g3, D3.2 c3⟩
      · rw [if_neg c2]
        dsimp only
        rw [ceq_t (by omega)]
        exact Or.inl ⟨_, _, _, rfl, by omega, g2, D2.2 c2⟩
    · -- a crash
      have hsem : sem (T b) = 4 := by
        unfold sem
        rw [h3, if_neg (by omega)]
        rfl
      rw [ceq_f (by omega), ceq_t (by omega)]
      have D2 := good_dig g2 (by omega) (by omega)
      rw [p_rd2 hm hs ⟨by omega, by omega⟩ ⟨by omega, by omega⟩, bnd_s]
      by_cases c2 : dig m T (b + 2)
      · have g3 := D2.1 c2
        rw [show b + 2 + 1 = b + 3 by omega] at g3 ⊢
        have D3 := good_dig g3 (by omega) (by omega)
        rw [if_pos c2]
        by_cases c3 : dig m T (b + 3)
        · have g4 := D3.1 c3
          rw [show b + 3 + 1 = b + 4 by omega] at g4
          rw [if_pos c3]
          dsimp only
          rw [gd_b (by omega)]
          refine Or.inr ⟨_, _, by rw [hsem, show b + 2 + 2 = b + 4 by omega], by rw [hsem]; exact g4, ⟨?_, fun q => by omega, fun _ => ?_, fun q => by omega⟩, fun j hj => ?_⟩
          · rw [uf_n (by omega), uf_s]
          · rw [uf_s]
          · rw [uf_n (by omega), uf_n (by omega)]
        · rw [if_neg c3]
          dsimp only
          rw [gd_b (by omega)]
          exact Or.inl ⟨_, _, _, rfl, by omega, g3, D3.2 c3⟩
      · rw [if_neg c2]
        dsimp only
        rw [gd_b (by omega)]
        exact Or.inl ⟨_, _, _, rfl, by omega, g2, D2.2 c2⟩
    · -- a flush, a settling
      have hsem : sem (T b) = 2 := by
        unfold sem
        rw [h3, if_neg (by omega)]
        rfl
      rw [ceq_f (by omega), ceq_f (by omega), ceq_f (by omega), ceq_f (by omega), ceq_f (by omega)]
      refine Or.inr ⟨_, _, by rw [hsem], by rw [hsem]; exact g2, ⟨uf_s, fun q => by omega, fun q => by omega, fun q => by omega⟩, fun j hj => uf_n (by omega)⟩
    · -- a KIND
      have hsem : sem (T b) = 3 := by
        unfold sem
        rw [h3, if_pos hh]
        rfl
      rw [ceq_f (by omega), ceq_f (by omega), ceq_t (by omega)]
      unfold m_Mod_readsKind
      have hl := Lt_bd hs (i := b + 2) (by omega)
      have hk := p_kd (s := Lt m T (b + 2)) hl
      rw [p_let hm ⟨by omega, by omega⟩, bnd_s, hk.2.1, bnd_s]
      by_cases c2 : kd (Lt m T (b + 2)) < 0
      · rw [if_pos c2, clt_t (by omega), bnd_s]
        dsimp only
        rw [gd_b (by omega)]
        refine Or.inl ⟨_, _, _, rfl, by omega, g2, ?_⟩
        have hl := g2.1
        by_cases c : b + 2 < m
        · refine Or.inr ⟨c, ?_⟩
          rw [show Lt m T (b + 2) = T (b + 2) from if_pos c] at c2
          rintro (q | q | ⟨-, -, q | q⟩)
          · omega
          · omega
          · omega
          · exact q.1 ⟨hh, by omega⟩
        · exact Or.inl (by omega)
      · rw [if_neg c2, clt_f (by omega), gd_x (by omega), bnd_s]
        dsimp only
        rw [gd_b (by omega)]
        have k0 := kd_59 (s := Lt m T (b + 2)) (by omega)
        have hr : b + 2 < m := by
          by_cases c : b + 2 < m
          · exact c
          · exact absurd (if_neg c) k0.2
        rw [show b + 2 + 1 = b + 3 by omega]
        refine Or.inr ⟨_, _, by rw [hsem], ?_, ⟨?_, fun q => by omega, fun q => by omega, fun _ => ⟨?_, by omega⟩⟩, fun j hj => ?_⟩
        · rw [hsem]
          refine ⟨by omega, fun i q0 q1 => ?_⟩
          by_cases c : i = b + 2
          · subst c
            rw [show Lt m T (b + 2) = T (b + 2) from if_pos hr] at c2 k0
            exact ⟨Or.inr (Or.inr ⟨by omega, by omega, Or.inl ⟨hh, by omega, by omega⟩⟩), k0.1⟩
          · exact g2.2 i q0 (by omega)
        · rw [uf_n (by omega), uf_s]
        · rw [uf_s]
        · rw [uf_n (by omega), uf_n (by omega)]
  · rw [if_neg c1]
    dsimp only
    rw [ceq_t (by omega)]
    exact Or.inl ⟨_, _, _, rfl, by omega, g1, D1.2 c1⟩
theorem sem_ok {b : Int} (hd : 0 < dgs (T b)) (h9 : T (b + sem (T b)) = 59) : okp (T b) (b + sem (T b) - b) (T (b + sem (T b))) := by
  refine Or.inr (Or.inr ?_)
  unfold sem at h9 ⊢
  by_cases c : T b = 107
  · rw [if_pos c] at h9 ⊢
    exact ⟨by omega, by omega, Or.inr ⟨by omega, h9⟩⟩
  · rw [if_neg c] at h9 ⊢
    exact ⟨by omega, by omega, Or.inr ⟨fun q => c q.1, h9⟩⟩
theorem sem_no {b : Int} (hd : 0 < dgs (T b)) (h9 : T (b + sem (T b)) ≠ 59) : ¬ okp (T b) (b + sem (T b) - b) (T (b + sem (T b))) := by
  have hs : sem (T b) = dgs (T b) + 1 + (if T b = 107 then 1 else 0) := rfl
  rintro (q | q | ⟨q1, q2, q | q⟩)
  · by_cases c : T b = 107
    · rw [if_pos c] at hs
      omega
    · rw [if_neg c] at hs
      omega
  · by_cases c : T b = 107
    · rw [if_pos c] at hs
      omega
    · rw [if_neg c] at hs
      omega
  · by_cases c : T b = 107
    · rw [if_pos c] at hs
      omega
    · exact c q.1
  · exact h9 q.2
theorem sem_bd (h : Int) : 1 ≤ sem h ∧ sem h ≤ 7 := by
  have := dgs_bd h
  unfold sem
  split <;> omega
theorem statement_out (hm : 0 ≤ m ∧ m ≤ 96) (hs : ∀ j : Int, 0 ≤ j → j < m → snu j = T j ∧ 0 ≤ T j ∧ T j ≤ 255) {b s tl : Int} {sort sortAt told : Int → Int} (hb : 0 ≤ b ∧ (b < m ∨ m = 0 ∧ b = 0)) (hss : 0 ≤ s ∧ s < 33) :
    (∃ q t' so' sa' told', m_Mod_statement m b s tl T sort sortAt told = some (0, q, t', so', sa', told') ∧ b ≤ q ∧ good m T b q ∧ bad m T b q) ∨
    (∃ t' told', m_Mod_statement m b s tl T sort sortAt told = some (1, b + sem (T b) + 1, t', uf sort s (T b), uf sortAt s b, told') ∧ 0 < dgs (T b) ∧ good m T b (b + sem (T b)) ∧ b + sem (T b) < m ∧ T (b + sem (T b)) = 59 ∧ TV m T b (3 * s) told' ∧ ∀ j : Int, j < 3 * s → told' j = told j) := by
  unfold m_Mod_statement
  simp only [jn_s]
  rw [p_let hm ⟨hb.1, by omega⟩, bnd_s]
  have hl := Lt_bd hs (i := b) hb.1
  by_cases hbm : b < m
  · rw [show Lt m T b = T b from if_pos hbm] at hl ⊢
    by_cases hd : 0 < dgs (T b)
    · have key : ∀ {α : Type} {E D : Option α}, ceq (T b) 119 E (ceq (T b) 97 E (ceq (T b) 112 E (ceq (T b) 102 E (ceq (T b) 115 E (ceq (T b) 99 E (ceq (T b) 107 E D)))))) = E := by
        intro α E D
        by_cases c1 : T b = 119
        · rw [ceq_t (by omega)]
        rw [ceq_f (by omega)]
        by_cases c2 : T b = 97
        · rw [ceq_t (by omega)]
        rw [ceq_f (by omega)]
        by_cases c3 : T b = 112
        · rw [ceq_t (by omega)]
        rw [ceq_f (by omega)]
        by_cases c4 : T b = 102
        · rw [ceq_t (by omega)]
        rw [ceq_f (by omega)]
        by_cases c5 : T b = 115
        · rw [ceq_t (by omega)]
        rw [ceq_f (by omega)]
        by_cases c6 : T b = 99
        · rw [ceq_t (by omega)]
        rw [ceq_f (by omega)]
        have := dgs_h hd
        rw [ceq_t (by omega)]
      rw [key, gd_x (by omega), gd_x (by omega)]
      rcases readsAll_out hm hs (b := b) (t := 3 * s) (told := told) ⟨hb.1, hbm⟩ hd ⟨by omega, by omega⟩ with ⟨q, t', told', e, q0, q1, q2⟩ | ⟨t', told', e, q1, q2, q3⟩
      · rw [e, bnd_s]
        dsimp only
        rw [ceq_t (by omega)]
        exact Or.inl ⟨_, _, _, _, _, rfl, by omega, q1, q2⟩
      · have sb := sem_bd (T b)
        rw [e, bnd_s]
        dsimp only
        rw [ceq_f (by omega), p_let hm ⟨by omega, by omega⟩, bnd_s]
        have hl2 := Lt_bd hs (i := b + sem (T b)) (by omega)
        by_cases c : Lt m T (b + sem (T b)) = 59
        · rw [ceq_t (by omega)]
          have hr : b + sem (T b) < m := by
            by_cases c2 : b + sem (T b) < m
            · exact c2
            · unfold Lt at c
              rw [if_neg c2] at c
              omega
          rw [show Lt m T (b + sem (T b)) = T (b + sem (T b)) from if_pos hr] at c
          exact Or.inr ⟨_, _, rfl, hd, q1, hr, c, q2, q3⟩
        · rw [ceq_f (by omega)]
          refine Or.inl ⟨_, _, _, _, _, rfl, by omega, q1, ?_⟩
          have hgl := q1.1
          by_cases c2 : b + sem (T b) < m
          · rw [show Lt m T (b + sem (T b)) = T (b + sem (T b)) from if_pos c2] at c
            exact Or.inr ⟨c2, sem_no hd c⟩
          · exact Or.inl (by omega)
    · have no : T b ≠ 119 ∧ T b ≠ 97 ∧ T b ≠ 112 ∧ T b ≠ 102 ∧ T b ≠ 115 ∧ T b ≠ 99 ∧ T b ≠ 107 := by
        unfold dgs at hd
        by_cases c1 : T b = 97 ∨ T b = 112 ∨ T b = 119
        · rw [if_pos c1] at hd
          omega
        · rw [if_neg c1] at hd
          by_cases c2 : T b = 99
          · rw [if_pos c2] at hd
            omega
          · rw [if_neg c2] at hd
            by_cases c3 : T b = 102 ∨ T b = 107 ∨ T b = 115
            · rw [if_pos c3] at hd
              omega
            · omega
      rw [ceq_f (by omega), ceq_f (by omega), ceq_f (by omega), ceq_f (by omega), ceq_f (by omega), ceq_f (by omega), ceq_f (by omega)]
      refine Or.inl ⟨_, _, _, _, _, rfl, by omega, ⟨by omega, fun i q0 q1 => by omega⟩, Or.inr ⟨hbm, ?_⟩⟩
      rintro (q | q | q) <;> omega
  · rw [show Lt m T b = -1 from if_neg hbm]
    rw [ceq_f (by omega), ceq_f (by omega), ceq_f (by omega), ceq_f (by omega), ceq_f (by omega), ceq_f (by omega), ceq_f (by omega)]
    exact Or.inl ⟨_, _, _, _, _, rfl, by omega, ⟨by omega, fun i q0 q1 => by omega⟩, Or.inl (by omega)⟩
end RDA
