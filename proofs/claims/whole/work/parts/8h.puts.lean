/-! a piece is put: alike -/
theorem cn_pos {P : Int → Prop} [DecidablePred P] {k : Int} : ∀ n : Nat, 0 ≤ k → k < n → P k → 1 ≤ cn P n
  | 0, h0, h1, _ => by omega
  | n + 1, h0, h1, h => by
    have q := cn_bd P n
    unfold cn
    by_cases c : k = n
    · subst c
      rw [if_pos h]
      omega
    · have := cn_pos n h0 (by omega) h
      split <;> omega
theorem cn_ex {P : Int → Prop} [DecidablePred P] : ∀ n : Nat, 1 ≤ cn P n → ∃ k : Int, 0 ≤ k ∧ k < n ∧ P k
  | 0, h => by
    unfold cn at h
    omega
  | n + 1, h => by
    by_cases c : P n
    · exact ⟨n, by omega, by omega, c⟩
    · unfold cn at h
      rw [if_neg c] at h
      obtain ⟨k, k0, k1, k2⟩ := cn_ex (P := P) n (by omega)
      exact ⟨k, k0, by omega, k2⟩
section PUTS
variable {bt ow bl wr wa ki vow vbt vki vpl vva vwr : Int → Int}
theorem p_goals (hI : Inv bt ow bl wr wa ki) (hD : Dsk vow vbt vki vpl vva vwr bt ow bl wr wa ki) {f p : Int} (hf : 0 ≤ f ∧ f < 4) (hp : 0 ≤ p ∧ p < 24) : ∃ gM gD, m_Mod_goalOf (24 * f + p) bl = some gM ∧ m_Disk_goalOf f p vpl = some gD ∧ ((gM = -9 ∧ gD = -1) ∨ (0 ≤ gM ∧ gM < 64 ∧ gD = gM)) := by
  unfold m_Mod_goalOf m_Disk_goalOf
  rw [gd_xz (by omega)]
  by_cases h0 : p = 0
  · rw [ceq_t (by omega), p_blockAt_out hf (by omega) (by omega), bnd_s, clt_t (by omega)]
    exact ⟨-9, -1, rfl, rfl, Or.inl ⟨rfl, rfl⟩⟩
  · have hb := (Inv.at hI).2 (24 * f + p - 1) (by omega) (by omega)
    have hq := Rel.pg hD hf (p := p - 1) ⟨by omega, by omega⟩
    have e : 24 * f + (p - 1) = 24 * f + p - 1 := by omega
    rw [e] at hq
    rw [ceq_f (by omega), p_isPlaced (by omega) (by omega), bnd_s, ceq_yn, p_blockAt hf ⟨by omega, by omega⟩, bnd_s, e]
    by_cases h1 : 0 ≤ bl (24 * f + p - 1)
    · rw [if_pos h1, gd_x (by omega), clt_f (by omega)]
      by_cases h2 : bl (24 * f + p - 1) + 1 = 64
      · rw [ceq_t (by omega), clt_f (by omega)]
        exact ⟨-9, -1, rfl, rfl, Or.inl ⟨rfl, rfl⟩⟩
      · rw [ceq_f (by omega), gd_x (by omega), clt_t (by omega)]
        exact ⟨_, _, rfl, rfl, Or.inr ⟨by omega, by omega, by omega⟩⟩
    · rw [if_neg h1, clt_t (by omega)]
      exact ⟨-9, -1, rfl, rfl, Or.inl ⟨rfl, rfl⟩⟩
theorem looked (hI : Inv bt ow bl wr wa ki) (hD : Dsk vow vbt vki vpl vva vwr bt ow bl wr wa ki) (rm : Int) (rs rz : Int → Int) : ∃ rm' rs' rz', m_Runs_lookAt rm rs rz vow = some (rm', rs', rz') ∧ RunsTo ow 64 rm' rs' rz' :=
  p_lookAt hD.1 (fun b h0 h1 => ((Inv.at hI).1 b h0 h1).2) rm rs rz
theorem piece (hI : Inv bt ow bl wr wa ki) (hD : Dsk vow vbt vki vpl vva vwr bt ow bl wr wa ki) {f p n : Int} (hf : 0 ≤ f ∧ f < 4) (hp : 0 ≤ p) (hn : 1 ≤ n) (hpn : p + n ≤ 24) (hall : ∀ j : Int, 0 ≤ j → j < n → bl (24 * f + p + j) < 0) (hro : (∀ j : Int, 0 ≤ j → j < n → 0 ≤ wa (24 * f + p + j)) ∨ n ≤ rom ow bl wa) (rm : Int) (rs rz : Int → Int) :
    ∃ g u many ow' bl' wr' vow' vpl' rm' rs' rz', m_Mod_greatestSize ow = some g ∧ 0 ≤ g ∧ g ≤ 64 ∧ 1 ≤ many ∧ many ≤ n ∧ ((n ≤ g ∧ many = n ∧ ∃ gl, m_Mod_goalOf (24 * f + p) bl = some gl ∧ m_Mod_placeBy (ki f) gl n ow = some u) ∨ (g < n ∧ many = g ∧ m_Mod_greatest ow = some u)) ∧
      m_Mod_placesPiece (24 * f + p) u many ow bl wr = some (ow', bl', wr') ∧ m_Disk_putPiece f p n vow vki vpl rm rs rz = some (many, vow', vpl', rm', rs', rz') ∧ Inv bt ow' bl' wr' wa ki ∧ Dsk vow' vbt vki vpl' vva vwr bt ow' bl' wr' wa ki ∧ (∀ j : Int, 0 ≤ j → j < many → 0 ≤ bl' (24 * f + p + j)) ∧ (∀ a : Int, (a < 24 * f + p ∨ 24 * f + p + many ≤ a) → bl' a = bl a) ∧ rom ow bl wa - many ≤ rom ow' bl' wa ∧ (∀ a : Int, 0 ≤ a → a < 96 → rd bt bl' wr' wa a = rd bt bl wr wa a) := by
  obtain ⟨rm', rs', rz', r1, R⟩ := looked hI hD rm rs rz
  have hb := (Inv.at hI).1
  have hm := R.many (by omega)
  have hm0 := R.1
  have hfree : 1 ≤ cn (fun b => ow b < 0) 64 := by
    have i7 := hI.2.2.2.2.2.2.1
    rcases hro with h | h
    · have h0 := h 0 (by omega) (by omega)
      have h1 := hall 0 (by omega) (by omega)
      have := cn_pos (P := fun a => bl a < 0 ∧ 0 ≤ wa a) (k := 24 * f + p + 0) 96 (by omega) (by omega) ⟨h1, h0⟩
      omega
    · have := cn_bd (fun a => bl a < 0 ∧ 0 ≤ wa a) 96
      unfold rom at h
      omega
  obtain ⟨b, b0, b1, b2⟩ := cn_ex 64 hfree
  obtain ⟨i, i0, i1, i2, i3⟩ := R.2.2.2 b b0 b1 b2
  have hi := R.at i0 i1
  obtain ⟨u, v, g, e1, e2, e3, e4, g0, g1, g2, g3⟩ := p_great hb R
  have hg := g2 i i0 i1
  have g4 : 0 ≤ v ∧ v < rm' ∧ u = rs' v ∧ g = rz' v := by
    rcases g3 with ⟨q1, q2, q3, q4⟩ | q
    · omega
    · exact q
  obtain ⟨w1, w2, w3, w4⟩ := g4
  have hv := R.at w1 w2
  have hki := hI.2.2.2.2.2.1 f hf.1 hf.2
  have hkd := hD.2.2.1 f hf.1 hf.2
  obtain ⟨lu, lv, l1, l2, l3⟩ := p_fitOf hb R (n := n) ⟨by omega, by omega⟩
  by_cases hng : n ≤ g
  · have l4 : 0 ≤ lv ∧ lv < rm' := by
      rcases l3 with ⟨q1, q2, q3⟩ | q
      · have := q3 v w1 w2
        omega
      · exact ⟨q.1, q.2.1⟩
    obtain ⟨gM, gD, k1, k2, k3⟩ := p_goals hI hD hf (p := p) ⟨hp, by omega⟩
    obtain ⟨x, x1, x2, x3, x4⟩ := p_placeBy hb R (k := ki f) (n := n) hki k3 ⟨by omega, by omega⟩ ⟨v, w1, w2, by omega⟩
    have x5 := x4.1
    obtain ⟨ow', bl', wr', vow', vpl', f1, f2, f3, f4, f5, f6, f7, f8⟩ := places_loop (rm := rm') (rs := rs') (rz := rz') hf hp (many := n) hpn x3 x5 n.toNat 0 ow bl wr vow vpl 5000 5000 (by omega) (by omega) (by omega) (by omega) hI hD (fun j q0 q1 => ⟨hall j q0 q1, x4.2 _ (by omega) (by omega)⟩) (hro.elim Or.inl (fun q => Or.inr (by omega)))
    refine ⟨g, x, n, ow', bl', wr', vow', vpl', rm', rs', rz', e3, g0, g1, hn, by omega, Or.inl ⟨hng, rfl, gM, k1, x1⟩, f1, ?_, f3, f4, fun j q0 q1 => ?_, fun a q => f6 a (by omega), by omega, f8⟩
    · unfold m_Disk_putPiece
      simp only [jn_s]
      rw [clt_f (by omega), r1, bnd_s]
      simp only []
      rw [l2, bnd_s, clt_f (by omega), ceq_f (by omega), ceq_f (by omega), p_kindAt hf, bnd_s, hkd, k2, bnd_s, x2, bnd_s]
      exact f2
    · rw [f5 j q0 q1]
      omega
  · have l4 : lv = -1 := by
      rcases l3 with ⟨q1, q2, q3⟩ | ⟨q1, q2, q3, q4⟩
      · exact q2
      · have := g2 lv q1 q2
        omega
    have hr := R.2.1 v w1 w2
    obtain ⟨⟨t1, t2, t3, t4, t5, t6⟩, -⟩ := hr
    obtain ⟨ow', bl', wr', vow', vpl', f1, f2, f3, f4, f5, f6, f7, f8⟩ := places_loop (rm := rm') (rs := rs') (rz := rz') hf hp (many := g) (u := u) (by omega) (by omega) (by omega) g.toNat 0 ow bl wr vow vpl 5000 5000 (by omega) (by omega) (by omega) (by omega) hI hD (fun j q0 q1 => ⟨hall j q0 (by omega), t4 _ (by omega) (by omega)⟩) (hro.elim (fun q => Or.inl (fun j q0 q1 => q j q0 (by omega))) (fun q => Or.inr (by omega)))
    refine ⟨g, u, g, ow', bl', wr', vow', vpl', rm', rs', rz', e3, g0, g1, by omega, by omega, Or.inr ⟨by omega, rfl, e1⟩, f1, ?_, f3, f4, fun j q0 q1 => ?_, fun a q => f6 a (by omega), by omega, f8⟩
    · unfold m_Disk_putPiece
      simp only [jn_s]
      rw [clt_f (by omega), r1, bnd_s]
      simp only []
      rw [l2, bnd_s, l4, clt_t (by omega), ceq_t (by omega), e2, bnd_s, e4, bnd_s, ceq_t (by omega), bnd_s, p_startAt w1 w2 hv.2.2, bnd_s, ← w3]
      exact f2
    · rw [f5 j q0 q1]
      omega
end PUTS
