/-! a series is put: alike -/
section SER
variable {bt ow bl wr wa ki vow vbt vki vpl vva vwr : Int → Int}
theorem puts_both {f a0 K M : Int} (hf : 0 ≤ f ∧ f < 4) (hL : Lim K M) (h0 : 24 * f ≤ a0 ∧ a0 < 24 * f + 24) : ∀ (N : Nat) (left p made : Int) (ow bl wr vow vpl : Int → Int) (rm : Int) (rs rz : Int → Int) (fM F : Nat), left ≤ N → 1 ≤ left → 0 ≤ p → p + left ≤ 24 → 0 ≤ made → made ≤ K → made ≤ p → left < fM → Inv bt ow bl wr wa ki → Dsk vow vbt vki vpl vva vwr bt ow bl wr wa ki → (∀ j : Int, 0 ≤ j → j < left → toP bl wa (24 * f + p + j)) → (p + left = 24 ∨ ¬ toP bl wa (24 * f + p + left)) →
    (∃ r ow' bl' wr' vow' vpl' rm' rs' rz', (r = 0 ∨ r = 1) ∧ K ≤ 99 ∧ m_Mod_puts_5 fM a0 left (24 * f + p) made M ow bl wr ki = some (r, K, ow', bl', wr') ∧ m_Disk_flushUpTo_5 (F + left.toNat + 1) f K made p vow vbt vki vpl vva vwr rm rs rz = some (K, vow', vbt, vpl', vva, vwr, rm', rs', rz') ∧ Inv bt ow' bl' wr' wa ki ∧ Dsk vow' vbt vki vpl' vva vwr bt ow' bl' wr' wa ki ∧ (∀ a : Int, 0 ≤ a → a < 96 → rd bt bl' wr' wa a = rd bt bl wr wa a)) ∨
    (∃ made' ow' bl' wr' vow' vpl' rm' rs' rz', made' < K ∧ made' ≤ p + left ∧ made ≤ made' ∧ m_Mod_puts_5 fM a0 left (24 * f + p) made M ow bl wr ki = some (1, made', ow', bl', wr') ∧ m_Disk_flushUpTo_5 (F + left.toNat + 1) f K made p vow vbt vki vpl vva vwr rm rs rz = m_Disk_flushUpTo_5 (F + 1) f K made' (p + left) vow' vbt vki vpl' vva vwr rm' rs' rz' ∧ Inv bt ow' bl' wr' wa ki ∧ Dsk vow' vbt vki vpl' vva vwr bt ow' bl' wr' wa ki ∧ (∀ j : Int, 0 ≤ j → j < left → 0 ≤ bl' (24 * f + p + j)) ∧ (∀ a : Int, (a < 24 * f + p ∨ 24 * f + p + left ≤ a) → bl' a = bl a) ∧ (∀ a : Int, 0 ≤ a → a < 96 → rd bt bl' wr' wa a = rd bt bl wr wa a)) := by
  intro N
  induction N with
  | zero =>
    intro left p made ow bl wr vow vpl rm rs rz fM F h1 h2
    omega
  | succ N ih =>
    intro left p made ow bl wr vow vpl rm rs rz fM F h1 h2 h3 h4 h5 h6 h7 h8 hI hD h9 hend
    have hKb : 0 ≤ K ∧ K ≤ 1000 := by unfold Lim at hL; omega
    have hK9 : made = K → K ≤ 99 := fun q => by unfold Lim at hL; omega
    cases fM with
    | zero => omega
    | succ fM =>
      by_cases hmk : made = K
      · subst hmk
        have := hK9 rfl
        refine Or.inl ⟨0, ow, bl, wr, vow, vpl, rm, rs, rz, Or.inl rfl, this, ?_, class_end hKb ⟨h3, by omega⟩, hI, hD, fun a _ _ => rfl⟩
        rw [m_Mod_puts_5, cle_f (by omega), steps_no hL (by omega), bnd_s, ceq_t (by omega)]
      · obtain ⟨g, u, many, ow', bl', wr', vow', vpl', rm', rs', rz', e1, g0, g1, m0, m1, e2, e3, e4, e5, e6, e7, e8, -, e9⟩ := piece hI hD hf h3 h2 h4 (fun j q0 q1 => (h9 j q0 q1).1) (Or.inl (fun j q0 q1 => (h9 j q0 q1).2)) rm rs rz
        have hM : m_Mod_puts_5 (fM + 1) a0 left (24 * f + p) made M ow bl wr ki = m_Mod_puts_5 fM a0 (left - many) (24 * f + p + many) (made + 1) M ow' bl' wr' ki := by
          rw [m_Mod_puts_5, cle_f (by omega), steps_go hL h5 (by omega) (by omega), bnd_s]
          dsimp only
          rw [ceq_f (by omega), e1, bnd_s]
          simp only [jn_s]
          rcases e2 with ⟨q1, q2, gl, q3, q4⟩ | ⟨q1, q2, q3⟩
          · rw [clt_f (by omega), ceq_t (by omega), gd_xz (by omega), gd_x (by omega), q3, bnd_s, show a0 / 24 = f by omega, q4, bnd_s]
            rw [q2] at e3
            rw [e3, bnd_s, q2]
          · rw [clt_t (by omega), bnd_s, ceq_f (by omega), q3, bnd_s]
            rw [q2] at e3
            rw [e3, bnd_s, q2]
        have hC : ∀ X : Nat, m_Disk_flushUpTo_5 (X + 1) f K made p vow vbt vki vpl vva vwr rm rs rz = m_Disk_flushUpTo_5 X f K (made + 1) (p + 1) vow' vbt vki vpl' vva vwr rm' rs' rz' := by
          intro X
          obtain ⟨z, y1, y2, y3⟩ := p_series hI hD hf (p := p) ⟨h3, by omega⟩
          have hz := y3.eq (m := left) ⟨by omega, h4, h9, hend⟩
          subst hz
          rw [m_Disk_flushUpTo_5, clt_t (by omega), clt_t (by omega), y2, bnd_s, e4, bnd_s]
          dsimp only
          rw [cle_f (by omega)]
        by_cases hlast : made + 1 = K
        · left
          have hK99 : K ≤ 99 := by unfold Lim at hL; omega
          have hc : m_Disk_flushUpTo_5 (F + left.toNat + 1) f K made p vow vbt vki vpl vva vwr rm rs rz = some (K, vow', vbt, vpl', vva, vwr, rm', rs', rz') := by
            rw [hC, show F + left.toNat = (F + left.toNat - 1) + 1 by omega, hlast]
            exact class_end hKb ⟨by omega, by omega⟩
          cases fM with
          | zero => omega
          | succ fM =>
            by_cases hall : many = left
            · refine ⟨1, ow', bl', wr', vow', vpl', rm', rs', rz', Or.inr rfl, hK99, ?_, hc, e5, e6, e9⟩
              rw [hM, m_Mod_puts_5, cle_t (by omega), hlast]
            · refine ⟨0, ow', bl', wr', vow', vpl', rm', rs', rz', Or.inl rfl, hK99, ?_, hc, e5, e6, e9⟩
              rw [hM, m_Mod_puts_5, cle_f (by omega), hlast, steps_no hL (by omega), bnd_s]
              dsimp only
              rw [ceq_t (by omega)]
        · have hskip : ∀ X : Nat, m_Disk_flushUpTo_5 (X + (many - 1).toNat + 1) f K made p vow vbt vki vpl vva vwr rm rs rz = m_Disk_flushUpTo_5 X f K (made + 1) (p + many) vow' vbt vki vpl' vva vwr rm' rs' rz' := by
            intro X
            rw [hC, class_skips e5 e6 hf ⟨by omega, by omega, hKb.2⟩ (many - 1).toNat (p + 1) X (by omega) (by omega) (fun j q0 q1 => by
              rintro ⟨t1, -⟩
              have := e7 (j + 1) (by omega) (by omega)
              rw [show 24 * f + p + (j + 1) = 24 * f + (p + 1) + j by omega] at this
              omega), show p + 1 + ((many - 1).toNat : Int) = p + many by omega]
          by_cases hall : many = left
          · right
            cases fM with
            | zero => omega
            | succ fM =>
              refine ⟨made + 1, ow', bl', wr', vow', vpl', rm', rs', rz', by omega, by omega, by omega, ?_, ?_, e5, e6, fun j q0 q1 => e7 j q0 (by omega), fun a q => e8 a (by omega), e9⟩
              · rw [hM, m_Mod_puts_5, cle_t (by omega)]
              · rw [show F + left.toNat + 1 = (F + 1) + (many - 1).toNat + 1 by omega, hskip, show p + many = p + left by omega]
          · have hend' : p + many + (left - many) = 24 ∨ ¬ toP bl' wa (24 * f + (p + many) + (left - many)) := by
              rcases hend with q | q
              · exact Or.inl (by omega)
              · refine Or.inr ?_
                rw [show 24 * f + (p + many) + (left - many) = 24 * f + p + left by omega]
                unfold toP at q ⊢
                rw [e8 (24 * f + p + left) (Or.inr (by omega))]
                exact q
            have h9' : ∀ j : Int, 0 ≤ j → j < left - many → toP bl' wa (24 * f + (p + many) + j) := by
              intro j q0 q1
              have := h9 (many + j) (by omega) (by omega)
              rw [show 24 * f + p + (many + j) = 24 * f + (p + many) + j by omega] at this
              unfold toP at this ⊢
              rw [e8 (24 * f + (p + many) + j) (Or.inr (by omega))]
              exact this
            rcases ih (left - many) (p + many) (made + 1) ow' bl' wr' vow' vpl' rm' rs' rz' fM F (by omega) (by omega) (by omega) (by omega) (by omega) (by omega) (by omega) (by omega) e5 e6 h9' hend' with ⟨r, ow2, bl2, wr2, vow2, vpl2, rm2, rs2, rz2, hr, hK99, x1, x2, x3, x4, x5⟩ | ⟨made2, ow2, bl2, wr2, vow2, vpl2, rm2, rs2, rz2, y0, y1, y2, x1, x2, x3, x4, x5, x6, x7⟩
            · left
              rw [show 24 * f + (p + many) = 24 * f + p + many by omega] at x1
              refine ⟨r, ow2, bl2, wr2, vow2, vpl2, rm2, rs2, rz2, hr, hK99, ?_, ?_, x3, x4, fun a q0 q1 => (x5 a q0 q1).trans (e9 a q0 q1)⟩
              · rw [hM]
                exact x1
              · rw [show F + left.toNat + 1 = (F + (left - many).toNat + 1) + (many - 1).toNat + 1 by omega, hskip]
                exact x2
            · right
              rw [show 24 * f + (p + many) = 24 * f + p + many by omega] at x1
              refine ⟨made2, ow2, bl2, wr2, vow2, vpl2, rm2, rs2, rz2, y0, by omega, by omega, ?_, ?_, x3, x4, fun j q0 q1 => ?_, fun a q => ?_, fun a q0 q1 => (x7 a q0 q1).trans (e9 a q0 q1)⟩
              · rw [hM]
                exact x1
              · rw [show F + left.toNat + 1 = (F + (left - many).toNat + 1) + (many - 1).toNat + 1 by omega, hskip, x2, show p + many + (left - many) = p + left by omega]
              · by_cases c : j < many
                · rw [x6 _ (Or.inl (by omega))]
                  exact e7 j q0 c
                · have := x5 (j - many) (by omega) (by omega)
                  rw [show 24 * f + (p + many) + (j - many) = 24 * f + p + j by omega] at this
                  exact this
              · rw [x6 a (by omega), e8 a (by omega)]
end SER
