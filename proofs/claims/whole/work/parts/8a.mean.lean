/-! e_mean -/
theorem cn_cat (P : Int → Prop) [DecidablePred P] (m : Nat) : ∀ n : Nat, cn P (m + n) = cn P m + cn (fun j => P (m + j)) n
  | 0 => by
    show cn P m = cn P m + 0
    omega
  | n + 1 => by
    show cn P (m + n) + (if P ((m + n : Nat) : Int) then 1 else 0) = cn P m + (cn (fun j => P (m + j)) n + (if P ((m : Int) + (n : Int)) then 1 else 0))
    rw [cn_cat P m n, show ((m + n : Nat) : Int) = (m : Int) + (n : Int) by omega]
    omega
theorem cn_four (P : Int → Prop) [DecidablePred P] : cn P 96 = cn (fun p => P (24 * 0 + p)) 24 + cn (fun p => P (24 * 1 + p)) 24 + cn (fun p => P (24 * 2 + p)) 24 + cn (fun p => P (24 * 3 + p)) 24 := by
  have h1 : cn P 96 = cn P 72 + cn (fun j => P (72 + j)) 24 := cn_cat P 72 24
  have h2 : cn P 72 = cn P 48 + cn (fun j => P (48 + j)) 24 := cn_cat P 48 24
  have h3 : cn P 48 = cn P 24 + cn (fun j => P (24 + j)) 24 := cn_cat P 24 24
  have h4 : cn (fun p => P (24 * 0 + p)) 24 = cn P 24 := cn_congr 24 (fun j _ _ => by rw [show (24 * 0 + j : Int) = j by omega])
  have h5 : cn (fun p => P (24 * 1 + p)) 24 = cn (fun j => P (24 + j)) 24 := cn_congr 24 (fun j _ _ => by rw [show (24 * 1 + j : Int) = 24 + j by omega])
  have h6 : cn (fun p => P (24 * 2 + p)) 24 = cn (fun j => P (48 + j)) 24 := cn_congr 24 (fun j _ _ => by rw [show (24 * 2 + j : Int) = 48 + j by omega])
  have h7 : cn (fun p => P (24 * 3 + p)) 24 = cn (fun j => P (72 + j)) 24 := cn_congr 24 (fun j _ _ => by rw [show (24 * 3 + j : Int) = 72 + j by omega])
  omega
theorem gcd_both : ∀ (n : Nat) (a b : Int) (f1 f2 : Nat) (i : Int), 0 ≤ a → a ≤ 1000 → 0 ≤ b → b ≤ n → n < f1 → n < f2 → 0 ≤ i → i + n < 100 → ∃ g : Int, m_Vol_greatestDivisor_7 f1 a b i = some g ∧ m_Mod_divisor_6 f2 a b = some g ∧ 0 ≤ g ∧ g ≤ 1000 ∧ (0 < a ∨ 0 < b → 0 < g) := by
  intro n
  induction n with
  | zero =>
    intro a b f1 f2 i h0 h1 h2 h3 h4 h5 h6 h7
    cases f1 with
    | zero => omega
    | succ f1 =>
      cases f2 with
      | zero => omega
      | succ f2 =>
        have hb : b = 0 := by omega
        subst hb
        refine ⟨a, ?_, ?_, h0, h1, by omega⟩
        · rw [m_Vol_greatestDivisor_7, clt_t (by omega), ceq_t (by omega)]
        · rw [m_Mod_divisor_6, gd_qq (by omega), show z_cmp 0 0 = 0 from rfl, ceq_t (by omega)]
  | succ n ih =>
    intro a b f1 f2 i h0 h1 h2 h3 h4 h5 h6 h7
    cases f1 with
    | zero => omega
    | succ f1 =>
      cases f2 with
      | zero => omega
      | succ f2 =>
        by_cases hb : b = 0
        · subst hb
          refine ⟨a, ?_, ?_, h0, h1, by omega⟩
          · rw [m_Vol_greatestDivisor_7, clt_t (by omega), ceq_t (by omega)]
          · rw [m_Mod_divisor_6, gd_qq (by omega), show z_cmp 0 0 = 0 from rfl, ceq_t (by omega)]
        · have q1 := Int.emod_nonneg a hb
          have q2 := Int.emod_lt_of_pos a (show 0 < b by omega)
          have q3 : b ≤ 1000 := by omega
          obtain ⟨g, e1, e2, e3, e4, e5⟩ := ih b (a % b) f1 f2 (i + 1) h2 q3 q1 (by omega) (by omega) (by omega) (by omega) (by omega)
          refine ⟨g, ?_, ?_, e3, e4, fun _ => e5 (Or.inl (by omega))⟩
          · rw [m_Vol_greatestDivisor_7, clt_t (by omega), ceq_f (by omega), gd_xz (by omega)]
            exact e1
          · rw [m_Mod_divisor_6, gd_qq (by omega), show z_cmp b 0 = 1 from if_pos (by omega), ceq_f (by omega)]
            rw [gd_t (c := zx a 9223372036854775808 ∧ zp b 9223372036854775808) (by omega)]
            exact e2
theorem e_mean : E_mean := by
  intro ik now nbt nki npl nva nwr kow kbt kki kpl kva kwr smn snu rmn rnu rf mr mb mo ml mw mt mk mp mq mz mh my mn x1 hR hx
  unfold m_Vol_mean m_Mod_mean
  rw [p_Vol_isEither (by omega), p_Mod_isIn (by omega) (by omega) (by omega), bnd_s, bnd_s, ceq_yn, ceq_yn]
  by_cases h1 : x1 = 0 ∨ x1 = 1
  · obtain ⟨hI, hD, hS⟩ := id hR
    have hs := cn_four (fun a => 0 ≤ ml a)
    have b0 := cn_bd (fun p => 0 ≤ ml (24 * 0 + p)) 24
    have b1 := cn_bd (fun p => 0 ≤ ml (24 * 1 + p)) 24
    have b2 := cn_bd (fun p => 0 ≤ ml (24 * 2 + p)) 24
    have b3 := cn_bd (fun p => 0 ≤ ml (24 * 3 + p)) 24
    have h8 := hI.2.2.2.2.2.2.2
    have hE : 0 ≤ exts ml mw ∧ exts ml mw ≤ 96 := by
      have := @ext_bd ml mw 0
      have := @ext_bd ml mw 1
      have := @ext_bd ml mw 2
      have := @ext_bd ml mw 3
      unfold exts
      omega
    rw [if_pos h1, if_pos (by omega), pD_free hI hD, bnd_s, pD_extentsInAll hI hD, bnd_s]
    rw [m_Mod_mean_20, clt_t (by omega), pM_placedOf hI (by omega), bnd_s, m_Mod_mean_20, clt_t (by omega), pM_placedOf hI (by omega), bnd_s, m_Mod_mean_20, clt_t (by omega), pM_placedOf hI (by omega), bnd_s, m_Mod_mean_20, clt_t (by omega), pM_placedOf hI (by omega), bnd_s, m_Mod_mean_20, clt_f (by omega)]
    generalize hN : (0 + cn (fun p => 0 ≤ ml (24 * 0 + p)) 24 + cn (fun p => 0 ≤ ml (24 * (0 + 1) + p)) 24 + cn (fun p => 0 ≤ ml (24 * (0 + 1 + 1) + p)) 24 + cn (fun p => 0 ≤ ml (24 * (0 + 1 + 1 + 1) + p)) 24) = N
    have hN2 : 64 - cn (fun b => mo b < 0) 64 = N := by
      have : (0 + cn (fun p => 0 ≤ ml (24 * 0 + p)) 24 + cn (fun p => 0 ≤ ml (24 * 1 + p)) 24 + cn (fun p => 0 ≤ ml (24 * 2 + p)) 24 + cn (fun p => 0 ≤ ml (24 * 3 + p)) 24) = N := hN
      omega
    have hN3 : 0 ≤ N ∧ N ≤ 64 := by
      have := (cn_bd (fun b => mo b < 0) 64)
      omega
    rw [hN2]
    obtain ⟨g, e1, e2, e3, e4, e5⟩ := gcd_both 96 N (exts ml mw) 5000 5000 0 (by omega) (by omega) hE.1 hE.2 (by omega) (by omega) (by omega) (by omega)
    unfold m_Vol_partOf m_Vol_greatestDivisor
    rw [e1, bnd_s]
    by_cases h3 : N = 0
    · refine ⟨(x1, rf), (x1, mr), ?_, ?_, rfl, hR⟩
      · rw [ceq_t (by omega), gd_r (by omega), bnd_s]
      · rw [ceq_t (by omega), gd_r (by omega)]
    · have hg : 0 < g := e5 (Or.inl (by omega))
      have dN : 0 ≤ N / g ∧ N / g ≤ N := ⟨Int.ediv_nonneg hN3.1 e3, Int.ediv_le_self _ hN3.1⟩
      have dE : 0 ≤ exts ml mw / g ∧ exts ml mw / g ≤ exts ml mw := ⟨Int.ediv_nonneg hE.1 e3, Int.ediv_le_self _ hE.1⟩
      by_cases h4 : x1 = 0
      · refine ⟨(N / g, rf), (N / g, mr), ?_, ?_, rfl, hR⟩
        · rw [ceq_f (x := N) (by omega), ceq_f (x := g) (by omega), ceq_t (by omega), gd_xz (by omega), gd_r (by omega), bnd_s]
        · rw [ceq_f (x := N) (by omega), gd_r (by omega), pM_allExtents hI, bnd_s, gd_r (by omega)]
          unfold m_Mod_partOf m_Mod_divisor
          simp only [jn_s]
          rw [ceq_t (by omega), e2, bnd_s, gd_t (c := zx N 9223372036854775808 ∧ zp g 9223372036854775808) (by omega), bnd_s]
      · refine ⟨(exts ml mw / g, rf), (exts ml mw / g, mr), ?_, ?_, rfl, hR⟩
        · rw [ceq_f (x := N) (by omega), ceq_f (x := g) (by omega), ceq_f (x := x1) (by omega), gd_xz (by omega), gd_r (by omega), bnd_s]
        · rw [ceq_f (x := N) (by omega), gd_r (by omega), pM_allExtents hI, bnd_s, gd_r (by omega)]
          unfold m_Mod_partOf m_Mod_divisor
          simp only [jn_s]
          rw [ceq_f (x := x1) (by omega), e2, bnd_s, gd_t (c := zx (exts ml mw) 9223372036854775808 ∧ zp g 9223372036854775808) (by omega), bnd_s]
  · rw [if_neg h1, if_neg (by omega), p_refuse (by omega), bnd_s]
    unfold m_Mod_lowestOf
    rw [gd_x (by omega), gd_x (by omega), gd_r (by omega), gd_r (by omega), bnd_s]
    exact ⟨(4000000000000000000 - -2, uf rf (- -2) (rf (- -2) + 1)), (4000000000000000000 - -2, uf mr (- -2) (mr (- -2) + 1)), rfl, rfl, rfl, hR.no (-2) (by omega)⟩
