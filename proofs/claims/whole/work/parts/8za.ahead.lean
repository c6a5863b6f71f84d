/-! e_ahead -/
def hlp (bl wa : Int → Int) (a : Int) : Prop := bl a < 0 ∧ wa a < 0
/-- n holes on end from page q on, as far as page e; the next one is none, or is not meant -/
def isHs (bl wa : Int → Int) (f q e n : Int) : Prop := 0 ≤ n ∧ q + n ≤ e ∧ (∀ j : Int, 0 ≤ j → j < n → hlp bl wa (24 * f + q + j)) ∧ (q + n = e ∨ ¬ hlp bl wa (24 * f + q + n))
section AHD
variable {bt ow bl wr wa ki vow vbt vki vpl vva vwr : Int → Int}
theorem isHs.eq {f q e n m : Int} (h : isHs bl wa f q e n) (g : isHs bl wa f q e m) : n = m := by
  obtain ⟨h1, h2, h3, h4⟩ := h
  obtain ⟨g1, g2, g3, g4⟩ := g
  by_cases c : n < m
  · rcases h4 with h4 | h4
    · omega
    · exact absurd (g3 n h1 c) h4
  · by_cases c2 : m < n
    · rcases g4 with g4 | g4
      · omega
      · exact absurd (h3 m g1 c2) g4
    · omega
theorem isHs.no {f q e : Int} (hq : q < e) (h : ¬ hlp bl wa (24 * f + q)) : isHs bl wa f q e 0 := ⟨by omega, by omega, fun j q0 q1 => by omega, Or.inr (by rw [Int.add_zero]; exact h)⟩
theorem hserD (hI : Inv bt ow bl wr wa ki) (hD : Dsk vow vbt vki vpl vva vwr bt ow bl wr wa ki) {f q e : Int} (hf : 0 ≤ f ∧ f < 4) (hq : 0 ≤ q) (he : e ≤ 24) : ∀ (d : Nat) (n : Int) (fD : Nat), q + n + d = e → d < fD → 0 ≤ n → (∀ j : Int, 0 ≤ j → j < n → hlp bl wa (24 * f + q + j)) → ∃ z, m_Disk_holesFrom_6 fD f e n (q + n) vpl vva = some z ∧ isHs bl wa f q e z := by
  intro d
  induction d with
  | zero =>
    intro n fD h1 h2 h3 h4
    cases fD with
    | zero => omega
    | succ fD => exact ⟨n, by rw [m_Disk_holesFrom_6, clt_f (by omega)], h3, by omega, h4, Or.inl (by omega)⟩
  | succ d ih =>
    intro n fD h1 h2 h3 h4
    cases fD with
    | zero => omega
    | succ fD =>
      have hb := (Inv.at hI).2 (24 * f + q + n) (by omega) (by omega)
      have hp := Rel.pg hD hf (p := q + n) ⟨by omega, by omega⟩
      have e1 : 24 * f + (q + n) = 24 * f + q + n := by omega
      rw [e1] at hp
      rw [m_Disk_holesFrom_6, clt_t (by omega), p_Disk_isHole hf ⟨by omega, by omega⟩ (by rw [e1]; omega) (by rw [e1]; omega), bnd_s, ceq_yn, e1]
      by_cases h : hlp bl wa (24 * f + q + n)
      · have h' := h
        unfold hlp at h'
        rw [if_pos (by omega), Int.add_assoc q n 1]
        refine ih (n + 1) fD (by omega) (by omega) (by omega) (fun j q0 q1 => ?_)
        by_cases c : j = n
        · rw [c]
          exact h
        · exact h4 j q0 (by omega)
      · have h' := h
        unfold hlp at h'
        rw [if_neg (by omega)]
        exact ⟨n, rfl, h3, by omega, h4, Or.inr h⟩
theorem p_hserD (hI : Inv bt ow bl wr wa ki) (hD : Dsk vow vbt vki vpl vva vwr bt ow bl wr wa ki) {f q e : Int} (hf : 0 ≤ f ∧ f < 4) (hq : 0 ≤ q ∧ q ≤ e) (he : e ≤ 24) : ∃ z, m_Disk_holesFrom f q e vpl vva = some z ∧ isHs bl wa f q e z := by
  obtain ⟨z, e1, e2⟩ := hserD hI hD hf hq.1 he (e - q).toNat 0 5000 (by omega) (by omega) (by omega) (fun j q0 q1 => by omega)
  rw [Int.add_zero] at e1
  exact ⟨z, e1, e2⟩
theorem hserM (hI : Inv bt ow bl wr wa ki) {f p n k : Int} (hf : 0 ≤ f ∧ f < 4) (hp : 0 ≤ p) (hk : 0 ≤ k) (hn : p + n ≤ 24) : ∀ (d : Nat) (m : Int) (fM : Nat), k + m + d = n → d < fM → 0 ≤ m → (∀ j : Int, 0 ≤ j → j < m → hlp bl wa (24 * f + (p + k) + j)) → ∃ z, isHs bl wa f (p + k) (p + n) z ∧ ∀ kk (sm sM : Int), m_Mod_goesAhead_23 kk fM f p n k m sm sM ow bl wr wa ki = kk f p n k z sm sM ow bl wr := by
  intro d
  induction d with
  | zero =>
    intro m fM h1 h2 h3 h4
    cases fM with
    | zero => omega
    | succ fM => exact ⟨m, ⟨h3, by omega, h4, Or.inl (by omega)⟩, fun kk sm sM => by rw [m_Mod_goesAhead_23, clt_f (by omega)]⟩
  | succ d ih =>
    intro m fM h1 h2 h3 h4
    cases fM with
    | zero => omega
    | succ fM =>
      have hb := (Inv.at hI).2 (24 * f + p + k + m) (by omega) (by omega)
      have e1 : 24 * f + (p + k) + m = 24 * f + p + k + m := by omega
      by_cases h : hlp bl wa (24 * f + (p + k) + m)
      · obtain ⟨z, z1, z2⟩ := ih (m + 1) fM (by omega) (by omega) (by omega) (fun j q0 q1 => by
          by_cases c : j = m
          · rw [c]
            exact h
          · exact h4 j q0 (by omega))
        refine ⟨z, z1, fun kk sm sM => ?_⟩
        have h' := h
        unfold hlp at h'
        rw [e1] at h'
        rw [m_Mod_goesAhead_23, clt_t (by omega), p_Mod_isHole (by omega) (by omega) (by omega), bnd_s, ceq_yn, if_pos h']
        exact z2 kk sm sM
      · refine ⟨m, ⟨h3, by omega, h4, Or.inr h⟩, fun kk sm sM => ?_⟩
        have h' := h
        unfold hlp at h'
        rw [e1] at h'
        rw [m_Mod_goesAhead_23, clt_t (by omega), p_Mod_isHole (by omega) (by omega) (by omega), bnd_s, ceq_yn, if_neg h']
theorem p_hserM (hI : Inv bt ow bl wr wa ki) {f p n k : Int} (hf : 0 ≤ f ∧ f < 4) (hp : 0 ≤ p) (hk : 0 ≤ k ∧ k ≤ n) (hn : p + n ≤ 24) : ∃ z, isHs bl wa f (p + k) (p + n) z ∧ ∀ kk (sm sM : Int), m_Mod_goesAhead_23 kk 5000 f p n k 0 sm sM ow bl wr wa ki = kk f p n k z sm sM ow bl wr :=
  hserM hI hf hp hk.1 hn (n - k).toNat 0 5000 (by omega) (by omega) (by omega) (fun j q0 q1 => by omega)
/-- a page that is no hole: both pass over it -/
theorem hskipD (hI : Inv bt ow bl wr wa ki) (hD : Dsk vow vbt vki vpl vva vwr bt ow bl wr wa ki) {f v2 v3 v4 q rm : Int} {rs rz : Int → Int} {fuel : Nat} (hf : 0 ≤ f ∧ f < 4) (hq : 0 ≤ q ∧ q < v2 + v3) (he : v2 + v3 ≤ 24) (h : ¬ hlp bl wa (24 * f + q)) : m_Disk_putHoles_23 (fuel + 1) f v2 v3 v4 q vow vki vpl vva rm rs rz = m_Disk_putHoles_23 fuel f v2 v3 v4 (q + 1) vow vki vpl vva rm rs rz := by
  obtain ⟨z, e1, e2⟩ := p_hserD hI hD hf (q := q) (e := v2 + v3) ⟨hq.1, by omega⟩ he
  have hz := e2.eq (isHs.no hq.2 h)
  subst hz
  rw [m_Disk_putHoles_23, clt_t (by omega), e1, bnd_s]
  unfold m_Disk_putPiece
  rw [clt_t (by omega), bnd_s]
theorem hskipM (hI : Inv bt ow bl wr wa ki) {f p n k sm sM : Int} {fuel : Nat} (hf : 0 ≤ f ∧ f < 4) (hp : 0 ≤ p) (hk : 0 ≤ k ∧ k < n) (hn : p + n ≤ 24) (h : ¬ hlp bl wa (24 * f + (p + k))) : m_Mod_goesAhead_14 (fuel + 1) f p n k sm sM ow bl wr wa ki = m_Mod_goesAhead_14 fuel f p n (k + 1) sm sM ow bl wr wa ki := by
  obtain ⟨z, e1, e2⟩ := p_hserM hI hf hp (k := k) (n := n) ⟨hk.1, by omega⟩ hn
  have hz := e1.eq (isHs.no (by omega) h)
  subst hz
  rw [m_Mod_goesAhead_14, clt_t (by omega), e2, cle_t (by omega)]
theorem hskipsD (hI : Inv bt ow bl wr wa ki) (hD : Dsk vow vbt vki vpl vva vwr bt ow bl wr wa ki) {f v2 v3 v4 rm : Int} {rs rz : Int → Int} (hf : 0 ≤ f ∧ f < 4) (he : v2 + v3 ≤ 24) : ∀ (d : Nat) (q : Int) (fuel : Nat), 0 ≤ q → q + d ≤ v2 + v3 → (∀ j : Int, 0 ≤ j → j < d → ¬ hlp bl wa (24 * f + q + j)) → m_Disk_putHoles_23 (fuel + d) f v2 v3 v4 q vow vki vpl vva rm rs rz = m_Disk_putHoles_23 fuel f v2 v3 v4 (q + d) vow vki vpl vva rm rs rz
  | 0, q, fuel, _, _, _ => by
    rw [show q + ((0 : Nat) : Int) = q by omega]
    rfl
  | d + 1, q, fuel, h0, h1, h2 => by
    have h3 := h2 0 (by omega) (by omega)
    rw [Int.add_zero] at h3
    rw [show fuel + (d + 1) = (fuel + d) + 1 by omega, hskipD hI hD hf ⟨h0, by omega⟩ he h3, hskipsD hI hD hf he d (q + 1) fuel (by omega) (by omega) (fun j q0 q1 => by
      have := h2 (j + 1) (by omega) (by omega)
      rw [show 24 * f + q + (j + 1) = 24 * f + (q + 1) + j by omega] at this
      exact this), show q + 1 + (d : Int) = q + ((d + 1 : Nat) : Int) by omega]
theorem hskipsM (hI : Inv bt ow bl wr wa ki) {f p n sm sM : Int} (hf : 0 ≤ f ∧ f < 4) (hp : 0 ≤ p) (hn : p + n ≤ 24) : ∀ (d : Nat) (k : Int) (fuel : Nat), 0 ≤ k → k + d ≤ n → (∀ j : Int, 0 ≤ j → j < d → ¬ hlp bl wa (24 * f + (p + k) + j)) → m_Mod_goesAhead_14 (fuel + d) f p n k sm sM ow bl wr wa ki = m_Mod_goesAhead_14 fuel f p n (k + d) sm sM ow bl wr wa ki
  | 0, k, fuel, _, _, _ => by
    rw [show k + ((0 : Nat) : Int) = k by omega]
    rfl
  | d + 1, k, fuel, h0, h1, h2 => by
    have h3 := h2 0 (by omega) (by omega)
    rw [Int.add_zero] at h3
    rw [show fuel + (d + 1) = (fuel + d) + 1 by omega, hskipM hI hf hp ⟨h0, by omega⟩ hn h3, hskipsM hI hf hp hn d (k + 1) fuel (by omega) (by omega) (fun j q0 q1 => by
      have := h2 (j + 1) (by omega) (by omega)
      rw [show 24 * f + (p + k) + (j + 1) = 24 * f + (p + (k + 1)) + j by omega] at this
      exact this), show k + 1 + (d : Int) = k + ((d + 1 : Nat) : Int) by omega]
theorem hputs_both {f a0 v2 v3 v4 : Int} (hf : 0 ≤ f ∧ f < 4) (h0 : 24 * f ≤ a0 ∧ a0 < 24 * f + 24) (he : v2 + v3 ≤ 24) : ∀ (N : Nat) (left p made : Int) (ow bl wr vow vpl : Int → Int) (rm : Int) (rs rz : Int → Int) (fM F : Nat), left ≤ N → 1 ≤ left → 0 ≤ p → 0 ≤ made → made ≤ p → left < fM → Inv bt ow bl wr wa ki → Dsk vow vbt vki vpl vva vwr bt ow bl wr wa ki → isHs bl wa f p (v2 + v3) left → left ≤ rom ow bl wa →
    ∃ made' ow' bl' wr' vow' vpl' rm' rs' rz', made' ≤ p + left ∧ made ≤ made' ∧ m_Mod_puts_5 fM a0 left (24 * f + p) made 1000000 ow bl wr ki = some (1, made', ow', bl', wr') ∧ m_Disk_putHoles_23 (F + left.toNat) f v2 v3 v4 p vow vki vpl vva rm rs rz = m_Disk_putHoles_23 F f v2 v3 v4 (p + left) vow' vki vpl' vva rm' rs' rz' ∧ Inv bt ow' bl' wr' wa ki ∧ Dsk vow' vbt vki vpl' vva vwr bt ow' bl' wr' wa ki ∧ (∀ j : Int, 0 ≤ j → j < left → 0 ≤ bl' (24 * f + p + j)) ∧ (∀ a : Int, (a < 24 * f + p ∨ 24 * f + p + left ≤ a) → bl' a = bl a) ∧ rom ow bl wa - left ≤ rom ow' bl' wa := by
  intro N
  induction N with
  | zero =>
    intro left p made ow bl wr vow vpl rm rs rz fM F h1 h2
    omega
  | succ N ih =>
    intro left p made ow bl wr vow vpl rm rs rz fM F h1 h2 h3 h5 h7 h8 hI hD hS hr
    obtain ⟨s1, s2, s3, s4⟩ := id hS
    cases fM with
    | zero => omega
    | succ fM =>
      obtain ⟨g, u, many, ow', bl', wr', vow', vpl', rm', rs', rz', e1, g0, g1, m0, m1, e2, e3, e4, e5, e6, e7, e8, e9, -⟩ := piece hI hD hf h3 h2 (by omega) (fun j q0 q1 => (s3 j q0 q1).1) (Or.inr hr) rm rs rz
      have hM : m_Mod_puts_5 (fM + 1) a0 left (24 * f + p) made 1000000 ow bl wr ki = m_Mod_puts_5 fM a0 (left - many) (24 * f + p + many) (made + 1) 1000000 ow' bl' wr' ki := by
        rw [m_Mod_puts_5, cle_f (by omega), steps_go (K := 1000) (Or.inr ⟨rfl, rfl⟩) h5 (by omega) (by omega), bnd_s]
        dsimp only
        rw [ceq_f (by omega), e1, bnd_s]
        simp only [jn_s]
        rcases e2 with ⟨q1, q2, gl, q3, q4⟩ | ⟨q1, q2, q3⟩
        · rw [clt_f (by omega), ceq_t (by omega), gd_xz (by omega), gd_x (by omega), q3, bnd_s, show a0 / 24 = f by omega, q4, bnd_s]
          rw [q2] at e3
          rw [e3, bnd_s, q2]
        · rw [clt_t (by omega), bnd_s, ceq_f (by omega), q3, bnd_s]
          rw [q2] at e3
          rw [e3, bnd_s, q2]
      have hC : ∀ X : Nat, m_Disk_putHoles_23 (X + 1) f v2 v3 v4 p vow vki vpl vva rm rs rz = m_Disk_putHoles_23 X f v2 v3 v4 (p + 1) vow' vki vpl' vva rm' rs' rz' := by
        intro X
        obtain ⟨z, y1, y2⟩ := p_hserD hI hD hf (q := p) (e := v2 + v3) ⟨h3, by omega⟩ he
        have hz := y2.eq hS
        subst hz
        rw [m_Disk_putHoles_23, clt_t (by omega), y1, bnd_s, e4, bnd_s]
      have hskip : ∀ X : Nat, m_Disk_putHoles_23 (X + (many - 1).toNat + 1) f v2 v3 v4 p vow vki vpl vva rm rs rz = m_Disk_putHoles_23 X f v2 v3 v4 (p + many) vow' vki vpl' vva rm' rs' rz' := by
        intro X
        rw [hC, hskipsD e5 e6 hf he (many - 1).toNat (p + 1) X (by omega) (by omega) (fun j q0 q1 => by
          rintro ⟨t1, -⟩
          have := e7 (j + 1) (by omega) (by omega)
          rw [show 24 * f + p + (j + 1) = 24 * f + (p + 1) + j by omega] at this
          omega), show p + 1 + ((many - 1).toNat : Int) = p + many by omega]
      by_cases hall : many = left
      · cases fM with
        | zero => omega
        | succ fM =>
          refine ⟨made + 1, ow', bl', wr', vow', vpl', rm', rs', rz', by omega, by omega, ?_, ?_, e5, e6, fun j q0 q1 => e7 j q0 (by omega), fun a q => e8 a (by omega), by omega⟩
          · rw [hM, m_Mod_puts_5, cle_t (by omega)]
          · rw [show F + left.toNat = F + (many - 1).toNat + 1 by omega, hskip, show p + many = p + left by omega]
      · have hS' : isHs bl' wa f (p + many) (v2 + v3) (left - many) := by
          refine ⟨by omega, by omega, fun j q0 q1 => ?_, ?_⟩
          · have := s3 (many + j) (by omega) (by omega)
            rw [show 24 * f + p + (many + j) = 24 * f + (p + many) + j by omega] at this
            unfold hlp at this ⊢
            rw [e8 (24 * f + (p + many) + j) (Or.inr (by omega))]
            exact this
          · rcases s4 with q | q
            · exact Or.inl (by omega)
            · refine Or.inr ?_
              rw [show 24 * f + (p + many) + (left - many) = 24 * f + p + left by omega]
              unfold hlp at q ⊢
              rw [e8 (24 * f + p + left) (Or.inr (by omega))]
              exact q
        obtain ⟨made2, ow2, bl2, wr2, vow2, vpl2, rm2, rs2, rz2, y1, y2, x1, x2, x3, x4, x5, x6, x7⟩ := ih (left - many) (p + many) (made + 1) ow' bl' wr' vow' vpl' rm' rs' rz' fM F (by omega) (by omega) (by omega) (by omega) (by omega) (by omega) e5 e6 hS' (by omega)
        rw [show 24 * f + (p + many) = 24 * f + p + many by omega] at x1
        refine ⟨made2, ow2, bl2, wr2, vow2, vpl2, rm2, rs2, rz2, by omega, by omega, ?_, ?_, x3, x4, fun j q0 q1 => ?_, fun a q => ?_, by omega⟩
        · rw [hM]
          exact x1
        · rw [show F + left.toNat = (F + (left - many).toNat) + (many - 1).toNat + 1 by omega, hskip, x2, show p + many + (left - many) = p + left by omega]
        · by_cases c : j < many
          · rw [x6 _ (Or.inl (by omega))]
            exact e7 j q0 c
          · have := x5 (j - many) (by omega) (by omega)
            rw [show 24 * f + (p + many) + (j - many) = 24 * f + p + j by omega] at this
            exact this
        · rw [x6 a (by omega), e8 a (by omega)]
theorem ahead_loop {f p n v4 : Int} (hf : 0 ≤ f ∧ f < 4) (hp : 0 ≤ p) (hn : 0 ≤ n ∧ p + n ≤ 24) : ∀ (N : Nat) (k made : Int) (ow bl wr vow vpl : Int → Int) (rm : Int) (rs rz : Int → Int) (fM fD : Nat), n - k ≤ N → 0 ≤ k → k ≤ n → 0 ≤ made → made ≤ p + k → n - k < fM → n - k < fD → Inv bt ow bl wr wa ki → Dsk vow vbt vki vpl vva vwr bt ow bl wr wa ki → hol bl wa (24 * f + (p + k)) (n - k).toNat ≤ rom ow bl wa →
    ∃ made' ow' bl' wr' vow' vpl' rm' rs' rz', m_Mod_goesAhead_14 fM f p n k made 1000000 ow bl wr wa ki = some (made', 1000000, ow', bl', wr') ∧ m_Disk_putHoles_23 fD f p n v4 (p + k) vow vki vpl vva rm rs rz = some (v4, vow', vpl', rm', rs', rz') ∧ Inv bt ow' bl' wr' wa ki ∧ Dsk vow' vbt vki vpl' vva vwr bt ow' bl' wr' wa ki := by
  intro N
  induction N with
  | zero =>
    intro k made ow bl wr vow vpl rm rs rz fM fD h1 h2 h3 h4 h5 h6 h7 hI hD h8
    cases fM with
    | zero => omega
    | succ fM =>
      cases fD with
      | zero => omega
      | succ fD => exact ⟨made, ow, bl, wr, vow, vpl, rm, rs, rz, by rw [m_Mod_goesAhead_14, clt_f (by omega)], by rw [m_Disk_putHoles_23, clt_f (by omega)], hI, hD⟩
  | succ N ih =>
    intro k made ow bl wr vow vpl rm rs rz fM fD h1 h2 h3 h4 h5 h6 h7 hI hD h8
    cases fM with
    | zero => omega
    | succ fM =>
      cases fD with
      | zero => omega
      | succ fD =>
        by_cases hk : k = n
        · exact ⟨made, ow, bl, wr, vow, vpl, rm, rs, rz, by rw [m_Mod_goesAhead_14, clt_f (by omega)], by rw [m_Disk_putHoles_23, clt_f (by omega)], hI, hD⟩
        · by_cases ht : hlp bl wa (24 * f + (p + k))
          · obtain ⟨z, y1, y2⟩ := p_hserM hI hf hp (k := k) (n := n) ⟨h2, h3⟩ hn.2
            obtain ⟨z0, z1, z2, z3⟩ := id y1
            have zp : 1 ≤ z := by
              by_cases c : z = 0
              · subst c
                rcases z3 with z3 | z3
                · omega
                · rw [Int.add_zero] at z3
                  exact absurd ht z3
              · omega
            have hsplit : hol bl wa (24 * f + (p + k)) (n - k).toNat = z + hol bl wa (24 * f + (p + (k + z))) (n - (k + z)).toNat := by
              unfold hol
              have e := cn_cat (fun j => bl (24 * f + (p + k) + j) < 0 ∧ wa (24 * f + (p + k) + j) < 0) z.toNat (n - (k + z)).toNat
              rw [show z.toNat + (n - (k + z)).toNat = (n - k).toNat by omega] at e
              rw [e, cn_full (P := fun j => bl (24 * f + (p + k) + j) < 0 ∧ wa (24 * f + (p + k) + j) < 0) z.toNat (fun j q0 q1 => z2 j q0 (by omega)), cn_congr (Q := fun j => bl (24 * f + (p + (k + z)) + j) < 0 ∧ wa (24 * f + (p + (k + z)) + j) < 0) (n - (k + z)).toNat (fun j q0 q1 => by rw [show 24 * f + (p + k) + ((z.toNat : Int) + j) = 24 * f + (p + (k + z)) + j by omega])]
              omega
            have hrest := cn_bd (fun j => bl (24 * f + (p + (k + z)) + j) < 0 ∧ wa (24 * f + (p + (k + z)) + j) < 0) (n - (k + z)).toNat
            have hrest : 0 ≤ hol bl wa (24 * f + (p + (k + z))) (n - (k + z)).toNat := hrest.1
            obtain ⟨made2, ow2, bl2, wr2, vow2, vpl2, rm2, rs2, rz2, w1, w2, x1, x2, x3, x4, x5, x6, x7⟩ := hputs_both (v2 := p) (v3 := n) (v4 := v4) hf (a0 := 24 * f + (p + k)) ⟨by omega, by omega⟩ hn.2 z.toNat z (p + k) made ow bl wr vow vpl rm rs rz 5000 (fD + 1 - z.toNat) (by omega) zp (by omega) h4 h5 (by omega) hI hD y1 (by omega)
            rw [show fD + 1 - z.toNat + z.toNat = fD + 1 by omega] at x2
            have hno : ∀ j : Int, 0 ≤ j → j < z → ¬ hlp bl2 wa (24 * f + (p + k) + j) := by
              rintro j q0 q1 ⟨t1, -⟩
              have := x5 j q0 q1
              omega
            have hm2 : m_Mod_goesAhead_14 (fM + 1) f p n k made 1000000 ow bl wr wa ki = m_Mod_goesAhead_14 (fM - (z - 1).toNat) f p n (k + z) made2 1000000 ow2 bl2 wr2 wa ki := by
              rw [m_Mod_goesAhead_14, clt_t (by omega), y2, cle_f (by omega)]
              unfold m_Mod_puts
              rw [show 24 * f + p + k = 24 * f + (p + k) by omega, x1, bnd_s]
              dsimp only
              have e := hskipsM (sm := made2) (sM := 1000000) x3 hf hp hn.2 (z - 1).toNat (k + 1) (fM - (z - 1).toNat) (by omega) (by omega) (fun j q0 q1 => by
                have := hno (j + 1) (by omega) (by omega)
                rw [show 24 * f + (p + k) + (j + 1) = 24 * f + (p + (k + 1)) + j by omega] at this
                exact this)
              rw [show fM - (z - 1).toNat + (z - 1).toNat = fM by omega, show k + 1 + ((z - 1).toNat : Int) = k + z by omega] at e
              exact e
            have h8' : hol bl2 wa (24 * f + (p + (k + z))) (n - (k + z)).toNat ≤ rom ow2 bl2 wa := by
              have e : hol bl2 wa (24 * f + (p + (k + z))) (n - (k + z)).toNat = hol bl wa (24 * f + (p + (k + z))) (n - (k + z)).toNat := by
                unfold hol
                exact cn_congr _ (fun j q0 q1 => by rw [x6 (24 * f + (p + (k + z)) + j) (Or.inr (by omega))])
              omega
            rw [hm2, x2, show p + k + z = p + (k + z) by omega]
            exact ih (k + z) made2 ow2 bl2 wr2 vow2 vpl2 rm2 rs2 rz2 (fM - (z - 1).toNat) (fD + 1 - z.toNat) (by omega) (by omega) (by omega) (by omega) (by omega) (by omega) (by omega) x3 x4 h8'
          · rw [hskipM hI hf hp ⟨h2, by omega⟩ hn.2 ht, hskipD hI hD hf ⟨by omega, by omega⟩ hn.2 ht, show p + k + 1 = p + (k + 1) by omega]
            refine ih (k + 1) made ow bl wr vow vpl rm rs rz fM fD (by omega) (by omega) (by omega) h4 (by omega) (by omega) (by omega) hI hD ?_
            have hsplit : hol bl wa (24 * f + (p + k)) (n - k).toNat = cn (fun j => bl (24 * f + (p + k) + j) < 0 ∧ wa (24 * f + (p + k) + j) < 0) 1 + hol bl wa (24 * f + (p + (k + 1))) (n - (k + 1)).toNat := by
              unfold hol
              have e := cn_cat (fun j => bl (24 * f + (p + k) + j) < 0 ∧ wa (24 * f + (p + k) + j) < 0) 1 (n - (k + 1)).toNat
              rw [show 1 + (n - (k + 1)).toNat = (n - k).toNat by omega] at e
              rw [e, cn_congr (Q := fun j => bl (24 * f + (p + (k + 1)) + j) < 0 ∧ wa (24 * f + (p + (k + 1)) + j) < 0) (n - (k + 1)).toNat (fun j q0 q1 => by rw [show 24 * f + (p + k) + (((1 : Nat) : Int) + j) = 24 * f + (p + (k + 1)) + j by omega])]
            have := cn_bd (fun j => bl (24 * f + (p + k) + j) < 0 ∧ wa (24 * f + (p + k) + j) < 0) 1
            omega
/-- holes are put: both can, or neither -/
theorem ahead_both (hI : Inv bt ow bl wr wa ki) (hD : Dsk vow vbt vki vpl vva vwr bt ow bl wr wa ki) {f p n : Int} (hf : 0 ≤ f ∧ f < 4) (hp : 0 ≤ p) (hn : 0 ≤ n ∧ p + n ≤ 24) (rm : Int) (rs rz : Int → Int) (sm sM : Int) :
    ∃ h : Int, 0 ≤ h ∧ h ≤ 24 ∧ m_Mod_holesAmong f p n bl wa = some h ∧ m_Mod_roomNow ow bl wa = some (rom ow bl wa) ∧
    ((rom ow bl wa < h ∧ m_Disk_putHoles f p n vow vki vpl vva rm rs rz = some (-1, vow, vpl, rm, rs, rz)) ∨
    (h ≤ rom ow bl wa ∧ ∃ s1 s2 vow' vpl' rm' rs' rz' ow' bl' wr', m_Disk_putHoles f p n vow vki vpl vva rm rs rz = some (h, vow', vpl', rm', rs', rz') ∧ m_Mod_goesAhead f p n sm sM ow bl wr wa ki = some (s1, s2, ow', bl', wr') ∧ Inv bt ow' bl' wr' wa ki ∧ Dsk vow' vbt vki vpl' vva vwr bt ow' bl' wr' wa ki)) := by
  have hc := cn_bd (fun j => bl (24 * f + p + j) < 0 ∧ wa (24 * f + p + j) < 0) n.toNat
  have hc : 0 ≤ hol bl wa (24 * f + p) n.toNat ∧ hol bl wa (24 * f + p) n.toNat ≤ n.toNat := hc
  have hr := rom_bd hI
  have k1 := pM_holes hI hf (p := p) (n := n.toNat) ⟨hp, by omega⟩
  have k2 := pD_holes hI hD hf (p := p) (n := n.toNat) ⟨hp, by omega⟩
  rw [show ((n.toNat : Nat) : Int) = n by omega] at k1 k2
  refine ⟨hol bl wa (24 * f + p) n.toNat, hc.1, by omega, k1, pM_room hI, ?_⟩
  unfold m_Disk_putHoles
  rw [k2, bnd_s, pD_room hI hD, bnd_s]
  by_cases c : rom ow bl wa < hol bl wa (24 * f + p) n.toNat
  · rw [clt_t (by omega)]
    exact Or.inl ⟨c, rfl⟩
  · rw [clt_f (by omega)]
    obtain ⟨made, ow', bl', wr', vow', vpl', rm', rs', rz', e1, e2, e3, e4⟩ := ahead_loop (v4 := hol bl wa (24 * f + p) n.toNat) hf hp hn n.toNat 0 0 ow bl wr vow vpl rm rs rz 5000 5000 (by omega) (by omega) (by omega) (by omega) (by omega) (by omega) (by omega) hI hD (by
      rw [show 24 * f + (p + 0) = 24 * f + p by omega, show n - 0 = n by omega]
      omega)
    rw [Int.add_zero] at e2
    exact Or.inr ⟨by omega, made, 1000000, vow', vpl', rm', rs', rz', ow', bl', wr', e2, e1, e3, e4⟩
end AHD
theorem e_ahead : E_ahead := by
  intro ik now nbt nki npl nva nwr kow kbt kki kpl kva kwr smn snu rmn rnu rf mr mb mo ml mw mt mk mp mq mz mh my mn nrm nrs nrz sm sM x1 x2 x3 hR hx hx2 hx3
  obtain ⟨hI, hD, hk, hk1, h5, h6, h7⟩ := id hR
  unfold m_Vol_ahead m_Mod_ahead
  simp only [jn_s]
  rw [p_Vol_isFile hx, bnd_s, p_Mod_isFile hx, bnd_s, ceq_yn, ceq_yn]
  by_cases hf : 0 ≤ x1 ∧ x1 < 4
  · rw [if_pos hf, if_pos hf, p_Vol_isPage hx2, bnd_s, p_Mod_isPage hx2, bnd_s, ceq_yn, ceq_yn]
    by_cases hp : 0 ≤ x2 ∧ x2 < 24
    · rw [if_pos hp, if_pos hp, p_Mod_bound hx3 (by omega) (by omega), bnd_s]
      by_cases h1 : x3 < 1
      · rw [clt_t (by omega), if_pos h1, ceq_f (by omega), ceq_f (by omega), p_refuse (by omega), p_no (by omega), bnd_s, bnd_s]
        exact ⟨_, _, rfl, rfl, rfl, hR.no (-4) (by omega)⟩
      · rw [clt_f (by omega), if_neg h1]
        by_cases h2 : x3 ≤ 24 - x2
        · rw [cle_t (by omega), if_pos h2]
          obtain ⟨h, b0, b1, k1, k2, k3⟩ := ahead_both hI hD hf (p := x2) (n := x3) hp.1 ⟨by omega, by omega⟩ nrm nrs nrz sm sM
          have hr := rom_bd hI
          rcases k3 with ⟨c, e1⟩ | ⟨c, s1, s2, vow', vpl', rm', rs', rz', ow', bl', wr', e1, e2, nI, nD⟩
          · rw [e1, bnd_s, ceq_t (x := 0) (y := 0) (by omega), k2, bnd_s, k1, bnd_s]
            dsimp only
            rw [clt_t (by omega), clt_t (by omega), ceq_f (by omega), p_refuse (by omega), p_no (by omega), bnd_s, bnd_s]
            exact ⟨_, _, rfl, rfl, rfl, hR.no (-6) (by omega)⟩
          · rw [e1, bnd_s, ceq_t (x := 0) (y := 0) (by omega), k2, bnd_s, k1, bnd_s]
            dsimp only
            rw [clt_f (by omega), clt_f (by omega), ceq_t (by omega), bnd_s, e2, bnd_s]
            exact ⟨_, _, rfl, rfl, rfl, nI, nD, hk, hk1, h5, h6, h7⟩
        · rw [cle_f (by omega), if_neg h2, clt_t (by omega), ceq_f (by omega), ceq_f (by omega), p_refuse (by omega), p_no (by omega), bnd_s, bnd_s]
          exact ⟨_, _, rfl, rfl, rfl, hR.no (-6) (by omega)⟩
    · rw [if_neg hp, if_neg hp, ceq_f (by omega), ceq_f (by omega), p_refuse (by omega), p_no (by omega), bnd_s, bnd_s]
      exact ⟨_, _, rfl, rfl, rfl, hR.no (-1) (by omega)⟩
  · rw [if_neg hf, if_neg hf, ceq_f (by omega), ceq_f (by omega), p_refuse (by omega), p_no (by omega), bnd_s, bnd_s]
    exact ⟨_, _, rfl, rfl, rfl, hR.no (-1) (by omega)⟩
