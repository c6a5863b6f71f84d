/-! a flush: the class and the reference go in step -/
def Lim (K M : Int) : Prop := (0 ≤ K ∧ K ≤ 99 ∧ M = K) ∨ (K = 1000 ∧ M = 1000000)
theorem steps_go {made K M : Int} (hL : Lim K M) (h0 : 0 ≤ made) (h : made < K) (h1 : made ≤ 100) : m_Mod_steps_ made M = some (1, made + 1) := by
  unfold Lim at hL
  unfold m_Mod_steps_
  rw [ceq_f (by omega)]
theorem steps_no {K M : Int} (hL : Lim K M) (h : K ≤ 100) : m_Mod_steps_ K M = some (0, K) := by
  unfold Lim at hL
  unfold m_Mod_steps_
  rw [ceq_t (by omega)]
def toP (bl wa : Int → Int) (a : Int) : Prop := bl a < 0 ∧ 0 ≤ wa a
/-- n pages on end from page p of a file on wait and are not placed; the next one does not, or is not there -/
def isSer (bl wa : Int → Int) (f p n : Int) : Prop := 0 ≤ n ∧ p + n ≤ 24 ∧ (∀ j : Int, 0 ≤ j → j < n → toP bl wa (24 * f + p + j)) ∧ (p + n = 24 ∨ ¬ toP bl wa (24 * f + p + n))
section FLU
variable {bt ow bl wr wa ki vow vbt vki vpl vva vwr : Int → Int}
theorem series_both (hI : Inv bt ow bl wr wa ki) (hD : Dsk vow vbt vki vpl vva vwr bt ow bl wr wa ki) {f p : Int} (hf : 0 ≤ f ∧ f < 4) (hp : 0 ≤ p) : ∀ (d : Nat) (n : Int) (fM fD : Nat), p + n + d = 24 → d < fM → d < fD → 0 ≤ n → (∀ j : Int, 0 ≤ j → j < n → toP bl wa (24 * f + p + j)) → ∃ z, m_Mod_seriesToPlace_2 fM f p n bl wa = some z ∧ m_Disk_promisedFrom_5 fD f n (p + n) vpl vva = some z ∧ isSer bl wa f p z := by
  intro d
  induction d with
  | zero =>
    intro n fM fD h1 h2 h3 h4 h5
    cases fM with
    | zero => omega
    | succ fM =>
      cases fD with
      | zero => omega
      | succ fD =>
        rw [m_Mod_seriesToPlace_2, m_Disk_promisedFrom_5, clt_f (by omega), clt_f (by omega)]
        exact ⟨n, rfl, rfl, h4, by omega, h5, Or.inl (by omega)⟩
  | succ d ih =>
    intro n fM fD h1 h2 h3 h4 h5
    cases fM with
    | zero => omega
    | succ fM =>
      cases fD with
      | zero => omega
      | succ fD =>
        have hb := (Inv.at hI).2 (24 * f + p + n) (by omega) (by omega)
        have hq := Rel.pg hD hf (p := p + n) ⟨by omega, by omega⟩
        have e : 24 * f + (p + n) = 24 * f + p + n := by omega
        rw [e] at hq
        rw [m_Mod_seriesToPlace_2, m_Disk_promisedFrom_5, clt_t (by omega), clt_t (by omega), p_isToPlace (by omega) (by omega) (by omega), bnd_s, ceq_yn, p_Disk_isPromised hf ⟨by omega, by omega⟩ (by rw [e]; omega) (by rw [e]; omega), bnd_s, ceq_yn, e]
        by_cases h : bl (24 * f + p + n) < 0 ∧ 0 ≤ wa (24 * f + p + n)
        · rw [if_pos h, if_pos (by omega), Int.add_assoc p n 1]
          refine ih (n + 1) fM fD (by omega) (by omega) (by omega) (by omega) (fun j q0 q1 => ?_)
          by_cases c : j = n
          · rw [c]
            exact h
          · exact h5 j q0 (by omega)
        · rw [if_neg h, if_neg (by omega)]
          exact ⟨n, rfl, rfl, h4, by omega, h5, Or.inr h⟩
theorem p_series (hI : Inv bt ow bl wr wa ki) (hD : Dsk vow vbt vki vpl vva vwr bt ow bl wr wa ki) {f p : Int} (hf : 0 ≤ f ∧ f < 4) (hp : 0 ≤ p ∧ p ≤ 24) : ∃ z, m_Mod_seriesToPlace f p bl wa = some z ∧ m_Disk_promisedFrom f p vpl vva = some z ∧ isSer bl wa f p z := by
  obtain ⟨z, e1, e2, e3⟩ := series_both hI hD hf hp.1 (24 - p).toNat 0 5000 5000 (by omega) (by omega) (by omega) (by omega) (fun j q0 q1 => by omega)
  rw [Int.add_zero] at e2
  exact ⟨z, e1, e2, e3⟩
theorem isSer.eq {f p n m : Int} (h : isSer bl wa f p n) (g : isSer bl wa f p m) : n = m := by
  obtain ⟨h1, h2, h3, h4⟩ := h
  obtain ⟨g1, g2, g3, g4⟩ := g
  by_cases c : n < m
  · rcases h4 with h4 | h4
    · omega
    · exact absurd (g3 n h1 c) h4
  · by_cases c2 : m < n
    · rcases g4 with g4 | g4
      · omega
      · exact absurd (h3 m g1 c2) g4
    · omega
theorem isSer.no {f p : Int} (hp : p < 24) (h : ¬ toP bl wa (24 * f + p)) : isSer bl wa f p 0 := ⟨by omega, by omega, fun j q0 q1 => by omega, Or.inr (by rw [Int.add_zero]; exact h)⟩
/-- a page that is not to be placed: both pass over it -/
theorem class_skip (hI : Inv bt ow bl wr wa ki) (hD : Dsk vow vbt vki vpl vva vwr bt ow bl wr wa ki) {f p K made rm : Int} {rs rz : Int → Int} {fuel : Nat} (hf : 0 ≤ f ∧ f < 4) (hp : 0 ≤ p ∧ p < 24) (hK : 0 ≤ made ∧ made < K ∧ K ≤ 1000) (h : ¬ toP bl wa (24 * f + p)) : m_Disk_flushUpTo_5 (fuel + 1) f K made p vow vbt vki vpl vva vwr rm rs rz = m_Disk_flushUpTo_5 fuel f K made (p + 1) vow vbt vki vpl vva vwr rm rs rz := by
  obtain ⟨z, e1, e2, e3⟩ := p_series hI hD hf (p := p) ⟨hp.1, by omega⟩
  have hz := e3.eq (isSer.no hp.2 h)
  subst hz
  rw [m_Disk_flushUpTo_5, clt_t (by omega), clt_t (by omega), e2, bnd_s]
  unfold m_Disk_putPiece
  rw [clt_t (by omega), bnd_s, cle_t (by omega)]
theorem ref_skip (hI : Inv bt ow bl wr wa ki) (hD : Dsk vow vbt vki vpl vva vwr bt ow bl wr wa ki) {f p made M : Int} {fuel : Nat} (hf : 0 ≤ f ∧ f < 4) (hp : 0 ≤ p ∧ p < 24) (h : ¬ toP bl wa (24 * f + p)) : m_Mod_placesAll_2 (fuel + 1) f p made M ow bl wr wa ki = m_Mod_placesAll_2 fuel f (p + 1) made M ow bl wr wa ki := by
  obtain ⟨z, e1, e2, e3⟩ := p_series hI hD hf (p := p) ⟨hp.1, by omega⟩
  have hz := e3.eq (isSer.no hp.2 h)
  subst hz
  rw [m_Mod_placesAll_2, clt_t (by omega), e1, bnd_s, cle_t (by omega)]
theorem class_skips (hI : Inv bt ow bl wr wa ki) (hD : Dsk vow vbt vki vpl vva vwr bt ow bl wr wa ki) {f K made rm : Int} {rs rz : Int → Int} (hf : 0 ≤ f ∧ f < 4) (hK : 0 ≤ made ∧ made < K ∧ K ≤ 1000) : ∀ (d : Nat) (p : Int) (fuel : Nat), 0 ≤ p → p + d ≤ 24 → (∀ j : Int, 0 ≤ j → j < d → ¬ toP bl wa (24 * f + p + j)) → m_Disk_flushUpTo_5 (fuel + d) f K made p vow vbt vki vpl vva vwr rm rs rz = m_Disk_flushUpTo_5 fuel f K made (p + d) vow vbt vki vpl vva vwr rm rs rz
  | 0, p, fuel, h0, h1, h2 => by
    rw [show p + ((0 : Nat) : Int) = p by omega]
    rfl
  | d + 1, p, fuel, h0, h1, h2 => by
    have h3 := h2 0 (by omega) (by omega)
    rw [Int.add_zero] at h3
    rw [show fuel + (d + 1) = (fuel + d) + 1 by omega, class_skip hI hD hf ⟨h0, by omega⟩ hK h3, class_skips hI hD hf hK d (p + 1) fuel (by omega) (by omega) (fun j q0 q1 => by
      have := h2 (j + 1) (by omega) (by omega)
      rw [show 24 * f + p + (j + 1) = 24 * f + (p + 1) + j by omega] at this
      exact this), show p + 1 + (d : Int) = p + ((d + 1 : Nat) : Int) by omega]
theorem ref_skips (hI : Inv bt ow bl wr wa ki) (hD : Dsk vow vbt vki vpl vva vwr bt ow bl wr wa ki) {f made M : Int} (hf : 0 ≤ f ∧ f < 4) : ∀ (d : Nat) (p : Int) (fuel : Nat), 0 ≤ p → p + d ≤ 24 → (∀ j : Int, 0 ≤ j → j < d → ¬ toP bl wa (24 * f + p + j)) → m_Mod_placesAll_2 (fuel + d) f p made M ow bl wr wa ki = m_Mod_placesAll_2 fuel f (p + d) made M ow bl wr wa ki
  | 0, p, fuel, h0, h1, h2 => by
    rw [show p + ((0 : Nat) : Int) = p by omega]
    rfl
  | d + 1, p, fuel, h0, h1, h2 => by
    have h3 := h2 0 (by omega) (by omega)
    rw [Int.add_zero] at h3
    rw [show fuel + (d + 1) = (fuel + d) + 1 by omega, ref_skip hI hD hf ⟨h0, by omega⟩ h3, ref_skips hI hD hf d (p + 1) fuel (by omega) (by omega) (fun j q0 q1 => by
      have := h2 (j + 1) (by omega) (by omega)
      rw [show 24 * f + p + (j + 1) = 24 * f + (p + 1) + j by omega] at this
      exact this), show p + 1 + (d : Int) = p + ((d + 1 : Nat) : Int) by omega]
/-- the class at its last step -/
theorem class_end {f p K rm : Int} {rs rz : Int → Int} {fuel : Nat} (hK : 0 ≤ K ∧ K ≤ 1000) (hp : 0 ≤ p ∧ p ≤ 24) : m_Disk_flushUpTo_5 (fuel + 1) f K K p vow vbt vki vpl vva vwr rm rs rz = some (K, vow, vbt, vpl, vva, vwr, rm, rs, rz) := by
  have e : m_Disk_flushUpTo_46 5000 f K K 0 vow vbt vki vpl vva vwr rm rs rz = some (K, vow, vbt, vpl, vva, vwr, rm, rs, rz) := by
    rw [m_Disk_flushUpTo_46, clt_t (by omega), clt_f (by omega)]
  rw [m_Disk_flushUpTo_5]
  by_cases h : p < 24
  · rw [clt_t (by omega), clt_f (by omega)]
    exact e
  · rw [clt_f (by omega)]
    exact e
/-- the reference at its last step -/
theorem ref_stuck (hI : Inv bt ow bl wr wa ki) (hD : Dsk vow vbt vki vpl vva vwr bt ow bl wr wa ki) {f K M : Int} (hf : 0 ≤ f ∧ f < 4) (hL : Lim K M) (hK : K ≤ 99) : ∀ (d : Nat) (p : Int) (fuel : Nat), 0 ≤ p → p + d = 24 → d < fuel → ∃ r, (r = 0 ∨ r = 1) ∧ m_Mod_placesAll_2 fuel f p K M ow bl wr wa ki = some (r, K, ow, bl, wr) := by
  intro d
  induction d with
  | zero =>
    intro p fuel h0 h1 h2
    cases fuel with
    | zero => omega
    | succ fuel => exact ⟨1, Or.inr rfl, by rw [m_Mod_placesAll_2, clt_f (by omega)]⟩
  | succ d ih =>
    intro p fuel h0 h1 h2
    cases fuel with
    | zero => omega
    | succ fuel =>
      obtain ⟨z, e1, e2, e3⟩ := p_series hI hD hf (p := p) ⟨h0, by omega⟩
      have z0 := e3.1
      have z1 := e3.2.1
      rw [m_Mod_placesAll_2, clt_t (by omega), e1, bnd_s]
      by_cases h : z ≤ 0
      · rw [cle_t (by omega)]
        exact ih (p + 1) fuel (by omega) (by omega) (by omega)
      · rw [cle_f (by omega)]
        refine ⟨0, Or.inl rfl, ?_⟩
        have e : m_Mod_puts (24 * f + p) z K M ow bl wr ki = some (0, K, ow, bl, wr) := by
          unfold m_Mod_puts
          rw [m_Mod_puts_5, cle_f (by omega), steps_no hL (by omega), bnd_s, ceq_t (by omega)]
        rw [e, bnd_s, ceq_t (by omega)]
end FLU
