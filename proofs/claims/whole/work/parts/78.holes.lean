/-! holes among pages -/
section HOLES
variable {vow vbt vki vpl vva vwr bt ow bl wr wa ki : Int → Int}
def hol (bl wa : Int → Int) (a : Int) (n : Nat) : Int := cn (fun j => bl (a + j) < 0 ∧ wa (a + j) < 0) n
theorem pM_holes (hI : Inv bt ow bl wr wa ki) {f p : Int} {n : Nat} (hf : 0 ≤ f ∧ f < 4) (hp : 0 ≤ p ∧ p + n ≤ 24) : m_Mod_holesAmong f p n bl wa = some (hol bl wa (24 * f + p) n) := by
  refine cn_loop (fun j => bl (24 * f + p + j) < 0 ∧ wa (24 * f + p + j) < 0) n (fun fuel v i => m_Mod_holesAmong_6 fuel f p n v i bl wa) (fun fuel v i hi h0 h1 => ?_) (fun fuel v h0 h1 => ?_) n 0 5000 (by omega) (by omega)
  · have hb := (Inv.at hI).2 (24 * f + p + i) (by omega) (by omega)
    rw [m_Mod_holesAmong_6, clt_t (by omega), p_Mod_isHole (by omega) (by omega) (by omega), bnd_s, ceq_yn]
    by_cases h : bl (24 * f + p + i) < 0 ∧ wa (24 * f + p + i) < 0
    · rw [if_pos h, if_pos h]
    · rw [if_neg h, if_neg h]
  · rw [m_Mod_holesAmong_6, clt_f (by omega)]
theorem pD_holes (hI : Inv bt ow bl wr wa ki) (hD : Dsk vow vbt vki vpl vva vwr bt ow bl wr wa ki) {f p : Int} {n : Nat} (hf : 0 ≤ f ∧ f < 4) (hp : 0 ≤ p ∧ p + n ≤ 24) : m_Disk_holesAmong f p n vpl vva = some (hol bl wa (24 * f + p) n) := by
  refine cn_loop (fun j => bl (24 * f + p + j) < 0 ∧ wa (24 * f + p + j) < 0) n (fun fuel v i => m_Disk_holesAmong_6 fuel f p n v i vpl vva) (fun fuel v i hi h0 h1 => ?_) (fun fuel v h0 h1 => ?_) n 0 5000 (by omega) (by omega)
  · have e : 24 * f + (p + (i : Int)) = 24 * f + p + i := by omega
    have hb := (Inv.at hI).2 (24 * f + p + i) (by omega) (by omega)
    have hq := Rel.pg hD hf (p := p + i) ⟨by omega, by omega⟩
    rw [e] at hq
    rw [m_Disk_holesAmong_6, clt_t (by omega), p_Disk_isHole hf ⟨by omega, by omega⟩ (by rw [e]; omega) (by rw [e]; omega), bnd_s, ceq_yn, e]
    by_cases h : bl (24 * f + p + i) < 0 ∧ wa (24 * f + p + i) < 0
    · rw [if_pos h, if_pos (by omega)]
    · rw [if_neg h, if_neg (by omega), Int.add_zero]
  · rw [m_Disk_holesAmong_6, clt_f (by omega)]
end HOLES
