/-! one place changes -/
theorem cn_one {P Q : Int → Prop} [DecidablePred P] [DecidablePred Q] (k : Int) (hk : 0 ≤ k) : ∀ n : Nat, (∀ j : Int, 0 ≤ j → j < n → j ≠ k → (P j ↔ Q j)) → cn Q n = cn P n + (if k < n then (if Q k then 1 else 0) - (if P k then 1 else 0) else 0)
  | 0, _ => by
    rw [if_neg (by omega)]
    rfl
  | n + 1, h => by
    unfold cn
    rw [cn_one k hk n (fun j h0 h1 h2 => h j h0 (by omega) h2)]
    by_cases hkn : k = n
    · subst hkn
      rw [if_neg (show ¬ ((n : Int) < (n : Int)) by omega), if_pos (show (n : Int) < ((n + 1 : Nat) : Int) by omega)]
      omega
    · have e := h n (by omega) (by omega) (fun q => hkn q.symm)
      have e2 : (if Q n then 1 else 0 : Int) = if P n then 1 else 0 := yn_i e.symm
      rw [e2]
      by_cases hlt : k < n
      · rw [if_pos hlt, if_pos (show k < ((n + 1 : Nat) : Int) by omega)]
        omega
      · rw [if_neg hlt, if_neg (show ¬ k < ((n + 1 : Nat) : Int) by omega)]
        omega
section UPD
variable {vow vbt vki vpl vva vwr bt ow bl wr wa ki : Int → Int}
/-- a page waits with a value -/
theorem Inv.say (hI : Inv bt ow bl wr wa ki) {a v : Int} (ha : 0 ≤ a ∧ a < 96) (hv : 0 ≤ v ∧ v ≤ 99) (hr : ¬ (bl a < 0 ∧ wa a < 0) ∨ 1 ≤ rom ow bl wa) : Inv bt ow bl wr (uf wa a v) ki := by
  obtain ⟨i1, i2, i3, i4, i5, i6, i7, i8⟩ := hI
  refine ⟨i1, i2, i3, fun b h0 h1 => ?_, i5, i6, ?_, i8⟩
  · by_cases hb : b = a
    · subst hb
      rw [uf_s]
      exact Or.inr hv
    · rw [uf_n hb]
      exact i4 b h0 h1
  · rw [cn_one (P := fun a => bl a < 0 ∧ 0 ≤ wa a) (Q := fun b => bl b < 0 ∧ 0 ≤ uf wa a v b) a ha.1 96 (fun j h0 h1 h2 => by rw [uf_n h2]), if_pos (by omega), uf_s]
    have h4 := i4 a ha.1 ha.2
    unfold rom at hr
    by_cases h : bl a < 0
    · rw [if_pos ⟨h, hv.1⟩]
      by_cases h2 : 0 ≤ wa a
      · rw [if_pos ⟨h, h2⟩]
        omega
      · rw [if_neg (by omega)]
        omega
    · rw [if_neg (fun q => h q.1), if_neg (fun q => h q.1)]
      omega
theorem Dsk.say (hD : Dsk vow vbt vki vpl vva vwr bt ow bl wr wa ki) {a v : Int} (hv : 0 ≤ v) : Dsk vow vbt vki vpl (uf vva a v) vwr bt ow bl wr (uf wa a v) ki := by
  obtain ⟨d1, d2, d3, d4, d5, d6⟩ := hD
  refine ⟨d1, d2, d3, d4, fun b h0 h1 => ?_, d6⟩
  by_cases hb : b = a
  · subst hb
    rw [uf_s, uf_s]
    exact Or.inr ⟨hv, rfl⟩
  · rw [uf_n hb, uf_n hb]
    exact d5 b h0 h1
theorem pM_canSay (hI : Inv bt ow bl wr wa ki) {a : Int} (ha : 0 ≤ a ∧ a < 96) : m_Mod_canSay a ow bl wa = some (if ¬ (bl a < 0 ∧ wa a < 0) ∨ 1 ≤ rom ow bl wa then 1 else 0) := by
  have hb := (Inv.at hI).2 a ha.1 ha.2
  have hr := rom_bd hI
  unfold m_Mod_canSay
  rw [p_Mod_isHole ha (by omega) (by omega), bnd_s, ceq_yn]
  by_cases h : bl a < 0 ∧ wa a < 0
  · rw [if_pos h, pM_room hI, bnd_s]
    by_cases h2 : 1 ≤ rom ow bl wa
    · rw [clt_f (by omega), if_pos (Or.inr h2)]
    · rw [clt_t (by omega), if_neg (fun q => q.elim (fun z => z h) h2)]
  · rw [if_neg h, if_pos (Or.inl h)]
theorem pD_sayAt (hI : Inv bt ow bl wr wa ki) (hD : Dsk vow vbt vki vpl vva vwr bt ow bl wr wa ki) {f p v : Int} (hf : 0 ≤ f ∧ f < 4) (hp : 0 ≤ p ∧ p < 24) : m_Disk_sayAt f p v vow vpl vva = some (if ¬ (bl (24 * f + p) < 0 ∧ wa (24 * f + p) < 0) ∨ 1 ≤ rom ow bl wa then (1, uf vva (24 * f + p) v) else (0, vva)) := by
  have hb := (Inv.at hI).2 (24 * f + p) (by omega) (by omega)
  have hq := Rel.pg hD hf hp
  have hr := rom_bd hI
  have e : f * 24 + p = 24 * f + p := by omega
  unfold m_Disk_sayAt
  simp only [jn_s]
  rw [p_Vol_isFile (by omega), bnd_s, if_pos hf, ceq_f (by omega), p_Vol_isPage (by omega), bnd_s, if_pos hp, ceq_f (by omega), p_Disk_isHole hf hp (by omega) (by omega), bnd_s, ceq_yn, e, gd_x (by omega)]
  by_cases h : bl (24 * f + p) < 0 ∧ wa (24 * f + p) < 0
  · rw [if_pos (by omega), pD_room hI hD, bnd_s]
    by_cases h2 : 1 ≤ rom ow bl wa
    · rw [clt_f (by omega), if_pos (Or.inr h2)]
    · rw [clt_t (by omega), if_neg (fun q => q.elim (fun z => z h) h2)]
  · rw [if_neg (by omega), if_pos (Or.inl h)]
end UPD
