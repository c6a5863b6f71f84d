/-! extents -/
def bx (bl wr : Int → Int) (f p : Int) : Prop := 0 ≤ bl (24 * f + p) ∧ (p = 0 ∨ bl (24 * f + p - 1) < 0 ∨ ¬ bl (24 * f + p - 1) + 1 = bl (24 * f + p) ∨ ¬ wr (24 * f + p - 1) = wr (24 * f + p))
noncomputable def ext (bl wr : Int → Int) (f : Int) : Int := @cn (bx bl wr f) (fun _ => Classical.propDecidable _) 24
section EXT
variable {vow vbt vki vpl vva vwr bt ow bl wr wa ki : Int → Int}
theorem pM_begins (hI : Inv bt ow bl wr wa ki) {f p : Int} (hf : 0 ≤ f ∧ f < 4) (hp : 0 ≤ p ∧ p < 24) : (bx bl wr f p ∧ m_Mod_beginsExtent (24 * f + p) bl wr = some 1) ∨ (¬ bx bl wr f p ∧ m_Mod_beginsExtent (24 * f + p) bl wr = some 0) := by
  have hb := (Inv.at hI).2 (24 * f + p) (by omega) (by omega)
  unfold m_Mod_beginsExtent bx
  rw [p_isPlaced (by omega) (by omega), bnd_s, ceq_yn]
  by_cases h : 0 ≤ bl (24 * f + p)
  · rw [if_pos h, gd_xz (by omega)]
    by_cases h0 : p = 0
    · exact Or.inl ⟨⟨h, Or.inl h0⟩, ceq_t (by omega)⟩
    · have hc := (Inv.at hI).2 (24 * f + p - 1) (by omega) (by omega)
      rw [ceq_f (by omega), p_isPlaced (by omega) (by omega), bnd_s, ceq_yn]
      by_cases h1 : 0 ≤ bl (24 * f + p - 1)
      · rw [if_pos h1, gd_x (by omega), gd_x (by omega)]
        by_cases h2 : bl (24 * f + p - 1) + 1 = bl (24 * f + p)
        · rw [ceq_t (by omega), gd_x (by omega), gd_x (by omega)]
          by_cases h3 : wr (24 * f + p - 1) = wr (24 * f + p)
          · refine Or.inr ⟨?_, ceq_t (by omega)⟩
            rintro ⟨-, q | q | q | q⟩
            · exact h0 q
            · omega
            · exact q h2
            · exact q h3
          · exact Or.inl ⟨⟨h, Or.inr (Or.inr (Or.inr h3))⟩, ceq_f (by omega)⟩
        · exact Or.inl ⟨⟨h, Or.inr (Or.inr (Or.inl h2))⟩, ceq_f (by omega)⟩
      · rw [if_neg h1]
        exact Or.inl ⟨⟨h, Or.inr (Or.inl (by omega))⟩, rfl⟩
  · rw [if_neg h]
    exact Or.inr ⟨fun q => h q.1, rfl⟩
theorem pD_goesOn (hI : Inv bt ow bl wr wa ki) (hD : Dsk vow vbt vki vpl vva vwr bt ow bl wr wa ki) {f p : Int} (hf : 0 ≤ f ∧ f < 4) (hp : 0 ≤ p ∧ p < 24) (h : 0 ≤ bl (24 * f + p)) : (bx bl wr f p ∧ m_Disk_goesOn f p vpl vwr = some 0) ∨ (¬ bx bl wr f p ∧ m_Disk_goesOn f p vpl vwr = some 1) := by
  have hb := (Inv.at hI).2 (24 * f + p) (by omega) (by omega)
  have hq := Rel.pg hD hf hp
  unfold m_Disk_goesOn bx
  by_cases h0 : p = 0
  · rw [p_blockAt_out hf (by omega) (by omega), bnd_s]
    exact Or.inl ⟨⟨h, Or.inl h0⟩, clt_t (by omega)⟩
  · have hc := (Inv.at hI).2 (24 * f + p - 1) (by omega) (by omega)
    have hq1 := Rel.pg hD hf (p := p - 1) ⟨by omega, by omega⟩
    have e1 : 24 * f + (p - 1) = 24 * f + p - 1 := by omega
    rw [e1] at hq1
    rw [p_blockAt hf ⟨by omega, by omega⟩, bnd_s, e1]
    by_cases h1 : 0 ≤ bl (24 * f + p - 1)
    · rw [clt_f (by omega), p_blockAt hf hp, bnd_s]
      by_cases h2 : bl (24 * f + p - 1) + 1 = bl (24 * f + p)
      · rw [ceq_t (by omega), p_isWritten hf hp (by omega), bnd_s, p_isWritten hf ⟨by omega, by omega⟩ (by rw [e1]; omega), bnd_s, e1]
        by_cases h3 : wr (24 * f + p - 1) = wr (24 * f + p)
        · refine Or.inr ⟨?_, ceq_t (by omega)⟩
          rintro ⟨-, q | q | q | q⟩
          · exact h0 q
          · omega
          · exact q h2
          · exact q h3
        · exact Or.inl ⟨⟨h, Or.inr (Or.inr (Or.inr h3))⟩, ceq_f (by omega)⟩
      · exact Or.inl ⟨⟨h, Or.inr (Or.inr (Or.inl h2))⟩, ceq_f (by omega)⟩
    · exact Or.inl ⟨⟨h, Or.inr (Or.inl (by omega))⟩, clt_t (by omega)⟩
theorem pM_extents (hI : Inv bt ow bl wr wa ki) {f : Int} (hf : 0 ≤ f ∧ f < 4) : m_Mod_extents f bl wr = some (ext bl wr f) := by
  refine @cn_file (bx bl wr f) (fun _ => Classical.propDecidable _) (fun fuel v i => m_Mod_extents_4 fuel f v i bl wr) (fun fuel v i h0 h1 _ _ => ?_) (fun fuel v _ _ => ?_)
  · rw [m_Mod_extents_4, clt_t (by omega)]
    rcases pM_begins hI hf ⟨h0, h1⟩ with ⟨h, e⟩ | ⟨h, e⟩
    · rw [e, bnd_s, ceq_f (by omega), if_pos h]
    · rw [e, bnd_s, ceq_t (by omega), if_neg h]
  · rw [m_Mod_extents_4, clt_f (by omega)]
theorem pD_extentsIn (hI : Inv bt ow bl wr wa ki) (hD : Dsk vow vbt vki vpl vva vwr bt ow bl wr wa ki) {f : Int} (hf : 0 ≤ f ∧ f < 4) : m_Disk_extentsIn f vpl vwr = some (ext bl wr f) := by
  refine @cn_file (bx bl wr f) (fun _ => Classical.propDecidable _) (fun fuel v i => m_Disk_extentsIn_4 fuel f v i vpl vwr) (fun fuel v i h0 h1 _ _ => ?_) (fun fuel v _ _ => ?_)
  · have hb := (Inv.at hI).2 (24 * f + i) (by omega) (by omega)
    have hq := Rel.pg hD hf ⟨h0, h1⟩
    rw [m_Disk_extentsIn_4, clt_t (by omega), p_blockAt hf ⟨h0, h1⟩, bnd_s]
    by_cases hp : 0 ≤ bl (24 * f + i)
    · rw [clt_f (by omega)]
      rcases pD_goesOn hI hD hf ⟨h0, h1⟩ hp with ⟨h, e⟩ | ⟨h, e⟩
      · rw [e, bnd_s, ceq_t (by omega), if_pos h]
      · rw [e, bnd_s, ceq_f (by omega), if_neg h, Int.add_zero]
    · rw [clt_t (by omega), if_neg (fun q : bx bl wr f i => hp q.1), Int.add_zero]
  · rw [m_Disk_extentsIn_4, clt_f (by omega)]
theorem ext_bd {f : Int} : 0 ≤ ext bl wr f ∧ ext bl wr f ≤ 24 := @cn_bd (bx bl wr f) (fun _ => Classical.propDecidable _) 24
noncomputable def exts (bl wr : Int → Int) : Int := ext bl wr 0 + ext bl wr 1 + ext bl wr 2 + ext bl wr 3
theorem pM_allExtents (hI : Inv bt ow bl wr wa ki) : m_Mod_allExtents bl wr = some (exts bl wr) := by
  unfold m_Mod_allExtents
  rw [m_Mod_allExtents_4, clt_t (by omega), pM_extents hI (by omega), bnd_s, m_Mod_allExtents_4, clt_t (by omega), pM_extents hI (by omega), bnd_s, m_Mod_allExtents_4, clt_t (by omega), pM_extents hI (by omega), bnd_s, m_Mod_allExtents_4, clt_t (by omega), pM_extents hI (by omega), bnd_s, m_Mod_allExtents_4, clt_f (by omega)]
  unfold exts
  rw [Int.zero_add]
  rfl
theorem pD_extentsInAll (hI : Inv bt ow bl wr wa ki) (hD : Dsk vow vbt vki vpl vva vwr bt ow bl wr wa ki) : m_Disk_extentsInAll vpl vwr = some (exts bl wr) := by
  unfold m_Disk_extentsInAll
  rw [m_Disk_extentsInAll_4, clt_t (by omega), pD_extentsIn hI hD (by omega), bnd_s, m_Disk_extentsInAll_4, clt_t (by omega), pD_extentsIn hI hD (by omega), bnd_s, m_Disk_extentsInAll_4, clt_t (by omega), pD_extentsIn hI hD (by omega), bnd_s, m_Disk_extentsInAll_4, clt_t (by omega), pD_extentsIn hI hD (by omega), bnd_s, m_Disk_extentsInAll_4, clt_f (by omega)]
  unfold exts
  rw [Int.zero_add]
  rfl
end EXT
