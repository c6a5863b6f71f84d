/-! counts: of a file's pages, of all -/
theorem cn_file (P : Int → Prop) [DecidablePred P] (lp : Nat → Int → Int → Option Int)
    (hs : ∀ (fuel : Nat) (v i : Int), 0 ≤ i → i < 24 → 0 ≤ v → v ≤ 24 → lp (fuel + 1) v i = lp fuel (v + (if P i then 1 else 0)) (i + 1))
    (he : ∀ (fuel : Nat) (v : Int), 0 ≤ v → v ≤ 24 → lp (fuel + 1) v 24 = some v) : lp 5000 0 0 = some (cn P 24) :=
  cn_loop P 24 lp (fun fuel v i hi h0 h1 => hs fuel v i (by omega) (by omega) h0 (by omega)) (fun fuel v h0 h1 => he fuel v h0 h1) 24 0 5000 rfl (by omega)
theorem cn_all (P : Int → Prop) [DecidablePred P] (lp : Nat → Int → Int → Option Int)
    (hs : ∀ (fuel : Nat) (v i : Int), 0 ≤ i → i < 96 → 0 ≤ v → v ≤ 96 → lp (fuel + 1) v i = lp fuel (v + (if P i then 1 else 0)) (i + 1))
    (he : ∀ (fuel : Nat) (v : Int), 0 ≤ v → v ≤ 96 → lp (fuel + 1) v 96 = some v) : lp 5000 0 0 = some (cn P 96) :=
  cn_loop P 96 lp (fun fuel v i hi h0 h1 => hs fuel v i (by omega) (by omega) h0 (by omega)) (fun fuel v h0 h1 => he fuel v h0 h1) 96 0 5000 rfl (by omega)
section CNT
variable {vow vbt vki vpl vva vwr bt ow bl wr wa ki : Int → Int}
theorem pM_placedOf (hI : Inv bt ow bl wr wa ki) {f : Int} (hf : 0 ≤ f ∧ f < 4) : m_Mod_placedOf f bl = some (cn (fun p => 0 ≤ bl (24 * f + p)) 24) := by
  refine cn_file (fun p => 0 ≤ bl (24 * f + p)) (fun fuel v i => m_Mod_placedOf_4 fuel f v i bl) (fun fuel v i h0 h1 _ _ => ?_) (fun fuel v _ _ => ?_)
  · have hb := (Inv.at hI).2 (24 * f + i) (by omega) (by omega)
    rw [m_Mod_placedOf_4, clt_t (by omega), p_isPlaced (by omega) (by omega), bnd_s, ceq_yn]
    by_cases h : 0 ≤ bl (24 * f + i)
    · rw [if_pos h, if_pos h]
    · rw [if_neg h, if_neg h]
  · rw [m_Mod_placedOf_4, clt_f (by omega)]
theorem pD_placedIn (hI : Inv bt ow bl wr wa ki) (hD : Dsk vow vbt vki vpl vva vwr bt ow bl wr wa ki) {f : Int} (hf : 0 ≤ f ∧ f < 4) : m_Disk_placedIn f vpl = some (cn (fun p => 0 ≤ bl (24 * f + p)) 24) := by
  refine cn_file (fun p => 0 ≤ bl (24 * f + p)) (fun fuel v i => m_Disk_placedIn_4 fuel f v i vpl) (fun fuel v i h0 h1 _ _ => ?_) (fun fuel v _ _ => ?_)
  · have hb := (Inv.at hI).2 (24 * f + i) (by omega) (by omega)
    have hq := Rel.pg hD hf ⟨h0, h1⟩
    rw [m_Disk_placedIn_4, clt_t (by omega), p_blockAt hf ⟨h0, h1⟩, bnd_s]
    by_cases h : 0 ≤ bl (24 * f + i)
    · rw [if_pos h, clt_f (by omega)]
    · rw [if_neg h, clt_t (by omega), Int.add_zero]
  · rw [m_Disk_placedIn_4, clt_f (by omega)]
theorem pM_waitingOf (hI : Inv bt ow bl wr wa ki) {f : Int} (hf : 0 ≤ f ∧ f < 4) : m_Mod_waitingOf f 0 bl wa = some (cn (fun p => 0 ≤ wa (24 * f + p)) 24) := by
  refine cn_file (fun p => 0 ≤ wa (24 * f + p)) (fun fuel v i => m_Mod_waitingOf_8 fuel f 0 v (24 * f + i) bl wa) (fun fuel v i h0 h1 _ _ => ?_) (fun fuel v _ _ => ?_) |> fun h => by
      rw [show (24 * f + 0 : Int) = 24 * f by omega] at h
      exact h
  · have hb := (Inv.at hI).2 (24 * f + i) (by omega) (by omega)
    rw [m_Mod_waitingOf_8, clt_t (by omega), p_isWaiting (by omega) (by omega), bnd_s, ceq_yn, Int.add_assoc (24 * f) i 1]
    by_cases h : 0 ≤ wa (24 * f + i)
    · rw [if_pos h, if_pos h, ceq_t (by omega)]
    · rw [if_neg h, if_neg h]
  · rw [m_Mod_waitingOf_8, clt_f (by omega)]
theorem pD_waitingIn (hI : Inv bt ow bl wr wa ki) (hD : Dsk vow vbt vki vpl vva vwr bt ow bl wr wa ki) {f : Int} (hf : 0 ≤ f ∧ f < 4) : m_Disk_waitingIn f vva = some (cn (fun p => 0 ≤ wa (24 * f + p)) 24) := by
  refine cn_file (fun p => 0 ≤ wa (24 * f + p)) (fun fuel v i => m_Disk_waitingIn_4 fuel f v i vva) (fun fuel v i h0 h1 _ _ => ?_) (fun fuel v _ _ => ?_)
  · have hb := (Inv.at hI).2 (24 * f + i) (by omega) (by omega)
    have hq := Rel.pg hD hf ⟨h0, h1⟩
    rw [m_Disk_waitingIn_4, clt_t (by omega), p_valueAt hf ⟨h0, h1⟩, bnd_s]
    by_cases h : 0 ≤ wa (24 * f + i)
    · rw [if_pos h, clt_f (by omega)]
    · rw [if_neg h, clt_t (by omega), Int.add_zero]
  · rw [m_Disk_waitingIn_4, clt_f (by omega)]
theorem pM_toPlaceOf (hI : Inv bt ow bl wr wa ki) {f : Int} (hf : 0 ≤ f ∧ f < 4) : m_Mod_waitingOf f 1 bl wa = some (cn (fun p => bl (24 * f + p) < 0 ∧ 0 ≤ wa (24 * f + p)) 24) := by
  refine cn_file (fun p => bl (24 * f + p) < 0 ∧ 0 ≤ wa (24 * f + p)) (fun fuel v i => m_Mod_waitingOf_8 fuel f 1 v (24 * f + i) bl wa) (fun fuel v i h0 h1 _ _ => ?_) (fun fuel v _ _ => ?_) |> fun h => by
      rw [show (24 * f + 0 : Int) = 24 * f by omega] at h
      exact h
  · have hb := (Inv.at hI).2 (24 * f + i) (by omega) (by omega)
    rw [m_Mod_waitingOf_8, clt_t (by omega), p_isWaiting (by omega) (by omega), bnd_s, ceq_yn, Int.add_assoc (24 * f) i 1]
    by_cases h : 0 ≤ wa (24 * f + i)
    · rw [if_pos h, ceq_f (by omega), p_isPlaced (by omega) (by omega), bnd_s, ceq_yn]
      by_cases h2 : 0 ≤ bl (24 * f + i)
      · rw [if_pos h2, if_neg (by omega)]
      · rw [if_neg h2, if_pos (by omega)]
    · rw [if_neg h, if_neg (by omega)]
  · rw [m_Mod_waitingOf_8, clt_f (by omega)]
theorem pD_promisedIn (hI : Inv bt ow bl wr wa ki) (hD : Dsk vow vbt vki vpl vva vwr bt ow bl wr wa ki) {f : Int} (hf : 0 ≤ f ∧ f < 4) : m_Disk_promisedIn f vpl vva = some (cn (fun p => bl (24 * f + p) < 0 ∧ 0 ≤ wa (24 * f + p)) 24) := by
  refine cn_file (fun p => bl (24 * f + p) < 0 ∧ 0 ≤ wa (24 * f + p)) (fun fuel v i => m_Disk_promisedIn_4 fuel f v i vpl vva) (fun fuel v i h0 h1 _ _ => ?_) (fun fuel v _ _ => ?_)
  · have hb := (Inv.at hI).2 (24 * f + i) (by omega) (by omega)
    have hq := Rel.pg hD hf ⟨h0, h1⟩
    rw [m_Disk_promisedIn_4, clt_t (by omega), p_Disk_isPromised hf ⟨h0, h1⟩ (by omega) (by omega), bnd_s, ceq_yn]
    by_cases h : bl (24 * f + i) < 0 ∧ 0 ≤ wa (24 * f + i)
    · rw [if_pos h, if_pos (by omega)]
    · rw [if_neg h, if_neg (by omega), Int.add_zero]
  · rw [m_Disk_promisedIn_4, clt_f (by omega)]
theorem pM_writtenOf (hI : Inv bt ow bl wr wa ki) {f : Int} (hf : 0 ≤ f ∧ f < 4) : m_Mod_writtenOf f wr = some (cn (fun p => wr (24 * f + p) = 1) 24) := by
  refine cn_file (fun p => wr (24 * f + p) = 1) (fun fuel v i => m_Mod_writtenOf_4 fuel f v i wr) (fun fuel v i h0 h1 _ _ => ?_) (fun fuel v _ _ => ?_)
  · have hb := (Inv.at hI).2 (24 * f + i) (by omega) (by omega)
    rw [m_Mod_writtenOf_4, clt_t (by omega), gd_x (by omega)]
    rcases hb.2.2 with h | h
    · rw [if_neg (by omega), h]
    · rw [if_pos h, h]
  · rw [m_Mod_writtenOf_4, clt_f (by omega)]
theorem pD_writtenIn (hI : Inv bt ow bl wr wa ki) (hD : Dsk vow vbt vki vpl vva vwr bt ow bl wr wa ki) {f : Int} (hf : 0 ≤ f ∧ f < 4) : m_Disk_writtenIn f vwr = some (cn (fun p => wr (24 * f + p) = 1) 24) := by
  refine cn_file (fun p => wr (24 * f + p) = 1) (fun fuel v i => m_Disk_writtenIn_4 fuel f v i vwr) (fun fuel v i h0 h1 _ _ => ?_) (fun fuel v _ _ => ?_)
  · have hb := (Inv.at hI).2 (24 * f + i) (by omega) (by omega)
    have hq := Rel.pg hD hf ⟨h0, h1⟩
    rw [m_Disk_writtenIn_4, clt_t (by omega), p_isWritten hf ⟨h0, h1⟩ (by omega), bnd_s, hq.2.2]
    rcases hb.2.2 with h | h
    · rw [if_neg (by omega), ceq_t (by omega), Int.add_zero]
    · rw [if_pos h, ceq_f (by omega)]
  · rw [m_Disk_writtenIn_4, clt_f (by omega)]
theorem pM_reserved (hI : Inv bt ow bl wr wa ki) : m_Mod_reserved bl wa = some (cn (fun a => bl a < 0 ∧ 0 ≤ wa a) 96) := by
  refine cn_all (fun a => bl a < 0 ∧ 0 ≤ wa a) (fun fuel v i => m_Mod_reserved_4 fuel v i bl wa) (fun fuel v i h0 h1 _ _ => ?_) (fun fuel v _ _ => ?_)
  · have hb := (Inv.at hI).2 i h0 h1
    rw [m_Mod_reserved_4, clt_t (by omega), p_isToPlace (by omega) (by omega) (by omega), bnd_s, ceq_yn]
    by_cases h : bl i < 0 ∧ 0 ≤ wa i
    · rw [if_pos h, if_pos h]
    · rw [if_neg h, if_neg h]
  · rw [m_Mod_reserved_4, clt_f (by omega)]
theorem pD_promisedInAll (hI : Inv bt ow bl wr wa ki) (hD : Dsk vow vbt vki vpl vva vwr bt ow bl wr wa ki) : m_Disk_promisedInAll vpl vva = some (cn (fun a => bl a < 0 ∧ 0 ≤ wa a) 96) := by
  refine cn_all (fun a => bl a < 0 ∧ 0 ≤ wa a) (fun fuel v i => m_Disk_promisedInAll_4 fuel v i vpl vva) (fun fuel v i h0 h1 _ _ => ?_) (fun fuel v _ _ => ?_)
  · have hb := (Inv.at hI).2 i h0 h1
    have hq := hD.2.2.2.1 i h0 h1
    have hq2 := hD.2.2.2.2.1 i h0 h1
    rw [m_Disk_promisedInAll_4, clt_t (by omega), clt_t (by omega), gd_x (by omega)]
    by_cases h : bl i < 0
    · rw [clt_t (by omega), gd_x (by omega)]
      by_cases h2 : 0 ≤ wa i
      · rw [clt_f (by omega), if_pos ⟨h, h2⟩]
      · rw [clt_t (by omega), if_neg (by omega), Int.add_zero]
    · rw [clt_f (by omega), if_neg (by omega), Int.add_zero]
  · rw [m_Disk_promisedInAll_4, clt_f (by omega)]
theorem pM_free (hI : Inv bt ow bl wr wa ki) : m_Mod_freeBlocks ow = some (cn (fun b => ow b < 0) 64) := p_Mod_freeBlocks (Inv.at hI).1
theorem pD_free (hI : Inv bt ow bl wr wa ki) (hD : Dsk vow vbt vki vpl vva vwr bt ow bl wr wa ki) : m_Disk_freeBlocks vow = some (cn (fun b => ow b < 0) 64) := by
  rw [p_Disk_freeBlocks (fun j h0 h1 => by
    have := (Inv.at hI).1 j h0 h1
    have := hD.1 j h0 h1
    omega)]
  refine congrArg some (cn_congr 64 (fun j h0 h1 => ?_))
  have := hD.1 j h0 h1
  omega
/-- ROOM -/
def rom (ow bl wa : Int → Int) : Int := cn (fun b => ow b < 0) 64 - cn (fun a => bl a < 0 ∧ 0 ≤ wa a) 96
theorem pM_room (hI : Inv bt ow bl wr wa ki) : m_Mod_roomNow ow bl wa = some (rom ow bl wa) := by
  unfold m_Mod_roomNow
  rw [pM_free hI, bnd_s, pM_reserved hI, bnd_s]
  rfl
theorem rom_bd (hI : Inv bt ow bl wr wa ki) : 0 ≤ rom ow bl wa ∧ rom ow bl wa ≤ 64 := by
  obtain ⟨-, -, -, -, -, -, i7, i8⟩ := hI
  have h1 := cn_bd (fun b => ow b < 0) 64
  have h2 := cn_bd (fun a => bl a < 0 ∧ 0 ≤ wa a) 96
  unfold rom
  omega
theorem pD_room (hI : Inv bt ow bl wr wa ki) (hD : Dsk vow vbt vki vpl vva vwr bt ow bl wr wa ki) : m_Disk_roomLeft vow vpl vva = some (rom ow bl wa) := by
  have h := rom_bd hI
  have h1 := cn_bd (fun b => ow b < 0) 64
  have h2 := cn_bd (fun a => bl a < 0 ∧ 0 ≤ wa a) 96
  unfold m_Disk_roomLeft
  rw [pD_free hI hD, bnd_s, pD_promisedInAll hI hD, bnd_s, gd_rr (by omega)]
  unfold rom at h ⊢
  rw [Int.max_eq_right h.1]
end CNT
