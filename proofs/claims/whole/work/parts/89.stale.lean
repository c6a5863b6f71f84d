/-! e_stale -/
theorem cn_loopG {α : Type} (P : Int → Prop) [DecidablePred P] (N : Nat) (lp : Nat → Int → Int → Option α) (R : Int → α)
    (hs : ∀ (fuel : Nat) (v i : Int), 0 ≤ i → i < N → 0 ≤ v → v ≤ i → lp (fuel + 1) v i = lp fuel (v + (if P i then 1 else 0)) (i + 1))
    (he : ∀ (fuel : Nat) (v : Int), 0 ≤ v → v ≤ N → lp (fuel + 1) v N = some (R v)) : ∀ (d i fuel : Nat), i + d = N → d < fuel → lp fuel (cn P i) i = some (R (cn P N)) := by
  intro d
  induction d with
  | zero =>
    intro i fuel h hf
    cases fuel with
    | zero => omega
    | succ fuel =>
      have hi : i = N := by omega
      subst hi
      exact he fuel _ (cn_bd P i).1 (cn_bd P i).2
  | succ d ih =>
    intro i fuel h hf
    cases fuel with
    | zero => omega
    | succ fuel =>
      rw [hs fuel _ i (by omega) (by omega) (cn_bd P i).1 (cn_bd P i).2]
      exact ih (i + 1) fuel (by omega) (by omega)
theorem pM_stale {k : Int} {bt ow bl wr wa ki mr : Int → Int} (hI : Inv bt ow bl wr wa ki) (hk : k = 0 ∨ k = 1) : m_Mod_stale_20 5000 k 0 0 mr bt ow wr = some (cn (fun b => bt b ≠ 0 ∧ ((k = 0 ∧ ow b < 0) ∨ (k ≠ 0 ∧ 0 ≤ ow b ∧ wr (ow b) = 0))) 64, mr) := by
  refine cn_loopG (fun b => bt b ≠ 0 ∧ ((k = 0 ∧ ow b < 0) ∨ (k ≠ 0 ∧ 0 ≤ ow b ∧ wr (ow b) = 0))) 64 (fun fuel v i => m_Mod_stale_20 fuel k v i mr bt ow wr) (fun v => (v, mr)) (fun fuel v i h0 h1 h2 h3 => ?_) (fun fuel v h0 h1 => ?_) 64 0 5000 rfl (by omega)
  · have ho := (Inv.at hI).1 i h0 (by omega)
    have hb := hI.2.2.2.2.1 i h0 (by omega)
    have fin : ∀ (c : Prop) [Decidable c], (bt i ≠ 0 ∧ c ↔ bt i ≠ 0 ∧ ((k = 0 ∧ ow i < 0) ∨ (k ≠ 0 ∧ 0 ≤ ow i ∧ wr (ow i) = 0))) → ceq (if c then (1 : Int) else 0) 0 (m_Mod_stale_20 fuel k (v + 0) (i + 1) mr bt ow wr) (gd (zx i 64) (ceq (bt i) 0 (m_Mod_stale_20 fuel k (v + 0) (i + 1) mr bt ow wr) (m_Mod_stale_20 fuel k (v + 1) (i + 1) mr bt ow wr))) = m_Mod_stale_20 fuel k (v + (if bt i ≠ 0 ∧ ((k = 0 ∧ ow i < 0) ∨ (k ≠ 0 ∧ 0 ≤ ow i ∧ wr (ow i) = 0)) then 1 else 0)) (i + 1) mr bt ow wr := by
      intro c _ hc
      rw [ceq_yn]
      by_cases hq : bt i ≠ 0 ∧ ((k = 0 ∧ ow i < 0) ∨ (k ≠ 0 ∧ 0 ≤ ow i ∧ wr (ow i) = 0))
      · have hc' := hc.mpr hq
        rw [if_pos hq, if_pos hc'.2, gd_x (by omega), ceq_f (by omega)]
      · rw [if_neg hq]
        by_cases h5 : c
        · have : bt i = 0 := Classical.byContradiction (fun h => hq (hc.mp ⟨h, h5⟩))
          rw [if_pos h5, gd_x (by omega), ceq_t (by omega)]
        · rw [if_neg h5]
    show m_Mod_stale_20 (fuel + 1) k v i mr bt ow wr = _
    rw [m_Mod_stale_20, clt_t (by omega)]
    simp only [jn_s]
    by_cases h5 : k = 0
    · rw [ceq_t (by omega), gd_x (by omega)]
      by_cases h6 : ow i < 0
      · rw [clt_t (by omega)]
        exact fin True (by simp [h5, h6])
      · rw [clt_f (by omega)]
        exact fin False (by simp [h5, h6])
    · rw [ceq_f (by omega), gd_x (by omega)]
      by_cases h6 : ow i < 0
      · rw [clt_t (by omega)]
        refine fin False ?_
        constructor
        · intro h
          exact absurd h.2 id
        · intro h
          omega
      · have hw := ((Inv.at hI).2 (ow i) (by omega) (by omega)).2.2
        rw [clt_f (by omega), gd_x (by omega), gd_x (by omega)]
        by_cases h7 : wr (ow i) = 0
        · rw [ceq_t (by omega)]
          refine fin True ?_
          constructor
          · intro h
            exact ⟨h.1, Or.inr ⟨h5, by omega, h7⟩⟩
          · intro h
            exact ⟨h.1, trivial⟩
        · rw [ceq_f (by omega)]
          refine fin False ?_
          constructor
          · intro h
            exact absurd h.2 id
          · intro h
            omega
  · show m_Mod_stale_20 (fuel + 1) k v 64 mr bt ow wr = _
    rw [m_Mod_stale_20, clt_f (by omega)]
theorem pD_stale {k z : Int} {vow vbt vki vpl vva vwr bt ow bl wr wa ki : Int → Int} (hI : Inv bt ow bl wr wa ki) (hD : Dsk vow vbt vki vpl vva vwr bt ow bl wr wa ki) (hk : (k = 0 ∧ z = 1) ∨ (k = 1 ∧ z = 0)) : m_Disk_staleBlocks z vow vbt vwr = some (cn (fun b => bt b ≠ 0 ∧ ((k = 0 ∧ ow b < 0) ∨ (k ≠ 0 ∧ 0 ≤ ow b ∧ wr (ow b) = 0))) 64) := by
  refine cn_loopG (fun b => bt b ≠ 0 ∧ ((k = 0 ∧ ow b < 0) ∨ (k ≠ 0 ∧ 0 ≤ ow b ∧ wr (ow b) = 0))) 64 (fun fuel v i => m_Disk_staleBlocks_4 fuel z v i vow vbt vwr) (fun v => v) (fun fuel v i h0 h1 h2 h3 => ?_) (fun fuel v h0 h1 => ?_) 64 0 5000 rfl (by omega)
  · have ho := (Inv.at hI).1 i h0 (by omega)
    have hb := hI.2.2.2.2.1 i h0 (by omega)
    obtain ⟨d1, d2, d3, d4, d5, d6⟩ := hD
    have e1 := d1 i h0 (by omega)
    have e2 := d2 i h0 (by omega)
    have fin : ∀ (c : Prop) [Decidable c], (bt i ≠ 0 ∧ c ↔ bt i ≠ 0 ∧ ((k = 0 ∧ ow i < 0) ∨ (k ≠ 0 ∧ 0 ≤ ow i ∧ wr (ow i) = 0))) → ceq (if c then (1 : Int) else 0) 0 (m_Disk_staleBlocks_4 fuel z v (i + 1) vow vbt vwr) (bnd (m_Disk_byteAt i vbt) (fun r8 => ceq r8 0 (m_Disk_staleBlocks_4 fuel z v (i + 1) vow vbt vwr) (m_Disk_staleBlocks_4 fuel z (v + 1) (i + 1) vow vbt vwr))) = m_Disk_staleBlocks_4 fuel z (v + (if bt i ≠ 0 ∧ ((k = 0 ∧ ow i < 0) ∨ (k ≠ 0 ∧ 0 ≤ ow i ∧ wr (ow i) = 0)) then 1 else 0)) (i + 1) vow vbt vwr := by
      intro c _ hc
      rw [ceq_yn]
      by_cases hq : bt i ≠ 0 ∧ ((k = 0 ∧ ow i < 0) ∨ (k ≠ 0 ∧ 0 ≤ ow i ∧ wr (ow i) = 0))
      · have hc' := hc.mpr hq
        rw [if_pos hq, if_pos hc'.2, p_byteAt (by omega), bnd_s, ceq_f (by omega)]
      · rw [if_neg hq, Int.add_zero]
        by_cases h5 : c
        · have : bt i = 0 := Classical.byContradiction (fun h => hq (hc.mp ⟨h, h5⟩))
          rw [if_pos h5, p_byteAt (by omega), bnd_s, ceq_t (by omega)]
        · rw [if_neg h5]
    show m_Disk_staleBlocks_4 (fuel + 1) z v i vow vbt vwr = _
    rw [m_Disk_staleBlocks_4, clt_t (by omega), p_ownerAt (by omega), bnd_s]
    simp only [jn_s]
    by_cases h5 : k = 0
    · rw [ceq_f (by omega)]
      by_cases h6 : ow i < 0
      · rw [clt_t (by omega)]
        exact fin True (by simp [h5, h6])
      · rw [clt_f (by omega)]
        exact fin False (by simp [h5, h6])
    · rw [ceq_t (by omega)]
      by_cases h6 : ow i < 0
      · rw [clt_t (by omega)]
        refine fin False ?_
        constructor
        · intro h
          exact absurd h.2 id
        · intro h
          omega
      · have hw := ((Inv.at hI).2 (ow i) (by omega) (by omega)).2.2
        have ew : vow i = ow i := by omega
        have e6 := d6 (ow i) (by omega) (by omega)
        have hdm : 24 * (ow i / 24) + ow i % 24 = ow i := by omega
        rw [clt_f (by omega), ew, gd_xz (by omega), gd_xz (by omega), p_isWritten (f := ow i / 24) (p := ow i % 24) (by omega) (by omega) (by rw [hdm, e6]; exact hw), bnd_s, hdm, e6]
        by_cases h7 : wr (ow i) = 0
        · rw [ceq_t (by omega)]
          refine fin True ?_
          constructor
          · intro h
            exact ⟨h.1, Or.inr ⟨h5, by omega, h7⟩⟩
          · intro h
            exact ⟨h.1, trivial⟩
        · rw [ceq_f (by omega)]
          refine fin False ?_
          constructor
          · intro h
            exact absurd h.2 id
          · intro h
            omega
  · show m_Disk_staleBlocks_4 (fuel + 1) z v 64 vow vbt vwr = _
    rw [m_Disk_staleBlocks_4, clt_f (by omega)]
theorem e_stale : E_stale := by
  intro ik now nbt nki npl nva nwr kow kbt kki kpl kva kwr smn snu rmn rnu rf mr mb mo ml mw mt mk mp mq mz mh my mn x1 hR hx
  unfold m_Vol_stale m_Mod_stale
  simp only [jn_s]
  rw [p_Vol_isEither (by omega), p_Mod_isIn (by omega) (by omega) (by omega), bnd_s, bnd_s, ceq_yn, ceq_yn]
  by_cases h1 : x1 = 0 ∨ x1 = 1
  · rw [if_pos h1, if_pos (by omega), pM_stale hR.1 h1]
    refine ⟨(_, rf), (_, mr), ?_, rfl, rfl, hR⟩
    by_cases h2 : x1 = 0
    · rw [ceq_t (by omega), pD_stale (k := x1) hR.1 hR.2.1 (by omega), bnd_s]
    · rw [ceq_f (by omega), pD_stale (k := x1) hR.1 hR.2.1 (by omega), bnd_s]
  · rw [if_neg h1, if_neg (by omega), p_refuse (by omega), p_no (by omega), bnd_s, bnd_s]
    exact ⟨(-2, uf rf (- -2) (rf (- -2) + 1)), (-2, uf mr (- -2) (mr (- -2) + 1)), rfl, rfl, rfl, hR.no (-2) (by omega)⟩
