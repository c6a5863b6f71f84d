/-! what is kept, and brought back -/
theorem pass_k (N : Nat) (lp : Nat → Int → Int → (Int → Int) → (Int → Int) → Option (Int × (Int → Int) × (Int → Int))) (f : Int → Int)
    (hs : ∀ (fuel : Nat) (i c : Int) (kp : Int → Int), 0 ≤ i → i < N → 0 ≤ c → c < 1260 → lp (fuel + 1) i c f kp = lp fuel (i + 1) (c + 1) f (uf kp c (f i)))
    (he : ∀ (fuel : Nat) (c : Int) (kp : Int → Int), lp (fuel + 1) N c f kp = some (c, f, kp)) (c0 : Int) (h0 : 0 ≤ c0) (h1 : c0 + N ≤ 1260) : ∀ (d : Nat) (i : Int) (fuel : Nat) (kp : Int → Int), 0 ≤ i → i + d = N → d < fuel → ∃ kp', lp fuel i (c0 + i) f kp = some (c0 + N, f, kp') ∧ (∀ j : Int, i ≤ j → j < N → kp' (c0 + j) = f j) ∧ (∀ j : Int, j < c0 + i ∨ c0 + N ≤ j → kp' j = kp j) := by
  intro d
  induction d with
  | zero =>
    intro i fuel kp h2 h3 h4
    cases fuel with
    | zero => omega
    | succ fuel =>
      have hi : i = N := by omega
      subst hi
      exact ⟨kp, he fuel _ kp, fun j h5 h6 => by omega, fun j _ => rfl⟩
  | succ d ih =>
    intro i fuel kp h2 h3 h4
    cases fuel with
    | zero => omega
    | succ fuel =>
      rw [hs fuel i _ kp h2 (by omega) (by omega) (by omega)]
      obtain ⟨kp', e1, e2, e3⟩ := ih (i + 1) fuel (uf kp (c0 + i) (f i)) (by omega) (by omega) (by omega)
      refine ⟨kp', by rw [show c0 + i + 1 = c0 + (i + 1) by omega]; exact e1, fun j h5 h6 => ?_, fun j h5 => ?_⟩
      · by_cases hj : j = i
        · subst hj
          rw [e3 _ (by omega), uf_s]
        · exact e2 j (by omega) h6
      · rw [e3 j (by omega), uf_n (by omega)]
theorem pass_b (N : Nat) (lp : Nat → Int → Int → (Int → Int) → (Int → Int) → Option (Int × (Int → Int) × (Int → Int))) (kp : Int → Int)
    (hs : ∀ (fuel : Nat) (i c : Int) (f : Int → Int), 0 ≤ i → i < N → 0 ≤ c → c < 1260 → lp (fuel + 1) i c f kp = lp fuel (i + 1) (c + 1) (uf f i (kp c)) kp)
    (he : ∀ (fuel : Nat) (c : Int) (f : Int → Int), lp (fuel + 1) N c f kp = some (c, f, kp)) (c0 : Int) (h0 : 0 ≤ c0) (h1 : c0 + N ≤ 1260) : ∀ (d : Nat) (i : Int) (fuel : Nat) (f : Int → Int), 0 ≤ i → i + d = N → d < fuel → ∃ f', lp fuel i (c0 + i) f kp = some (c0 + N, f', kp) ∧ (∀ j : Int, i ≤ j → j < N → f' j = kp (c0 + j)) ∧ (∀ j : Int, j < i → f' j = f j) := by
  intro d
  induction d with
  | zero =>
    intro i fuel f h2 h3 h4
    cases fuel with
    | zero => omega
    | succ fuel =>
      have hi : i = N := by omega
      subst hi
      exact ⟨f, he fuel _ f, fun j h5 h6 => by omega, fun j _ => rfl⟩
  | succ d ih =>
    intro i fuel f h2 h3 h4
    cases fuel with
    | zero => omega
    | succ fuel =>
      rw [hs fuel i _ f h2 (by omega) (by omega) (by omega)]
      obtain ⟨f', e1, e2, e3⟩ := ih (i + 1) fuel (uf f i (kp (c0 + i))) (by omega) (by omega) (by omega)
      refine ⟨f', by rw [show c0 + i + 1 = c0 + (i + 1) by omega]; exact e1, fun j h5 h6 => ?_, fun j h5 => ?_⟩
      · by_cases hj : j = i
        · subst hj
          rw [e3 _ (by omega), uf_s]
        · exact e2 j (by omega) h6
      · rw [e3 j (by omega), uf_n (by omega)]
theorem pk_bytes (f kp : Int → Int) (c : Int) (h0 : 0 ≤ c) (h1 : c + 64 ≤ 1260) : ∃ kp', m_Mod_passes_bytes 1 c f kp = some (c + 64, f, kp') ∧ (∀ j : Int, 0 ≤ j → j < 64 → kp' (c + j) = f j) ∧ (∀ j : Int, j < c ∨ c + 64 ≤ j → kp' j = kp j) := by
  obtain ⟨kp', e1, e2, e3⟩ := pass_k 64 (fun fuel i c f kp => m_Mod_passes_bytes_2 fuel i 1 c f kp) f (fun fuel i c kp h2 h3 h4 h5 => by
    rw [m_Mod_passes_bytes_2, clt_t (by omega)]
    simp only [jn_s]
    rw [ceq_f (by omega), gd_x (by omega), gd_x (by omega)]) (fun fuel c kp => by rw [m_Mod_passes_bytes_2, clt_f (by omega)]) c h0 h1 64 0 5000 kp (by omega) (by omega) (by omega)
  rw [Int.add_zero] at e1 e3
  exact ⟨kp', e1, e2, e3⟩
theorem pb_bytes (f kp : Int → Int) (c : Int) (h0 : 0 ≤ c) (h1 : c + 64 ≤ 1260) : ∃ f', m_Mod_passes_bytes 0 c f kp = some (c + 64, f', kp) ∧ ∀ j : Int, 0 ≤ j → j < 64 → f' j = kp (c + j) := by
  obtain ⟨f', e1, e2, e3⟩ := pass_b 64 (fun fuel i c f kp => m_Mod_passes_bytes_2 fuel i 0 c f kp) kp (fun fuel i c f h2 h3 h4 h5 => by
    rw [m_Mod_passes_bytes_2, clt_t (by omega)]
    simp only [jn_s]
    rw [ceq_t (by omega), gd_x (by omega), gd_x (by omega)]) (fun fuel c f => by rw [m_Mod_passes_bytes_2, clt_f (by omega)]) c h0 h1 64 0 5000 f (by omega) (by omega) (by omega)
  rw [Int.add_zero] at e1
  exact ⟨f', e1, e2⟩
theorem pk_owner (f kp : Int → Int) (c : Int) (h0 : 0 ≤ c) (h1 : c + 64 ≤ 1260) : ∃ kp', m_Mod_passes_owner 1 c f kp = some (c + 64, f, kp') ∧ (∀ j : Int, 0 ≤ j → j < 64 → kp' (c + j) = f j) ∧ (∀ j : Int, j < c ∨ c + 64 ≤ j → kp' j = kp j) := by
  obtain ⟨kp', e1, e2, e3⟩ := pass_k 64 (fun fuel i c f kp => m_Mod_passes_owner_2 fuel i 1 c f kp) f (fun fuel i c kp h2 h3 h4 h5 => by
    rw [m_Mod_passes_owner_2, clt_t (by omega)]
    simp only [jn_s]
    rw [ceq_f (by omega), gd_x (by omega), gd_x (by omega)]) (fun fuel c kp => by rw [m_Mod_passes_owner_2, clt_f (by omega)]) c h0 h1 64 0 5000 kp (by omega) (by omega) (by omega)
  rw [Int.add_zero] at e1 e3
  exact ⟨kp', e1, e2, e3⟩
theorem pb_owner (f kp : Int → Int) (c : Int) (h0 : 0 ≤ c) (h1 : c + 64 ≤ 1260) : ∃ f', m_Mod_passes_owner 0 c f kp = some (c + 64, f', kp) ∧ ∀ j : Int, 0 ≤ j → j < 64 → f' j = kp (c + j) := by
  obtain ⟨f', e1, e2, e3⟩ := pass_b 64 (fun fuel i c f kp => m_Mod_passes_owner_2 fuel i 0 c f kp) kp (fun fuel i c f h2 h3 h4 h5 => by
    rw [m_Mod_passes_owner_2, clt_t (by omega)]
    simp only [jn_s]
    rw [ceq_t (by omega), gd_x (by omega), gd_x (by omega)]) (fun fuel c f => by rw [m_Mod_passes_owner_2, clt_f (by omega)]) c h0 h1 64 0 5000 f (by omega) (by omega) (by omega)
  rw [Int.add_zero] at e1
  exact ⟨f', e1, e2⟩
theorem pk_block (f kp : Int → Int) (c : Int) (h0 : 0 ≤ c) (h1 : c + 96 ≤ 1260) : ∃ kp', m_Mod_passes_block 1 c f kp = some (c + 96, f, kp') ∧ (∀ j : Int, 0 ≤ j → j < 96 → kp' (c + j) = f j) ∧ (∀ j : Int, j < c ∨ c + 96 ≤ j → kp' j = kp j) := by
  obtain ⟨kp', e1, e2, e3⟩ := pass_k 96 (fun fuel i c f kp => m_Mod_passes_block_2 fuel i 1 c f kp) f (fun fuel i c kp h2 h3 h4 h5 => by
    rw [m_Mod_passes_block_2, clt_t (by omega)]
    simp only [jn_s]
    rw [ceq_f (by omega), gd_x (by omega), gd_x (by omega)]) (fun fuel c kp => by rw [m_Mod_passes_block_2, clt_f (by omega)]) c h0 h1 96 0 5000 kp (by omega) (by omega) (by omega)
  rw [Int.add_zero] at e1 e3
  exact ⟨kp', e1, e2, e3⟩
theorem pb_block (f kp : Int → Int) (c : Int) (h0 : 0 ≤ c) (h1 : c + 96 ≤ 1260) : ∃ f', m_Mod_passes_block 0 c f kp = some (c + 96, f', kp) ∧ ∀ j : Int, 0 ≤ j → j < 96 → f' j = kp (c + j) := by
  obtain ⟨f', e1, e2, e3⟩ := pass_b 96 (fun fuel i c f kp => m_Mod_passes_block_2 fuel i 0 c f kp) kp (fun fuel i c f h2 h3 h4 h5 => by
    rw [m_Mod_passes_block_2, clt_t (by omega)]
    simp only [jn_s]
    rw [ceq_t (by omega), gd_x (by omega), gd_x (by omega)]) (fun fuel c f => by rw [m_Mod_passes_block_2, clt_f (by omega)]) c h0 h1 96 0 5000 f (by omega) (by omega) (by omega)
  rw [Int.add_zero] at e1
  exact ⟨f', e1, e2⟩
theorem pk_written (f kp : Int → Int) (c : Int) (h0 : 0 ≤ c) (h1 : c + 96 ≤ 1260) : ∃ kp', m_Mod_passes_written 1 c f kp = some (c + 96, f, kp') ∧ (∀ j : Int, 0 ≤ j → j < 96 → kp' (c + j) = f j) ∧ (∀ j : Int, j < c ∨ c + 96 ≤ j → kp' j = kp j) := by
  obtain ⟨kp', e1, e2, e3⟩ := pass_k 96 (fun fuel i c f kp => m_Mod_passes_written_2 fuel i 1 c f kp) f (fun fuel i c kp h2 h3 h4 h5 => by
    rw [m_Mod_passes_written_2, clt_t (by omega)]
    simp only [jn_s]
    rw [ceq_f (by omega), gd_x (by omega), gd_x (by omega)]) (fun fuel c kp => by rw [m_Mod_passes_written_2, clt_f (by omega)]) c h0 h1 96 0 5000 kp (by omega) (by omega) (by omega)
  rw [Int.add_zero] at e1 e3
  exact ⟨kp', e1, e2, e3⟩
theorem pb_written (f kp : Int → Int) (c : Int) (h0 : 0 ≤ c) (h1 : c + 96 ≤ 1260) : ∃ f', m_Mod_passes_written 0 c f kp = some (c + 96, f', kp) ∧ ∀ j : Int, 0 ≤ j → j < 96 → f' j = kp (c + j) := by
  obtain ⟨f', e1, e2, e3⟩ := pass_b 96 (fun fuel i c f kp => m_Mod_passes_written_2 fuel i 0 c f kp) kp (fun fuel i c f h2 h3 h4 h5 => by
    rw [m_Mod_passes_written_2, clt_t (by omega)]
    simp only [jn_s]
    rw [ceq_t (by omega), gd_x (by omega), gd_x (by omega)]) (fun fuel c f => by rw [m_Mod_passes_written_2, clt_f (by omega)]) c h0 h1 96 0 5000 f (by omega) (by omega) (by omega)
  rw [Int.add_zero] at e1
  exact ⟨f', e1, e2⟩
theorem pk_waits (f kp : Int → Int) (c : Int) (h0 : 0 ≤ c) (h1 : c + 96 ≤ 1260) : ∃ kp', m_Mod_passes_waits 1 c f kp = some (c + 96, f, kp') ∧ (∀ j : Int, 0 ≤ j → j < 96 → kp' (c + j) = f j) ∧ (∀ j : Int, j < c ∨ c + 96 ≤ j → kp' j = kp j) := by
  obtain ⟨kp', e1, e2, e3⟩ := pass_k 96 (fun fuel i c f kp => m_Mod_passes_waits_2 fuel i 1 c f kp) f (fun fuel i c kp h2 h3 h4 h5 => by
    rw [m_Mod_passes_waits_2, clt_t (by omega)]
    simp only [jn_s]
    rw [ceq_f (by omega), gd_x (by omega), gd_x (by omega)]) (fun fuel c kp => by rw [m_Mod_passes_waits_2, clt_f (by omega)]) c h0 h1 96 0 5000 kp (by omega) (by omega) (by omega)
  rw [Int.add_zero] at e1 e3
  exact ⟨kp', e1, e2, e3⟩
theorem pb_waits (f kp : Int → Int) (c : Int) (h0 : 0 ≤ c) (h1 : c + 96 ≤ 1260) : ∃ f', m_Mod_passes_waits 0 c f kp = some (c + 96, f', kp) ∧ ∀ j : Int, 0 ≤ j → j < 96 → f' j = kp (c + j) := by
  obtain ⟨f', e1, e2, e3⟩ := pass_b 96 (fun fuel i c f kp => m_Mod_passes_waits_2 fuel i 0 c f kp) kp (fun fuel i c f h2 h3 h4 h5 => by
    rw [m_Mod_passes_waits_2, clt_t (by omega)]
    simp only [jn_s]
    rw [ceq_t (by omega), gd_x (by omega), gd_x (by omega)]) (fun fuel c f => by rw [m_Mod_passes_waits_2, clt_f (by omega)]) c h0 h1 96 0 5000 f (by omega) (by omega) (by omega)
  rw [Int.add_zero] at e1
  exact ⟨f', e1, e2⟩
theorem pk_kinds (f kp : Int → Int) (c : Int) (h0 : 0 ≤ c) (h1 : c + 4 ≤ 1260) : ∃ kp', m_Mod_passes_kinds 1 c f kp = some (c + 4, f, kp') ∧ (∀ j : Int, 0 ≤ j → j < 4 → kp' (c + j) = f j) ∧ (∀ j : Int, j < c ∨ c + 4 ≤ j → kp' j = kp j) := by
  obtain ⟨kp', e1, e2, e3⟩ := pass_k 4 (fun fuel i c f kp => m_Mod_passes_kinds_2 fuel i 1 c f kp) f (fun fuel i c kp h2 h3 h4 h5 => by
    rw [m_Mod_passes_kinds_2, clt_t (by omega)]
    simp only [jn_s]
    rw [ceq_f (by omega), gd_x (by omega), gd_x (by omega)]) (fun fuel c kp => by rw [m_Mod_passes_kinds_2, clt_f (by omega)]) c h0 h1 4 0 5000 kp (by omega) (by omega) (by omega)
  rw [Int.add_zero] at e1 e3
  exact ⟨kp', e1, e2, e3⟩
theorem pb_kinds (f kp : Int → Int) (c : Int) (h0 : 0 ≤ c) (h1 : c + 4 ≤ 1260) : ∃ f', m_Mod_passes_kinds 0 c f kp = some (c + 4, f', kp) ∧ ∀ j : Int, 0 ≤ j → j < 4 → f' j = kp (c + j) := by
  obtain ⟨f', e1, e2, e3⟩ := pass_b 4 (fun fuel i c f kp => m_Mod_passes_kinds_2 fuel i 0 c f kp) kp (fun fuel i c f h2 h3 h4 h5 => by
    rw [m_Mod_passes_kinds_2, clt_t (by omega)]
    simp only [jn_s]
    rw [ceq_t (by omega), gd_x (by omega), gd_x (by omega)]) (fun fuel c f => by rw [m_Mod_passes_kinds_2, clt_f (by omega)]) c h0 h1 4 0 5000 f (by omega) (by omega) (by omega)
  rw [Int.add_zero] at e1
  exact ⟨f', e1, e2⟩
/-- all is kept in a section: the rows stay, the section tells them, the other sections stay -/
theorem keepAll (s ik cu : Int) (bt ow bl wr wa ki kp : Int → Int) (hs : 0 ≤ s ∧ s ≤ 2) : ∃ kp' cu', m_Mod_passesAll s 1 ik cu bt ow bl wr wa ki kp = some (1, cu', bt, ow, bl, wr, wa, ki, kp') ∧ (QE 64 (Sec kp' (420 * s + 0)) bt ∧ QE 64 (Sec kp' (420 * s + 64)) ow ∧ QE 96 (Sec kp' (420 * s + 128)) bl ∧ QE 96 (Sec kp' (420 * s + 224)) wr ∧ QE 96 (Sec kp' (420 * s + 320)) wa ∧ QE 4 (Sec kp' (420 * s + 416)) ki) ∧ (∀ j : Int, j < 420 * s ∨ 420 * s + 420 ≤ j → kp' j = kp j) := by
  obtain ⟨k0, e0, a0, b0⟩ := pk_bytes bt kp (420 * s + 0) (by omega) (by omega)
  obtain ⟨k1, e1, a1, b1⟩ := pk_owner ow k0 (420 * s + 64) (by omega) (by omega)
  obtain ⟨k2, e2, a2, b2⟩ := pk_block bl k1 (420 * s + 128) (by omega) (by omega)
  obtain ⟨k3, e3, a3, b3⟩ := pk_written wr k2 (420 * s + 224) (by omega) (by omega)
  obtain ⟨k4, e4, a4, b4⟩ := pk_waits wa k3 (420 * s + 320) (by omega) (by omega)
  obtain ⟨k5, e5, a5, b5⟩ := pk_kinds ki k4 (420 * s + 416) (by omega) (by omega)
  refine ⟨k5, 420 * s + 416 + 4, ?_, ⟨?_, ?_, ?_, ?_, ?_, ?_⟩, fun j hj => ?_⟩
  · unfold m_Mod_passesAll
    rw [Int.add_zero] at e0
    rw [gd_b (by omega), e0, bnd_s]
    simp only []
    rw [e1, bnd_s, show 420 * s + 64 + 64 = 420 * s + 128 by omega, e2, bnd_s, show 420 * s + 128 + 96 = 420 * s + 224 by omega, e3, bnd_s, show 420 * s + 224 + 96 = 420 * s + 320 by omega, e4, bnd_s, show 420 * s + 320 + 96 = 420 * s + 416 by omega, e5, bnd_s]
  · intro j h0 h1
    unfold Sec
    rw [b5 _ (by omega), b4 _ (by omega), b3 _ (by omega), b2 _ (by omega), b1 _ (by omega), a0 j h0 h1]
  · intro j h0 h1
    unfold Sec
    rw [b5 _ (by omega), b4 _ (by omega), b3 _ (by omega), b2 _ (by omega), a1 j h0 h1]
  · intro j h0 h1
    unfold Sec
    rw [b5 _ (by omega), b4 _ (by omega), b3 _ (by omega), a2 j h0 h1]
  · intro j h0 h1
    unfold Sec
    rw [b5 _ (by omega), b4 _ (by omega), a3 j h0 h1]
  · intro j h0 h1
    unfold Sec
    rw [b5 _ (by omega), a4 j h0 h1]
  · intro j h0 h1
    unfold Sec
    rw [a5 j h0 h1]
  · rw [b5 j (by omega), b4 j (by omega), b3 j (by omega), b2 j (by omega), b1 j (by omega), b0 j (by omega)]
/-- a section is brought back -/
theorem bringAll (s ik cu : Int) (bt ow bl wr wa ki kp : Int → Int) (hs : 0 ≤ s ∧ s ≤ 2) : ∃ cu' bt' ow' bl' wr' wa' ki', m_Mod_passesAll s 0 ik cu bt ow bl wr wa ki kp = some (0, cu', bt', ow', bl', wr', wa', ki', kp) ∧ (QE 64 bt' (Sec kp (420 * s + 0)) ∧ QE 64 ow' (Sec kp (420 * s + 64)) ∧ QE 96 bl' (Sec kp (420 * s + 128)) ∧ QE 96 wr' (Sec kp (420 * s + 224)) ∧ QE 96 wa' (Sec kp (420 * s + 320)) ∧ QE 4 ki' (Sec kp (420 * s + 416))) := by
  obtain ⟨g0, e0, a0⟩ := pb_bytes bt kp (420 * s + 0) (by omega) (by omega)
  obtain ⟨g1, e1, a1⟩ := pb_owner ow kp (420 * s + 64) (by omega) (by omega)
  obtain ⟨g2, e2, a2⟩ := pb_block bl kp (420 * s + 128) (by omega) (by omega)
  obtain ⟨g3, e3, a3⟩ := pb_written wr kp (420 * s + 224) (by omega) (by omega)
  obtain ⟨g4, e4, a4⟩ := pb_waits wa kp (420 * s + 320) (by omega) (by omega)
  obtain ⟨g5, e5, a5⟩ := pb_kinds ki kp (420 * s + 416) (by omega) (by omega)
  refine ⟨420 * s + 416 + 4, g0, g1, g2, g3, g4, g5, ?_, a0, a1, a2, a3, a4, a5⟩
  unfold m_Mod_passesAll
  rw [Int.add_zero] at e0
  rw [gd_b (by omega), e0, bnd_s]
  simp only []
  rw [e1, bnd_s, show 420 * s + 64 + 64 = 420 * s + 128 by omega, e2, bnd_s, show 420 * s + 128 + 96 = 420 * s + 224 by omega, e3, bnd_s, show 420 * s + 224 + 96 = 420 * s + 320 by omega, e4, bnd_s, show 420 * s + 320 + 96 = 420 * s + 416 by omega, e5, bnd_s]
