/-! the beginning -/
/-- a loop that fills a row from i on -/
theorem fill1 (N : Nat) (c : Int) (lp : Nat → Int → (Int → Int) → Option (Int → Int))
    (hs : ∀ (fuel : Nat) (i : Int) (f : Int → Int), 0 ≤ i → i < N → lp (fuel + 1) i f = lp fuel (i + 1) (uf f i c))
    (he : ∀ (fuel : Nat) (f : Int → Int), lp (fuel + 1) N f = some f) : ∀ (d : Nat) (i : Int) (fuel : Nat) (f : Int → Int), 0 ≤ i → i + d = N → d < fuel → (∀ j : Int, 0 ≤ j → j < i → f j = c) → ∃ g, lp fuel i f = some g ∧ ∀ j : Int, 0 ≤ j → j < N → g j = c := by
  intro d
  induction d with
  | zero =>
    intro i fuel f h0 h1 h2 h3
    cases fuel with
    | zero => omega
    | succ fuel =>
      have hi : i = N := by omega
      subst hi
      exact ⟨f, he fuel f, h3⟩
  | succ d ih =>
    intro i fuel f h0 h1 h2 h3
    cases fuel with
    | zero => omega
    | succ fuel =>
      rw [hs fuel i f h0 (by omega)]
      refine ih (i + 1) fuel (uf f i c) (by omega) (by omega) (by omega) (fun j h4 h5 => ?_)
      by_cases hj : j = i
      · subst hj
        exact uf_s
      · rw [uf_n hj]
        exact h3 j h4 (by omega)
theorem fill2 (N : Nat) (c : Int) (lp : Nat → Int → (Int → Int) → (Int → Int) → Option ((Int → Int) × (Int → Int)))
    (hs : ∀ (fuel : Nat) (i : Int) (f g : Int → Int), 0 ≤ i → i < N → lp (fuel + 1) i f g = lp fuel (i + 1) (uf f i c) (uf g i c))
    (he : ∀ (fuel : Nat) (f g : Int → Int), lp (fuel + 1) N f g = some (f, g)) : ∀ (d : Nat) (i : Int) (fuel : Nat) (f g : Int → Int), 0 ≤ i → i + d = N → d < fuel → (∀ j : Int, 0 ≤ j → j < i → f j = c ∧ g j = c) → ∃ f' g', lp fuel i f g = some (f', g') ∧ ∀ j : Int, 0 ≤ j → j < N → f' j = c ∧ g' j = c := by
  intro d
  induction d with
  | zero =>
    intro i fuel f g h0 h1 h2 h3
    cases fuel with
    | zero => omega
    | succ fuel =>
      have hi : i = N := by omega
      subst hi
      exact ⟨f, g, he fuel f g, h3⟩
  | succ d ih =>
    intro i fuel f g h0 h1 h2 h3
    cases fuel with
    | zero => omega
    | succ fuel =>
      rw [hs fuel i f g h0 (by omega)]
      refine ih (i + 1) fuel (uf f i c) (uf g i c) (by omega) (by omega) (by omega) (fun j h4 h5 => ?_)
      by_cases hj : j = i
      · subst hj
        exact ⟨uf_s, uf_s⟩
      · rw [uf_n hj, uf_n hj]
        exact h3 j h4 (by omega)
theorem cn_none {P : Int → Prop} [DecidablePred P] : ∀ n : Nat, (∀ j : Int, 0 ≤ j → j < n → ¬ P j) → cn P n = 0
  | 0, _ => rfl
  | n + 1, h => by
    unfold cn
    rw [cn_none n (fun j h0 h1 => h j h0 (by omega)), if_neg (h n (by omega) (by omega))]
    rfl
theorem cn_full {P : Int → Prop} [DecidablePred P] : ∀ n : Nat, (∀ j : Int, 0 ≤ j → j < n → P j) → cn P n = n
  | 0, _ => rfl
  | n + 1, h => by
    unfold cn
    rw [cn_full n (fun j h0 h1 => h j h0 (by omega)), if_pos (h n (by omega) (by omega))]
    rfl
theorem e_init : E_init := by
  obtain ⟨g1, a1, a2⟩ := fill1 64 (-1) m_Disk_init_64 (fun fuel i f h0 h1 => by rw [m_Disk_init_64, clt_t (by omega), gd_x (by omega)]) (fun fuel f => by rw [m_Disk_init_64, clt_f (by omega)]) 64 0 5000 (fun _ => 0) (by omega) (by omega) (by omega) (fun j h0 h1 => by omega)
  obtain ⟨g2, g3, b1, b2⟩ := fill2 96 (-1) m_Disk_init_88 (fun fuel i f g h0 h1 => by rw [m_Disk_init_88, clt_t (by omega), clt_t (by omega), gd_x (by omega), gd_x (by omega)]) (fun fuel f g => by rw [m_Disk_init_88, clt_f (by omega)]) 96 0 5000 (fun _ => 0) (fun _ => 0) (by omega) (by omega) (by omega) (fun j h0 h1 => by omega)
  obtain ⟨g4, c1, c2⟩ := fill1 64 (-9) m_Mod_init_126 (fun fuel i f h0 h1 => by rw [m_Mod_init_126, clt_t (by omega), gd_x (by omega)]) (fun fuel f => by rw [m_Mod_init_126, clt_f (by omega)]) 64 0 5000 (fun _ => 0) (by omega) (by omega) (by omega) (fun j h0 h1 => by omega)
  obtain ⟨g5, g6, d1, d2⟩ := fill2 96 (-9) m_Mod_init_148 (fun fuel i f g h0 h1 => by rw [m_Mod_init_148, clt_t (by omega), gd_x (by omega), gd_x (by omega)]) (fun fuel f g => by rw [m_Mod_init_148, clt_f (by omega)]) 96 0 5000 (fun _ => 0) (fun _ => 0) (by omega) (by omega) (by omega) (fun j h0 h1 => by omega)
  refine ⟨(g1, g2, g3), (g4, g5, g6), ?_, ?_, ?_⟩
  · unfold m_Disk_init
    rw [a1, bnd_s, b1, bnd_s]
  · unfold m_Mod_init
    rw [c1, bnd_s, d1, bnd_s]
  · refine ⟨⟨fun b h0 h1 => Or.inl (c2 b h0 h1), fun a h0 h1 => Or.inl (d2 a h0 h1).1, fun a h0 h1 => Or.inl rfl, fun a h0 h1 => Or.inl (d2 a h0 h1).2, fun b h0 h1 => ⟨by show (0 : Int) ≤ 0; omega, by show (0 : Int) ≤ 99; omega⟩, fun f h0 h1 => ⟨by show (0 : Int) ≤ 0; omega, by show (0 : Int) ≤ 5; omega⟩, ?_, ?_⟩,
      ⟨fun j h0 h1 => Or.inl ⟨c2 j h0 h1, a2 j h0 h1⟩, fun j h0 h1 => rfl, fun j h0 h1 => rfl, fun j h0 h1 => Or.inl ⟨(d2 j h0 h1).1, (b2 j h0 h1).1⟩, fun j h0 h1 => Or.inl ⟨(d2 j h0 h1).2, (b2 j h0 h1).2⟩, fun j h0 h1 => rfl⟩, ⟨rfl, Or.inl rfl⟩, fun h => absurd h (by omega), fun j h0 h1 => rfl, ⟨rfl, by omega, by omega, fun j h0 h1 => by omega⟩, ⟨rfl, by omega, by omega, fun j h0 h1 => by omega⟩⟩
    · rw [cn_none (P := fun a => g5 a < 0 ∧ 0 ≤ g6 a) 96 (fun j h0 h1 q => by have := (d2 j h0 h1).2; omega)]
      exact (cn_bd _ 64).1
    · rw [cn_none (P := fun a => 0 ≤ g5 a) 96 (fun j h0 h1 q => by have := (d2 j h0 h1).1; omega), cn_full (P := fun b => g4 b < 0) 64 (fun j h0 h1 => by have := c2 j h0 h1; omega)]
      rfl
