/-! one page is placed; a piece of pages -/
def rd (bt bl wr wa : Int → Int) (a : Int) : Int := if 0 ≤ wa a then wa a else if 0 ≤ bl a ∧ wr a = 1 then bt (bl a) else 0
section PIECE
variable {bt ow bl wr wa ki : Int → Int}
theorem Inv.place (hI : Inv bt ow bl wr wa ki) {a b : Int} (ha : 0 ≤ a ∧ a < 96) (hb : 0 ≤ b ∧ b < 64) (hu : bl a < 0) (hw : ow b < 0) (hr : 0 ≤ wa a ∨ 1 ≤ rom ow bl wa) : Inv bt (uf ow b a) (uf bl a b) (uf wr a 0) wa ki ∧ rom ow bl wa - 1 ≤ rom (uf ow b a) (uf bl a b) wa := by
  obtain ⟨i1, i2, i3, i4, i5, i6, i7, i8⟩ := hI
  have c1 : cn (fun j => uf ow b a j < 0) 64 = cn (fun j => ow j < 0) 64 - 1 := cn_out (P := fun j => ow j < 0) (Q := fun j => uf ow b a j < 0) b 64 hb (fun j h0 h1 h2 => by rw [uf_n h2]) hw (by rw [uf_s]; omega)
  have c2 : cn (fun j => 0 ≤ uf bl a b j) 96 = cn (fun j => 0 ≤ bl j) 96 + 1 := cn_in (P := fun j => 0 ≤ bl j) (Q := fun j => 0 ≤ uf bl a b j) a 96 ha (fun j h0 h1 h2 => by rw [uf_n h2]) (by omega) (by rw [uf_s]; omega)
  have c3 : cn (fun j => uf bl a b j < 0 ∧ 0 ≤ wa j) 96 = cn (fun j => bl j < 0 ∧ 0 ≤ wa j) 96 - (if 0 ≤ wa a then 1 else 0) := by
    by_cases h : 0 ≤ wa a
    · rw [if_pos h]
      exact cn_out (P := fun j => bl j < 0 ∧ 0 ≤ wa j) (Q := fun j => uf bl a b j < 0 ∧ 0 ≤ wa j) a 96 ha (fun j h0 h1 h2 => by rw [uf_n h2]) ⟨hu, h⟩ (by rw [uf_s]; omega)
    · rw [if_neg h, Int.sub_zero]
      exact cn_no (P := fun j => bl j < 0 ∧ 0 ≤ wa j) (Q := fun j => uf bl a b j < 0 ∧ 0 ≤ wa j) a 96 ha (fun j h0 h1 h2 => by rw [uf_n h2]) (by omega) (by rw [uf_s]; omega)
  have c4 : (if 0 ≤ wa a then 1 else 0 : Int) = 0 ∨ (if 0 ≤ wa a then 1 else 0 : Int) = 1 := yn_b
  refine ⟨⟨fun c h0 h1 => ?_, fun c h0 h1 => ?_, fun c h0 h1 => ?_, i4, i5, i6, ?_, ?_⟩, ?_⟩
  · by_cases h : c = b
    · subst h
      rw [uf_s, uf_s]
      exact Or.inr ⟨ha.1, ha.2, rfl⟩
    · rw [uf_n h]
      rcases i1 c h0 h1 with h3 | ⟨h3, h4, h5⟩
      · exact Or.inl h3
      · rw [uf_n (fun q => by rw [q] at h5; omega)]
        exact Or.inr ⟨h3, h4, h5⟩
  · by_cases h : c = a
    · subst h
      rw [uf_s, uf_s]
      exact Or.inr ⟨hb.1, hb.2, rfl⟩
    · rw [uf_n h]
      rcases i2 c h0 h1 with h3 | ⟨h3, h4, h5⟩
      · exact Or.inl h3
      · rw [uf_n (fun q => by rw [q] at h5; omega)]
        exact Or.inr ⟨h3, h4, h5⟩
  · by_cases h : c = a
    · subst h
      rw [uf_s]
      exact Or.inl rfl
    · rw [uf_n h, uf_n h]
      exact i3 c h0 h1
  · rw [c1, c3]
    unfold rom at hr
    by_cases h : 0 ≤ wa a
    · rw [if_pos h]
      omega
    · rw [if_neg h]
      rcases hr with hr | hr
      · exact absurd hr h
      · omega
  · rw [c1, c2]
    omega
  · unfold rom
    rw [c1, c3]
    omega
theorem rd_place (hI : Inv bt ow bl wr wa ki) {a b : Int} (hu : bl a < 0) {c : Int} : rd bt (uf bl a b) (uf wr a 0) wa c = rd bt bl wr wa c := by
  unfold rd
  by_cases h : c = a
  · subst h
    rw [uf_s, uf_s]
    by_cases h2 : 0 ≤ wa c
    · rw [if_pos h2, if_pos h2]
    · rw [if_neg h2, if_neg h2, if_neg (by omega), if_neg (by omega)]
  · rw [uf_n h, uf_n h]
variable {vow vbt vki vpl vva vwr : Int → Int}
theorem Dsk.place (hI : Inv bt ow bl wr wa ki) (hD : Dsk vow vbt vki vpl vva vwr bt ow bl wr wa ki) {a b : Int} (ha : 0 ≤ a ∧ a < 96) (hb : 0 ≤ b ∧ b < 64) (hu : bl a < 0) : Dsk (uf vow b a) vbt vki (uf vpl a b) vva vwr bt (uf ow b a) (uf bl a b) (uf wr a 0) wa ki := by
  obtain ⟨d1, d2, d3, d4, d5, d6⟩ := hD
  refine ⟨fun c h0 h1 => ?_, d2, d3, fun c h0 h1 => ?_, d5, fun c h0 h1 => ?_⟩
  · by_cases h : c = b
    · subst h
      rw [uf_s, uf_s]
      exact Or.inr ⟨ha.1, rfl⟩
    · rw [uf_n h, uf_n h]
      exact d1 c h0 h1
  · by_cases h : c = a
    · subst h
      rw [uf_s, uf_s]
      exact Or.inr ⟨hb.1, rfl⟩
    · rw [uf_n h, uf_n h]
      exact d4 c h0 h1
  · by_cases h : c = a
    · subst h
      rw [uf_s, d6 c h0 h1]
      rcases hI.2.2.1 c h0 h1 with q | q
      · exact q
      · omega
    · rw [uf_n h]
      exact d6 c h0 h1
theorem p_place {f p b : Int} {o q : Int → Int} (hf : 0 ≤ f ∧ f < 4) (hp : 0 ≤ p ∧ p < 24) (hb : 0 ≤ b ∧ b < 64) : m_Disk_place f p b o q = some (uf o b (24 * f + p), uf q (24 * f + p) b) := by
  unfold m_Disk_place
  rw [p_Vol_isFile (by omega), bnd_s, if_pos hf, ceq_f (by omega), p_Vol_isPage (by omega), bnd_s, if_pos hp, ceq_f (by omega), p_Vol_isBlock (by omega), bnd_s, if_pos hb, ceq_f (by omega), gd_x (by omega), gd_x hb, Int.mul_comm f 24]
theorem places_loop {f p u many rm : Int} {rs rz : Int → Int} (hf : 0 ≤ f ∧ f < 4) (hp : 0 ≤ p) (hpm : p + many ≤ 24) (hu : 0 ≤ u) (hum : u + many ≤ 64) : ∀ (d : Nat) (k : Int) (ow bl wr vow vpl : Int → Int) (fM fD : Nat), k + d = many → 0 ≤ k → d < fM → d < fD → Inv bt ow bl wr wa ki → Dsk vow vbt vki vpl vva vwr bt ow bl wr wa ki → (∀ j : Int, k ≤ j → j < many → bl (24 * f + p + j) < 0 ∧ ow (u + j) < 0) → ((∀ j : Int, k ≤ j → j < many → 0 ≤ wa (24 * f + p + j)) ∨ many - k ≤ rom ow bl wa) →
    ∃ ow' bl' wr' vow' vpl', m_Mod_placesPiece_3 fM (24 * f + p) u many k ow bl wr = some (ow', bl', wr') ∧ m_Disk_putPiece_107 fD f p many u k vow vki vpl rm rs rz = some (many, vow', vpl', rm, rs, rz) ∧ Inv bt ow' bl' wr' wa ki ∧ Dsk vow' vbt vki vpl' vva vwr bt ow' bl' wr' wa ki ∧ (∀ j : Int, k ≤ j → j < many → bl' (24 * f + p + j) = u + j) ∧ (∀ a : Int, (a < 24 * f + p + k ∨ 24 * f + p + many ≤ a) → bl' a = bl a) ∧ rom ow bl wa - (many - k) ≤ rom ow' bl' wa ∧ (∀ a : Int, 0 ≤ a → a < 96 → rd bt bl' wr' wa a = rd bt bl wr wa a) := by
  intro d
  induction d with
  | zero =>
    intro k ow bl wr vow vpl fM fD h1 h2 h3 h4 hI hD h5 h6
    cases fM with
    | zero => omega
    | succ fM =>
      cases fD with
      | zero => omega
      | succ fD =>
        refine ⟨ow, bl, wr, vow, vpl, ?_, ?_, hI, hD, fun j q0 q1 => by omega, fun a _ => rfl, by omega, fun a _ _ => rfl⟩
        · rw [m_Mod_placesPiece_3, clt_f (by omega)]
        · rw [m_Disk_putPiece_107, clt_f (by omega)]
  | succ d ih =>
    intro k ow bl wr vow vpl fM fD h1 h2 h3 h4 hI hD h5 h6
    cases fM with
    | zero => omega
    | succ fM =>
      cases fD with
      | zero => omega
      | succ fD =>
        have e : 24 * f + (p + k) = 24 * f + p + k := by omega
        have hk := h5 k (by omega) (by omega)
        have hrk : 0 ≤ wa (24 * f + p + k) ∨ 1 ≤ rom ow bl wa := by
          rcases h6 with h6 | h6
          · exact Or.inl (h6 k (by omega) (by omega))
          · exact Or.inr (by omega)
        obtain ⟨nI, nr⟩ := hI.place (a := 24 * f + p + k) (b := u + k) ⟨by omega, by omega⟩ ⟨by omega, by omega⟩ hk.1 hk.2 hrk
        have nD := Dsk.place hI hD (a := 24 * f + p + k) (b := u + k) ⟨by omega, by omega⟩ ⟨by omega, by omega⟩ hk.1
        have n6 : (∀ j : Int, k + 1 ≤ j → j < many → 0 ≤ wa (24 * f + p + j)) ∨ many - (k + 1) ≤ rom (uf ow (u + k) (24 * f + p + k)) (uf bl (24 * f + p + k) (u + k)) wa := by
          rcases h6 with h6 | h6
          · exact Or.inl (fun j q0 q1 => h6 j (by omega) q1)
          · exact Or.inr (by omega)
        obtain ⟨ow', bl', wr', vow', vpl', e1, e2, g1, g2, g3, g4, g5, g6⟩ := ih (k + 1) _ _ _ _ _ fM fD (by omega) (by omega) (by omega) (by omega) nI nD (fun j q0 q1 => by
          rw [uf_n (by omega), uf_n (by omega)]
          exact h5 j (by omega) q1) n6
        refine ⟨ow', bl', wr', vow', vpl', ?_, ?_, g1, g2, fun j q0 q1 => ?_, fun a q => ?_, by omega, fun a q0 q1 => ?_⟩
        · rw [m_Mod_placesPiece_3, clt_t (by omega), gd_x (by omega), gd_x (by omega), gd_x (by omega)]
          exact e1
        · rw [m_Disk_putPiece_107, clt_t (by omega), p_place hf ⟨by omega, by omega⟩ ⟨by omega, by omega⟩, bnd_s, e]
          exact e2
        · by_cases c : j = k
          · subst c
            rw [g4 _ (by omega), uf_s]
          · exact g3 j (by omega) q1
        · rw [g4 a (by omega), uf_n (by omega)]
        · rw [g6 a q0 q1]
          exact rd_place hI hk.1
end PIECE
