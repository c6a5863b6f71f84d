/-! the relation between the volume's cells and the reference's -/
def Q91 (N : Int) (f g : Int → Int) : Prop := ∀ j : Int, 0 ≤ j → j < N → (g j = -9 ∧ f j = -1) ∨ (0 ≤ g j ∧ f j = g j)
def QE (N : Int) (f g : Int → Int) : Prop := ∀ j : Int, 0 ≤ j → j < N → f j = g j
/-- what always holds of the reference's rows: bytes, owner, block, written, waits, kinds -/
def Inv (bt ow bl wr wa ki : Int → Int) : Prop :=
  (∀ b : Int, 0 ≤ b → b < 64 → ow b = -9 ∨ (0 ≤ ow b ∧ ow b < 96 ∧ bl (ow b) = b)) ∧
  (∀ a : Int, 0 ≤ a → a < 96 → bl a = -9 ∨ (0 ≤ bl a ∧ bl a < 64 ∧ ow (bl a) = a)) ∧
  (∀ a : Int, 0 ≤ a → a < 96 → wr a = 0 ∨ (wr a = 1 ∧ 0 ≤ bl a)) ∧
  (∀ a : Int, 0 ≤ a → a < 96 → wa a = -9 ∨ (0 ≤ wa a ∧ wa a ≤ 99)) ∧
  (∀ b : Int, 0 ≤ b → b < 64 → 0 ≤ bt b ∧ bt b ≤ 99) ∧
  (∀ f : Int, 0 ≤ f → f < 4 → 0 ≤ ki f ∧ ki f ≤ 5) ∧
  cn (fun a => bl a < 0 ∧ 0 ≤ wa a) 96 ≤ cn (fun b => ow b < 0) 64 ∧
  cn (fun a => 0 ≤ bl a) 96 + cn (fun b => ow b < 0) 64 = 64
/-- a disk's rows (owners, bytes, kinds, places, values, written) and the reference's -/
def Dsk (vow vbt vki vpl vva vwr bt ow bl wr wa ki : Int → Int) : Prop := Q91 64 vow ow ∧ QE 64 vbt bt ∧ QE 4 vki ki ∧ Q91 96 vpl bl ∧ Q91 96 vva wa ∧ QE 96 vwr wr
def Sec (kp : Int → Int) (o : Int) : Int → Int := fun j => kp (o + j)
def Rel (ik : Int) (now nbt nki npl nva nwr kow kbt kki kpl kva kwr : Int → Int) (smn : Int) (snu : Int → Int) (rmn : Int) (rnu : Int → Int) (rf : Int → Int) (m_refused m_bytes m_owner m_block m_written m_waits m_kinds m_tape : Int → Int) (m_taped : Int) (m_kept : Int → Int) (m_hasImage : Int) (m_row : Int → Int) (m_rowMany : Int) : Prop :=
  Inv m_bytes m_owner m_block m_written m_waits m_kinds ∧ Dsk now nbt nki npl nva nwr m_bytes m_owner m_block m_written m_waits m_kinds ∧
  (ik = m_hasImage ∧ (ik = 0 ∨ ik = 1)) ∧
  (ik = 1 → Inv (Sec m_kept 0) (Sec m_kept 64) (Sec m_kept 128) (Sec m_kept 224) (Sec m_kept 320) (Sec m_kept 416) ∧ Dsk kow kbt kki kpl kva kwr (Sec m_kept 0) (Sec m_kept 64) (Sec m_kept 128) (Sec m_kept 224) (Sec m_kept 320) (Sec m_kept 416)) ∧
  QE 7 rf m_refused ∧
  (smn = m_taped ∧ 0 ≤ smn ∧ smn ≤ 96 ∧ ∀ j : Int, 0 ≤ j → j < smn → snu j = m_tape j ∧ 0 ≤ m_tape j ∧ m_tape j ≤ 255) ∧
  (rmn = m_rowMany ∧ 0 ≤ rmn ∧ rmn ≤ 32 ∧ ∀ j : Int, 0 ≤ j → j < rmn → rnu j = m_row j ∧ 0 ≤ m_row j ∧ m_row j ≤ 99)
theorem QE.bump {f g : Int → Int} {k : Int} {N : Int} (h : QE N f g) (hk : 0 ≤ k ∧ k < N) : QE N (uf f k (f k + 1)) (uf g k (g k + 1)) := by
  intro j h0 h1
  by_cases hj : j = k
  · subst hj
    rw [uf_s, uf_s, h j h0 h1]
  · rw [uf_n hj, uf_n hj, h j h0 h1]
theorem Inv.at {bt ow bl wr wa ki : Int → Int} (h : Inv bt ow bl wr wa ki) : (∀ b : Int, 0 ≤ b → b < 64 → -9 ≤ ow b ∧ ow b < 96) ∧ (∀ a : Int, 0 ≤ a → a < 96 → (-9 ≤ bl a ∧ bl a < 64) ∧ (-9 ≤ wa a ∧ wa a ≤ 99) ∧ (wr a = 0 ∨ wr a = 1)) := by
  obtain ⟨h1, h2, h3, h4, -⟩ := h
  refine ⟨fun b h0 h1' => ?_, fun a h0 h1' => ?_⟩
  · rcases h1 b h0 h1' with h | h <;> omega
  · refine ⟨?_, ?_, ?_⟩
    · rcases h2 a h0 h1' with h | h <;> omega
    · rcases h4 a h0 h1' with h | h <;> omega
    · rcases h3 a h0 h1' with h | h
      · exact Or.inl h
      · exact Or.inr h.1
/-- at a page: the volume's rows and the reference's -/
theorem Rel.pg {f p : Int} {vow vbt vki vpl vva vwr bt ow bl wr wa ki : Int → Int} (hD : Dsk vow vbt vki vpl vva vwr bt ow bl wr wa ki) (hf : 0 ≤ f ∧ f < 4) (hp : 0 ≤ p ∧ p < 24) : ((bl (24 * f + p) = -9 ∧ vpl (24 * f + p) = -1) ∨ (0 ≤ bl (24 * f + p) ∧ vpl (24 * f + p) = bl (24 * f + p))) ∧ ((wa (24 * f + p) = -9 ∧ vva (24 * f + p) = -1) ∨ (0 ≤ wa (24 * f + p) ∧ vva (24 * f + p) = wa (24 * f + p))) ∧ vwr (24 * f + p) = wr (24 * f + p) := by
  obtain ⟨d1, d2, d3, d4, d5, d6⟩ := hD
  exact ⟨d4 _ (by omega) (by omega), d5 _ (by omega) (by omega), d6 _ (by omega) (by omega)⟩
