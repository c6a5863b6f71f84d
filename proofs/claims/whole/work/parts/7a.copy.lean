/-! rows that are alike; a disk copied -/
theorem Inv.congr {bt ow bl wr wa ki bt' ow' bl' wr' wa' ki' : Int → Int} (hI : Inv bt ow bl wr wa ki) (h1 : QE 64 bt' bt) (h2 : QE 64 ow' ow) (h3 : QE 96 bl' bl) (h4 : QE 96 wr' wr) (h5 : QE 96 wa' wa) (h6 : QE 4 ki' ki) : Inv bt' ow' bl' wr' wa' ki' := by
  obtain ⟨i1, i2, i3, i4, i5, i6, i7, i8⟩ := hI
  refine ⟨fun b q0 q1 => ?_, fun a q0 q1 => ?_, fun a q0 q1 => ?_, fun a q0 q1 => ?_, fun b q0 q1 => ?_, fun f q0 q1 => ?_, ?_, ?_⟩
  · rw [h2 b q0 q1]
    rcases i1 b q0 q1 with h | ⟨g1, g2, g3⟩
    · exact Or.inl h
    · exact Or.inr ⟨g1, g2, by rw [h3 _ g1 g2]; exact g3⟩
  · rw [h3 a q0 q1]
    rcases i2 a q0 q1 with h | ⟨g1, g2, g3⟩
    · exact Or.inl h
    · exact Or.inr ⟨g1, g2, by rw [h2 _ g1 g2]; exact g3⟩
  · rw [h3 a q0 q1, h4 a q0 q1]
    exact i3 a q0 q1
  · rw [h5 a q0 q1]
    exact i4 a q0 q1
  · rw [h1 b q0 q1]
    exact i5 b q0 q1
  · rw [h6 f q0 q1]
    exact i6 f q0 q1
  · rw [cn_congr (P := fun a => bl' a < 0 ∧ 0 ≤ wa' a) (Q := fun a => bl a < 0 ∧ 0 ≤ wa a) 96 (fun j q0 q1 => by rw [h3 j q0 q1, h5 j q0 q1]), cn_congr (P := fun b => ow' b < 0) (Q := fun b => ow b < 0) 64 (fun j q0 q1 => by rw [h2 j q0 q1])]
    exact i7
  · rw [cn_congr (P := fun a => 0 ≤ bl' a) (Q := fun a => 0 ≤ bl a) 96 (fun j q0 q1 => by rw [h3 j q0 q1]), cn_congr (P := fun b => ow' b < 0) (Q := fun b => ow b < 0) 64 (fun j q0 q1 => by rw [h2 j q0 q1])]
    exact i8
theorem Dsk.congr {vow vbt vki vpl vva vwr wow wbt wki wpl wva wwr bt ow bl wr wa ki bt' ow' bl' wr' wa' ki' : Int → Int} (hD : Dsk vow vbt vki vpl vva vwr bt ow bl wr wa ki) (h1 : QE 64 bt' bt) (h2 : QE 64 ow' ow) (h3 : QE 96 bl' bl) (h4 : QE 96 wr' wr) (h5 : QE 96 wa' wa) (h6 : QE 4 ki' ki)
    (g1 : QE 64 wbt vbt) (g2 : QE 64 wow vow) (g3 : QE 96 wpl vpl) (g4 : QE 96 wwr vwr) (g5 : QE 96 wva vva) (g6 : QE 4 wki vki) : Dsk wow wbt wki wpl wva wwr bt' ow' bl' wr' wa' ki' := by
  obtain ⟨d1, d2, d3, d4, d5, d6⟩ := hD
  refine ⟨fun j q0 q1 => ?_, fun j q0 q1 => ?_, fun j q0 q1 => ?_, fun j q0 q1 => ?_, fun j q0 q1 => ?_, fun j q0 q1 => ?_⟩
  · rw [g2 j q0 q1, h2 j q0 q1]
    exact d1 j q0 q1
  · rw [g1 j q0 q1, h1 j q0 q1]
    exact d2 j q0 q1
  · rw [g6 j q0 q1, h6 j q0 q1]
    exact d3 j q0 q1
  · rw [g3 j q0 q1, h3 j q0 q1]
    exact d4 j q0 q1
  · rw [g5 j q0 q1, h5 j q0 q1]
    exact d5 j q0 q1
  · rw [g4 j q0 q1, h4 j q0 q1]
    exact d6 j q0 q1
theorem QE.rf {N : Int} {f : Int → Int} : QE N f f := fun _ _ _ => rfl
theorem QE.sy {N : Int} {f g : Int → Int} (h : QE N f g) : QE N g f := fun j h0 h1 => (h j h0 h1).symm
theorem QE.tr {N : Int} {f g k : Int → Int} (h : QE N f g) (h2 : QE N g k) : QE N f k := fun j h0 h1 => (h j h0 h1).trans (h2 j h0 h1)
theorem copy_loop {a b c d e qa qb qc qd qe qw : Int → Int} (hw : ∀ j : Int, 0 ≤ j → j < 96 → qw j = 0 ∨ qw j = 1) : ∀ (n : Nat) (i : Int) (fuel : Nat) (w : Int → Int), 0 ≤ i → i + n = 96 → n < fuel → ∃ w', m_Disk_copyFrom_76 fuel i a b c d e w qa qb qc qd qe qw = some (a, b, c, d, e, w') ∧ (∀ j : Int, i ≤ j → j < 96 → w' j = qw j) ∧ (∀ j : Int, j < i → w' j = w j) := by
  intro n
  induction n with
  | zero =>
    intro i fuel w h0 h1 h2
    cases fuel with
    | zero => omega
    | succ fuel => exact ⟨w, by rw [m_Disk_copyFrom_76, clt_f (by omega)], fun j h3 h4 => by omega, fun j _ => rfl⟩
  | succ n ih =>
    intro i fuel w h0 h1 h2
    cases fuel with
    | zero => omega
    | succ fuel =>
      have hwi := hw i h0 (by omega)
      obtain ⟨w', e1, e2, e3⟩ := ih (i + 1) fuel (uf w i (qw i)) (by omega) (by omega) (by omega)
      refine ⟨w', by rw [m_Disk_copyFrom_76, clt_t (by omega), clt_t (by omega), gd_x (by omega), gd_xb ⟨by omega, hwi⟩]; exact e1, fun j h3 h4 => ?_, fun j h3 => ?_⟩
      · by_cases hj : j = i
        · subst hj
          rw [e3 _ (by omega), uf_s]
        · exact e2 j (by omega) h4
      · rw [e3 j (by omega), uf_n (by omega)]
theorem pD_copy {a b c d e w qa qb qc qd qe qw : Int → Int} (hw : ∀ j : Int, 0 ≤ j → j < 96 → qw j = 0 ∨ qw j = 1) : ∃ w', m_Disk_copyFrom a b c d e w qa qb qc qd qe qw = some (qa, qb, qc, qd, qe, w') ∧ QE 96 w' qw := by
  obtain ⟨w', e1, e2, -⟩ := copy_loop (a := qa) (b := qb) (c := qc) (d := qd) (e := qe) (qa := qa) (qb := qb) (qc := qc) (qd := qd) (qe := qe) hw 96 0 5000 w (by omega) (by omega) (by omega)
  exact ⟨w', e1, e2⟩
