/-! the nearest run, how many, the greatest size, what holds, stripes -/
section NEARS
variable {ow : Int → Int} {rm : Int} {rs rz : Int → Int}
def dst (a b : Int) : Int := if a < b then b - a else a - b
theorem p_apart {a b : Int} (ha : -1000 ≤ a ∧ a ≤ 1000) (hb : -1000 ≤ b ∧ b ≤ 1000) : m_Mod_apart a b = some (dst a b) := by
  unfold m_Mod_apart dst
  by_cases h : a < b
  · rw [clt_t (by omega), if_pos h]
  · rw [clt_f (by omega), if_neg h]
theorem dst_bd {a b : Int} (ha : 0 ≤ a ∧ a < 64) (hb : 0 ≤ b ∧ b < 64) : 0 ≤ dst a b ∧ dst a b < 64 := by
  unfold dst
  split <;> omega
theorem closest_row {fuel : Nat} {to n t1 t2 i : Int} (R : RunsTo ow 64 rm rs rz) (ht : 0 ≤ to ∧ to < 64) (hn : -1000 ≤ n ∧ n ≤ 1000) (h0 : 0 ≤ i) (h1 : i < rm) (h2 : 0 ≤ t2 ∧ t2 ≤ 64) : m_Runs_closestTo_9 (fuel + 1) to n t1 t2 i rm rs rz = if n ≤ rz i ∧ dst (rs i) to < t2 then m_Runs_closestTo_9 fuel to n i (dst (rs i) to) (i + 1) rm rs rz else m_Runs_closestTo_9 fuel to n t1 t2 (i + 1) rm rs rz := by
  have ha := R.at h0 h1
  have hd := dst_bd (a := rs i) (b := to) ⟨by omega, by omega⟩ ht
  have key : ∀ z : Int, z = dst (rs i) to → (gd (zx i 32) (clt (rz i) n (m_Runs_closestTo_9 fuel to n t1 t2 (i + 1) rm rs rz) (clt z t2 (m_Runs_closestTo_9 fuel to n i z (i + 1) rm rs rz) (m_Runs_closestTo_9 fuel to n t1 t2 (i + 1) rm rs rz)))) = if n ≤ rz i ∧ dst (rs i) to < t2 then m_Runs_closestTo_9 fuel to n i (dst (rs i) to) (i + 1) rm rs rz else m_Runs_closestTo_9 fuel to n t1 t2 (i + 1) rm rs rz := by
    intro z hz
    subst hz
    rw [gd_x (by omega)]
    by_cases h3 : rz i < n
    · rw [clt_t (by omega), if_neg (by omega)]
    · rw [clt_f (by omega)]
      by_cases h4 : dst (rs i) to < t2
      · rw [clt_t (by omega), if_pos ⟨by omega, h4⟩]
      · rw [clt_f (by omega), if_neg (fun q => h4 q.2)]
  rw [m_Runs_closestTo_9, clt_t (by omega), clt_t (by omega), clt_t (by omega), gd_x (by omega)]
  simp only [jn_s]
  by_cases h3 : rs i < to
  · rw [clt_t (by omega), gd_x (by omega)]
    exact key _ (by unfold dst; rw [if_pos h3])
  · rw [clt_f (by omega), gd_x (by omega)]
    exact key _ (by unfold dst; rw [if_neg h3])
theorem p_nearest (hb : ∀ b : Int, 0 ≤ b → b < 64 → -9 ≤ ow b ∧ ow b < 96) (R : RunsTo ow 64 rm rs rz) {to n : Int} (ht : 0 ≤ to ∧ to < 64) (hn : -1000 ≤ n ∧ n ≤ 1000) : ∃ u v, m_Mod_nearestOf to n ow = some u ∧ m_Runs_closestTo to n rm rs rz = some v ∧ ((u = -9 ∧ v = -1 ∧ ∀ j : Int, 0 ≤ j → j < rm → rz j < n) ∨ (0 ≤ v ∧ v < rm ∧ u = rs v ∧ n ≤ rz v)) := by
  refine run_scan R (fun fuel s b => m_Mod_nearestOf_6 fuel to n s b ow) (fun fuel (t : Int × Int) i => m_Runs_closestTo_9 fuel to n t.1 t.2 i rm rs rz) (fun s t i => (s = -9 ∧ t = (-1, 64) ∧ ∀ j : Int, 0 ≤ j → j < i → rz j < n) ∨ (0 ≤ t.1 ∧ t.1 < i ∧ s = rs t.1 ∧ t.2 = dst (rs t.1) to ∧ n ≤ rz t.1)) _ (-9) (-1, 64) (Or.inl ⟨rfl, rfl, fun j q0 q1 => by omega⟩) (fun fuel s b h0 h1 h2 => ?_) (fun s t i h0 h1 hR => ?_) (fun s t hR => ?_)
  · show m_Mod_nearestOf_6 (fuel + 1) to n s b ow = m_Mod_nearestOf_6 fuel to n s (b + 1) ow
    rw [m_Mod_nearestOf_6, clt_t (by omega), pM_beg0 hb ⟨h0, h1⟩ h2, bnd_s, ceq_t (by omega)]
  · have ha := R.at h0 h1
    have hg := pM_beg hb (b := rs i) ⟨by omega, by omega⟩ (R.run h0 h1)
    have hz := pM_size_at hb R h0 h1
    have hd := dst_bd (a := rs i) (b := to) ⟨by omega, by omega⟩ ht
    obtain ⟨t1, t2⟩ := t
    left
    by_cases h2 : rz i < n
    · refine ⟨s, (t1, t2), fun fuel => ?_, fun fuel => ?_, ?_⟩
      · show m_Mod_nearestOf_6 (fuel + 1) to n s (rs i) ow = m_Mod_nearestOf_6 fuel to n s (rs i + 1) ow
        rw [m_Mod_nearestOf_6, clt_t (by omega), hg, bnd_s, ceq_f (by omega), hz, bnd_s, clt_t (by omega)]
      · show m_Runs_closestTo_9 (fuel + 1) to n t1 t2 i rm rs rz = m_Runs_closestTo_9 fuel to n t1 t2 (i + 1) rm rs rz
        rw [closest_row R ht hn h0 h1, if_neg (by omega)]
        rcases hR with ⟨e1, e2, e3⟩ | ⟨e1, e2, e3, e4, e5⟩
        · cases e2
          omega
        · have e4 : t2 = dst (rs t1) to := e4
          have e1 : 0 ≤ t1 := e1
          have e2 : t1 < i := e2
          have hat := R.at e1 (show t1 < rm by omega)
          have := dst_bd (a := rs t1) (b := to) ⟨by omega, by omega⟩ ht
          omega
      · rcases hR with ⟨e1, e2, e3⟩ | ⟨e1, e2, e3, e4, e5⟩
        · refine Or.inl ⟨e1, e2, fun j q0 q1 => ?_⟩
          by_cases q : j = i
          · rw [q]
            exact h2
          · exact e3 j q0 (by omega)
        · exact Or.inr ⟨e1, by omega, e3, e4, e5⟩
    · rcases hR with ⟨e1, e2, e3⟩ | ⟨e1, e2, e3, e4, e5⟩
      · subst e1
        cases e2
        refine ⟨rs i, (i, dst (rs i) to), fun fuel => ?_, fun fuel => ?_, Or.inr ⟨h0, by show i < i + 1; omega, rfl, rfl, by show n ≤ rz i; omega⟩⟩
        · show m_Mod_nearestOf_6 (fuel + 1) to n (-9) (rs i) ow = m_Mod_nearestOf_6 fuel to n (rs i) (rs i + 1) ow
          rw [m_Mod_nearestOf_6, clt_t (by omega), hg, bnd_s, ceq_f (by omega), hz, bnd_s, clt_f (by omega), clt_t (by omega)]
        · show m_Runs_closestTo_9 (fuel + 1) to n (-1) 64 i rm rs rz = m_Runs_closestTo_9 fuel to n i (dst (rs i) to) (i + 1) rm rs rz
          rw [closest_row R ht hn h0 h1 (by omega), if_pos (by omega)]
      · have e1 : 0 ≤ t1 := e1
        have e2 : t1 < i := e2
        have e3 : s = rs t1 := e3
        have e4 : t2 = dst (rs t1) to := e4
        have e5 : n ≤ rz t1 := e5
        subst e3
        subst e4
        have hat := R.at e1 (show t1 < rm by omega)
        have hdt := dst_bd (a := rs t1) (b := to) ⟨by omega, by omega⟩ ht
        by_cases h3 : dst (rs i) to < dst (rs t1) to
        · refine ⟨rs i, (i, dst (rs i) to), fun fuel => ?_, fun fuel => ?_, Or.inr ⟨h0, by show i < i + 1; omega, rfl, rfl, by show n ≤ rz i; omega⟩⟩
          · show m_Mod_nearestOf_6 (fuel + 1) to n (rs t1) (rs i) ow = m_Mod_nearestOf_6 fuel to n (rs i) (rs i + 1) ow
            rw [m_Mod_nearestOf_6, clt_t (by omega), hg, bnd_s, ceq_f (by omega), hz, bnd_s, clt_f (by omega), clt_f (by omega), p_apart (by omega) (by omega), bnd_s, p_apart (by omega) (by omega), bnd_s, clt_t (by omega)]
          · show m_Runs_closestTo_9 (fuel + 1) to n t1 (dst (rs t1) to) i rm rs rz = m_Runs_closestTo_9 fuel to n i (dst (rs i) to) (i + 1) rm rs rz
            rw [closest_row R ht hn h0 h1 (by omega), if_pos (by omega)]
        · refine ⟨rs t1, (t1, dst (rs t1) to), fun fuel => ?_, fun fuel => ?_, Or.inr ⟨e1, by show t1 < i + 1; omega, rfl, rfl, e5⟩⟩
          · show m_Mod_nearestOf_6 (fuel + 1) to n (rs t1) (rs i) ow = m_Mod_nearestOf_6 fuel to n (rs t1) (rs i + 1) ow
            rw [m_Mod_nearestOf_6, clt_t (by omega), hg, bnd_s, ceq_f (by omega), hz, bnd_s, clt_f (by omega), clt_f (by omega), p_apart (by omega) (by omega), bnd_s, p_apart (by omega) (by omega), bnd_s, clt_f (by omega)]
          · show m_Runs_closestTo_9 (fuel + 1) to n t1 (dst (rs t1) to) i rm rs rz = m_Runs_closestTo_9 fuel to n t1 (dst (rs t1) to) (i + 1) rm rs rz
            rw [closest_row R ht hn h0 h1 (by omega), if_neg (by omega)]
  · obtain ⟨t1, t2⟩ := t
    have hm := R.many (by omega)
    have hm0 := R.1
    refine ⟨s, t1, fun fuel => ?_, fun fuel => ?_, ?_⟩
    · show m_Mod_nearestOf_6 (fuel + 1) to n s 64 ow = some s
      rw [m_Mod_nearestOf_6, clt_f (by omega)]
    · show m_Runs_closestTo_9 (fuel + 1) to n t1 t2 rm rm rs rz = some t1
      rw [m_Runs_closestTo_9, clt_f (by omega)]
    · rcases hR with ⟨e1, e2, e3⟩ | ⟨e1, e2, e3, e4, e5⟩
      · cases e2
        exact Or.inl ⟨e1, rfl, e3⟩
      · exact Or.inr ⟨e1, e2, e3, e5⟩
theorem p_runs (hb : ∀ b : Int, 0 ≤ b → b < 64 → -9 ≤ ow b ∧ ow b < 96) (R : RunsTo ow 64 rm rs rz) : m_Mod_runs ow = some rm := by
  obtain ⟨u, v, e1, -, e3⟩ := run_scan R (fun fuel s b => m_Mod_runs_4 fuel s b ow) (fun _ (_ : Unit) _ => some ()) (fun s _ i => s = i) (fun u _ => u = rm) 0 () rfl (fun fuel s b h0 h1 h2 => by
      show m_Mod_runs_4 (fuel + 1) s b ow = m_Mod_runs_4 fuel s (b + 1) ow
      rw [m_Mod_runs_4, clt_t (by omega), pM_beg0 hb ⟨h0, h1⟩ h2, bnd_s, ceq_t (by omega), Int.add_zero]) (fun s t i h0 h1 hR => by
      have ha := R.at h0 h1
      refine Or.inl ⟨s + 1, (), fun fuel => ?_, fun _ => rfl, by rw [hR]⟩
      show m_Mod_runs_4 (fuel + 1) s (rs i) ow = m_Mod_runs_4 fuel (s + 1) (rs i + 1) ow
      rw [m_Mod_runs_4, clt_t (by omega), pM_beg hb (b := rs i) ⟨by omega, by omega⟩ (R.run h0 h1), bnd_s, ceq_f (by omega)]) (fun s t hR => ⟨s, (), fun fuel => by
      show m_Mod_runs_4 (fuel + 1) s 64 ow = some s
      rw [m_Mod_runs_4, clt_f (by omega)], fun _ => rfl, hR⟩)
  subst e3
  exact e1
theorem p_startAt {i : Int} (h0 : 0 ≤ i) (h1 : i < rm) (h2 : rm ≤ 32) : m_Runs_startAt i rm rs = some (rs i) := by
  unfold m_Runs_startAt
  rw [clt_f (by omega), clt_t (by omega), clt_t (by omega), gd_x (by omega)]
theorem p_startAt_no : m_Runs_startAt (-1) rm rs = some (-1) := by
  unfold m_Runs_startAt
  rw [clt_t (by omega)]
theorem p_sizeAt {i : Int} (h0 : 0 ≤ i) (h1 : i < rm) (h2 : rm ≤ 32) : m_Runs_sizeAt i rm rz = some (rz i) := by
  unfold m_Runs_sizeAt
  rw [clt_f (by omega), clt_t (by omega), clt_t (by omega), gd_x (by omega)]
theorem p_sizeAt_no : m_Runs_sizeAt (-1) rm rz = some 0 := by
  unfold m_Runs_sizeAt
  rw [clt_t (by omega)]
/-- the greatest size: of the reference and of the runs -/
theorem p_great (hb : ∀ b : Int, 0 ≤ b → b < 64 → -9 ≤ ow b ∧ ow b < 96) (R : RunsTo ow 64 rm rs rz) : ∃ u v g, m_Mod_greatest ow = some u ∧ m_Runs_greatest rm rz = some v ∧ m_Mod_greatestSize ow = some g ∧ m_Runs_sizeAt v rm rz = some g ∧ 0 ≤ g ∧ g ≤ 64 ∧ (∀ j : Int, 0 ≤ j → j < rm → rz j ≤ g) ∧ ((u = -9 ∧ v = -1 ∧ rm = 0 ∧ g = 0) ∨ (0 ≤ v ∧ v < rm ∧ u = rs v ∧ g = rz v)) := by
  obtain ⟨u, v, e1, e2, e3⟩ := p_greatest hb R
  rcases e3 with ⟨q1, q2, q3⟩ | ⟨q1, q2, q3, q4⟩
  · refine ⟨u, v, 0, e1, e2, ?_, ?_, by omega, by omega, fun j h0 h1 => by omega, Or.inl ⟨q1, q2, q3, rfl⟩⟩
    · unfold m_Mod_greatestSize
      rw [e1, bnd_s, clt_t (by omega)]
    · rw [q2, p_sizeAt_no]
  · have ha := R.at q1 q2
    refine ⟨u, v, rz v, e1, e2, ?_, ?_, by omega, by omega, q4, Or.inr ⟨q1, q2, q3, rfl⟩⟩
    · unfold m_Mod_greatestSize
      rw [e1, bnd_s, clt_f (by omega), q3, pM_size_at hb R q1 q2, bnd_s]
    · exact p_sizeAt q1 q2 (by omega)
/-- n blocks on end from b on are free -/
def fre (ow : Int → Int) (b n : Int) : Prop := b + n ≤ 64 ∧ ∀ j : Int, b ≤ j → j < b + n → ow j < 0
theorem rsz.fre {b z n : Int} (h : rsz ow b z) : n ≤ z ↔ fre ow b n := by
  obtain ⟨h1, h2, h3, h4⟩ := h
  refine ⟨fun q => ⟨by omega, fun j q0 q1 => h3 j q0 (by omega)⟩, fun q => ?_⟩
  by_cases q2 : n ≤ z
  · exact q2
  · rcases h4 with h4 | h4
    · have := q.1
      omega
    · exact absurd (q.2 (b + z) (by omega) (by omega)) h4
theorem RunsTo.fre (R : RunsTo ow 64 rm rs rz) {b n : Int} (h0 : 0 ≤ b) (hn : 1 ≤ n) : fre ow b n ↔ ∃ i : Int, 0 ≤ i ∧ i < rm ∧ rs i ≤ b ∧ b + n ≤ rs i + rz i := by
  constructor
  · rintro ⟨h1, h2⟩
    obtain ⟨i, i0, i1, i2, i3⟩ := R.2.2.2 b h0 (by omega) (h2 b (by omega) (by omega))
    refine ⟨i, i0, i1, i2, ?_⟩
    obtain ⟨⟨r1, r2, r3, r4, r5, r6⟩, -⟩ := R.2.1 i i0 i1
    by_cases q : b + n ≤ rs i + rz i
    · exact q
    · rcases r6 with r6 | r6
      · omega
      · exact absurd (h2 (rs i + rz i) (by omega) (by omega)) r6
  · rintro ⟨i, i0, i1, i2, i3⟩
    obtain ⟨⟨r1, r2, r3, r4, r5, r6⟩, -⟩ := R.2.1 i i0 i1
    exact ⟨by omega, fun j q0 q1 => r4 j (by omega) (by omega)⟩
theorem holds_loop (R : RunsTo ow 64 rm rs rz) {b n : Int} (hb : -1 ≤ b ∧ b < 64) (hn : 1 ≤ n ∧ n ≤ 64) : ∀ (d : Nat) (i : Int) (fuel : Nat), 0 ≤ i → i + d = rm → d < fuel → ((∃ j : Int, i ≤ j ∧ j < rm ∧ rs j ≤ b ∧ b + n ≤ rs j + rz j) ∧ m_Runs_holds_2 fuel b n i rm rs rz = some 1) ∨ ((¬ ∃ j : Int, i ≤ j ∧ j < rm ∧ rs j ≤ b ∧ b + n ≤ rs j + rz j) ∧ m_Runs_holds_2 fuel b n i rm rs rz = some 0) := by
  have hm := R.many (by omega)
  intro d
  induction d with
  | zero =>
    intro i fuel h0 h1 h2
    cases fuel with
    | zero => omega
    | succ fuel => exact Or.inr ⟨fun ⟨j, q0, q1, _, _⟩ => by omega, by rw [m_Runs_holds_2, clt_f (by omega)]⟩
  | succ d ih =>
    intro i fuel h0 h1 h2
    cases fuel with
    | zero => omega
    | succ fuel =>
      have ha := R.at h0 (show i < rm by omega)
      rw [m_Runs_holds_2, clt_t (by omega), clt_t (by omega), clt_t (by omega), gd_x (by omega)]
      by_cases h3 : rs i ≤ b
      · rw [cle_t (by omega), gd_x (by omega), gd_x (by omega)]
        by_cases h4 : b + n ≤ rs i + rz i
        · rw [cle_t (by omega)]
          exact Or.inl ⟨⟨i, by omega, by omega, h3, h4⟩, rfl⟩
        · rw [cle_f (by omega)]
          rcases ih (i + 1) fuel (by omega) (by omega) (by omega) with ⟨⟨j, q0, q1, q2, q3⟩, e⟩ | ⟨q, e⟩
          · exact Or.inl ⟨⟨j, by omega, q1, q2, q3⟩, e⟩
          · refine Or.inr ⟨fun ⟨j, q0, q1, q2, q3⟩ => ?_, e⟩
            by_cases q4 : j = i
            · rw [q4] at q3
              exact h4 q3
            · exact q ⟨j, by omega, q1, q2, q3⟩
      · rw [cle_f (by omega)]
        rcases ih (i + 1) fuel (by omega) (by omega) (by omega) with ⟨⟨j, q0, q1, q2, q3⟩, e⟩ | ⟨q, e⟩
        · exact Or.inl ⟨⟨j, by omega, q1, q2, q3⟩, e⟩
        · refine Or.inr ⟨fun ⟨j, q0, q1, q2, q3⟩ => ?_, e⟩
          by_cases q4 : j = i
          · rw [q4] at q2
            exact h3 q2
          · exact q ⟨j, by omega, q1, q2, q3⟩
theorem p_holds (R : RunsTo ow 64 rm rs rz) {b n : Int} (hb : 0 ≤ b ∧ b < 64) (hn : 1 ≤ n ∧ n ≤ 64) : (fre ow b n ∧ m_Runs_holds b n rm rs rz = some 1) ∨ (¬ fre ow b n ∧ m_Runs_holds b n rm rs rz = some 0) := by
  have hm := R.many (by omega)
  have hm0 := R.1
  rcases holds_loop R (b := b) (n := n) ⟨by omega, hb.2⟩ hn rm.toNat 0 5000 (by omega) (by omega) (by omega) with ⟨q, e⟩ | ⟨q, e⟩
  · exact Or.inl ⟨(R.fre hb.1 hn.1).mpr q, e⟩
  · exact Or.inr ⟨fun q2 => q ((R.fre hb.1 hn.1).mp q2), e⟩
theorem p_holds_no (R : RunsTo ow 64 rm rs rz) {n : Int} (hn : 1 ≤ n ∧ n ≤ 64) : m_Runs_holds (-1) n rm rs rz = some 0 := by
  have hm := R.many (by omega)
  have hm0 := R.1
  rcases holds_loop R (b := -1) (n := n) ⟨by omega, by omega⟩ hn rm.toNat 0 5000 (by omega) (by omega) (by omega) with ⟨⟨j, q0, q1, q2, q3⟩, e⟩ | ⟨q, e⟩
  · have := R.at q0 q1
    omega
  · exact e
theorem p_nearPlace (hb : ∀ b : Int, 0 ≤ b → b < 64 → -9 ≤ ow b ∧ ow b < 96) {b n : Int} (h : 0 ≤ b ∧ b < 64) (hn : 1 ≤ n ∧ n ≤ 64) : (fre ow b n ∧ m_Mod_nearPlace b n ow = some b) ∨ (¬ fre ow b n ∧ m_Mod_nearPlace b n ow = some (-9)) := by
  obtain ⟨z, e, hz⟩ := pM_runSize hb (b := b) ⟨by omega, by omega⟩
  have h1 := hz.1
  have h2 := hz.2.1
  unfold m_Mod_nearPlace
  rw [clt_f (by omega), e, bnd_s]
  by_cases q : n ≤ z
  · rw [clt_f (by omega)]
    exact Or.inl ⟨hz.fre.mp q, rfl⟩
  · rw [clt_t (by omega)]
    exact Or.inr ⟨fun q2 => q (hz.fre.mpr q2), rfl⟩
/-- the first multiple of 4 from which on n blocks are free -/
def isStr (ow : Int → Int) (n u : Int) : Prop := 0 ≤ u ∧ u % 4 = 0 ∧ fre ow u n ∧ ∀ j : Int, 0 ≤ j → j < u → j % 4 = 0 → ¬ fre ow j n
theorem isStr.eq {n u v : Int} (h : isStr ow n u) (g : isStr ow n v) : u = v := by
  by_cases q : u < v
  · exact absurd h.2.2.1 (g.2.2.2 u h.1 q h.2.1)
  · by_cases q2 : v < u
    · exact absurd g.2.2.1 (h.2.2.2 v g.1 q2 g.2.1)
    · omega
theorem stripeM (hb : ∀ b : Int, 0 ≤ b → b < 64 → -9 ≤ ow b ∧ ow b < 96) {n : Int} (hn : 1 ≤ n ∧ n ≤ 64) : ∀ (d : Nat) (b : Int) (fuel : Nat), 0 ≤ b → b + 4 * d = 64 → d < fuel → (∀ j : Int, 0 ≤ j → j < b → j % 4 = 0 → ¬ fre ow j n) → (∃ u, isStr ow n u ∧ m_Mod_stripeOf_2 fuel n b ow = some u) ∨ ((∀ j : Int, 0 ≤ j → j % 4 = 0 → ¬ fre ow j n) ∧ m_Mod_stripeOf_2 fuel n b ow = some (-9)) := by
  intro d
  induction d with
  | zero =>
    intro b fuel h0 h1 h2 h3
    cases fuel with
    | zero => omega
    | succ fuel =>
      refine Or.inr ⟨fun j q0 q1 q2 => ?_, by rw [m_Mod_stripeOf_2, clt_f (by omega)]⟩
      have := q2.1
      exact h3 j q0 (by omega) q1 q2
  | succ d ih =>
    intro b fuel h0 h1 h2 h3
    cases fuel with
    | zero => omega
    | succ fuel =>
      obtain ⟨z, e, hz⟩ := pM_runSize hb (b := b) ⟨by omega, by omega⟩
      have hz1 := hz.1
      have hz2 := hz.2.1
      rw [m_Mod_stripeOf_2, clt_t (by omega), e, bnd_s]
      by_cases q : n ≤ z
      · rw [clt_f (by omega)]
        exact Or.inl ⟨b, ⟨h0, by omega, hz.fre.mp q, h3⟩, rfl⟩
      · rw [clt_t (by omega)]
        refine ih (b + 4) fuel (by omega) (by omega) (by omega) (fun j q0 q1 q2 => ?_)
        by_cases q3 : j = b
        · rw [q3]
          exact fun q4 => q (hz.fre.mpr q4)
        · exact h3 j q0 (by omega) q2
theorem stripeD (R : RunsTo ow 64 rm rs rz) {n : Int} (hn : 1 ≤ n ∧ n ≤ 64) : ∀ (d : Nat) (i : Int) (fuel : Nat), 0 ≤ i → i + d = rm → d < fuel → (∀ j : Int, 0 ≤ j → j < i → ¬ ((rs j + 3) / 4 * 4 + n ≤ rs j + rz j)) → (∃ u, isStr ow n u ∧ m_Runs_firstStripe_2 fuel n i rm rs rz = some u) ∨ ((∀ j : Int, 0 ≤ j → j % 4 = 0 → ¬ fre ow j n) ∧ m_Runs_firstStripe_2 fuel n i rm rs rz = some (-1)) := by
  have hm := R.many (by omega)
  intro d
  induction d with
  | zero =>
    intro i fuel h0 h1 h2 h3
    cases fuel with
    | zero => omega
    | succ fuel =>
      refine Or.inr ⟨fun j q0 q1 q2 => ?_, by rw [m_Runs_firstStripe_2, clt_f (by omega)]⟩
      obtain ⟨k, k0, k1, k2, k3⟩ := (R.fre q0 hn.1).mp q2
      exact h3 k k0 (by omega) (by omega)
  | succ d ih =>
    intro i fuel h0 h1 h2 h3
    cases fuel with
    | zero => omega
    | succ fuel =>
      have ha := R.at h0 (show i < rm by omega)
      rw [m_Runs_firstStripe_2, clt_t (by omega), clt_t (by omega), clt_t (by omega), gd_x (by omega), gd_xz (by omega), gd_x (by omega), gd_x (by omega), show rs i + 4 - 1 = rs i + 3 by omega]
      by_cases q : (rs i + 3) / 4 * 4 + n ≤ rs i + rz i
      · rw [cle_t (by omega)]
        refine Or.inl ⟨_, ⟨by omega, by omega, (R.fre (by omega) hn.1).mpr ⟨i, h0, by omega, by omega, q⟩, fun j q0 q1 q2 q3 => ?_⟩, rfl⟩
        obtain ⟨k, k0, k1, k2, k3⟩ := (R.fre q0 hn.1).mp q3
        by_cases c : k < i
        · exact h3 k k0 c (by omega)
        · by_cases c2 : k = i
          · subst c2
            omega
          · have := R.lt h0 (show i < k by omega) k1
            omega
      · rw [cle_f (by omega)]
        refine ih (i + 1) fuel (by omega) (by omega) (by omega) (fun j q0 q1 => ?_)
        by_cases c : j = i
        · rw [c]
          exact q
        · exact h3 j q0 (by omega)
theorem p_stripe (hb : ∀ b : Int, 0 ≤ b → b < 64 → -9 ≤ ow b ∧ ow b < 96) (R : RunsTo ow 64 rm rs rz) {n : Int} (hn : 1 ≤ n ∧ n ≤ 64) : (∃ u, 0 ≤ u ∧ fre ow u n ∧ m_Mod_stripeOf n ow = some u ∧ m_Runs_firstStripe n rm rs rz = some u) ∨ (m_Mod_stripeOf n ow = some (-9) ∧ m_Runs_firstStripe n rm rs rz = some (-1)) := by
  have hm := R.many (by omega)
  have hm0 := R.1
  rcases stripeM hb hn 16 0 5000 (by omega) (by omega) (by omega) (fun j q0 q1 => by omega) with ⟨u, s1, e1⟩ | ⟨s1, e1⟩
  · rcases stripeD R hn rm.toNat 0 5000 (by omega) (by omega) (by omega) (fun j q0 q1 => by omega) with ⟨v, s2, e2⟩ | ⟨s2, e2⟩
    · have := s1.eq s2
      subst this
      exact Or.inl ⟨u, s1.1, s1.2.2.1, e1, e2⟩
    · exact absurd s1.2.2.1 (s2 u s1.1 s1.2.1)
  · rcases stripeD R hn rm.toNat 0 5000 (by omega) (by omega) (by omega) (fun j q0 q1 => by omega) with ⟨v, s2, e2⟩ | ⟨s2, e2⟩
    · exact absurd s2.2.2.1 (s1 v s2.1 s2.2.1)
    · exact Or.inr ⟨e1, e2⟩
end NEARS
