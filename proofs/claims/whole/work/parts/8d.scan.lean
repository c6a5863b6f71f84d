/-! the reference's scans of the blocks, held against scans of the runs -/
def rsz (ow : Int → Int) (b z : Int) : Prop := 0 ≤ z ∧ b + z ≤ 64 ∧ (∀ j : Int, b ≤ j → j < b + z → ow j < 0) ∧ (b + z = 64 ∨ ¬ ow (b + z) < 0)
theorem rsz.eq {ow : Int → Int} {b z y : Int} (h : rsz ow b z) (g : rsz ow b y) : z = y := by
  obtain ⟨h1, h2, h3, h4⟩ := h
  obtain ⟨g1, g2, g3, g4⟩ := g
  by_cases q : z < y
  · rcases h4 with h4 | h4
    · omega
    · exact absurd (g3 (b + z) (by omega) (by omega)) h4
  · by_cases q2 : y < z
    · rcases g4 with g4 | g4
      · omega
      · exact absurd (h3 (b + y) (by omega) (by omega)) g4
    · omega
section SCAN
variable {ow : Int → Int} {rm : Int} {rs rz : Int → Int}
theorem pM_beginsRun (hb : ∀ b : Int, 0 ≤ b → b < 64 → -9 ≤ ow b ∧ ow b < 96) {b : Int} (h : 0 ≤ b ∧ b < 64) : (beg ow b ∧ m_Mod_beginsRun b ow = some 1) ∨ (¬ beg ow b ∧ m_Mod_beginsRun b ow = some 0) := by
  have h1 := hb b h.1 h.2
  unfold m_Mod_beginsRun
  rw [gd_x h]
  by_cases hf : ow b < 0
  · rw [clt_t (by omega)]
    by_cases h0 : b = 0
    · exact Or.inl ⟨⟨hf, Or.inl h0⟩, ceq_t (by omega)⟩
    · have h2 := hb (b - 1) (by omega) (by omega)
      rw [ceq_f (by omega), gd_x (by omega)]
      by_cases h3 : ow (b - 1) < 0
      · refine Or.inr ⟨fun q => ?_, clt_t (by omega)⟩
        rcases q.2 with q | q
        · exact h0 q
        · exact q h3
      · exact Or.inl ⟨⟨hf, Or.inr h3⟩, clt_f (by omega)⟩
  · exact Or.inr ⟨fun q => hf q.1, clt_f (by omega)⟩
theorem pM_beg (hb : ∀ b : Int, 0 ≤ b → b < 64 → -9 ≤ ow b ∧ ow b < 96) {b : Int} (h : 0 ≤ b ∧ b < 64) (hg : beg ow b) : m_Mod_beginsRun b ow = some 1 := by
  rcases pM_beginsRun hb h with ⟨-, e⟩ | ⟨q, -⟩
  · exact e
  · exact absurd hg q
theorem pM_beg0 (hb : ∀ b : Int, 0 ≤ b → b < 64 → -9 ≤ ow b ∧ ow b < 96) {b : Int} (h : 0 ≤ b ∧ b < 64) (hg : ¬ beg ow b) : m_Mod_beginsRun b ow = some 0 := by
  rcases pM_beginsRun hb h with ⟨q, -⟩ | ⟨-, e⟩
  · exact absurd q hg
  · exact e
theorem runSize_loop (hb : ∀ b : Int, 0 ≤ b → b < 64 → -9 ≤ ow b ∧ ow b < 96) {b : Int} (h0 : 0 ≤ b) : ∀ (d : Nat) (n : Int) (fuel : Nat), b + n + d = 64 → d < fuel → 0 ≤ n → (∀ j : Int, b ≤ j → j < b + n → ow j < 0) → ∃ z, m_Mod_runSize_2 fuel b n ow = some z ∧ rsz ow b z := by
  intro d
  induction d with
  | zero =>
    intro n fuel h1 h2 h3 h4
    cases fuel with
    | zero => omega
    | succ fuel =>
      rw [m_Mod_runSize_2, clt_f (by omega)]
      exact ⟨n, rfl, h3, by omega, h4, Or.inl (by omega)⟩
  | succ d ih =>
    intro n fuel h1 h2 h3 h4
    cases fuel with
    | zero => omega
    | succ fuel =>
      have h5 := hb (b + n) (by omega) (by omega)
      rw [m_Mod_runSize_2, clt_t (by omega), gd_x (by omega)]
      by_cases h6 : ow (b + n) < 0
      · rw [clt_t (by omega)]
        refine ih (n + 1) fuel (by omega) (by omega) (by omega) (fun j q0 q1 => ?_)
        by_cases q : j = b + n
        · rw [q]
          exact h6
        · exact h4 j q0 (by omega)
      · rw [clt_f (by omega)]
        exact ⟨n, rfl, h3, by omega, h4, Or.inr h6⟩
theorem pM_runSize (hb : ∀ b : Int, 0 ≤ b → b < 64 → -9 ≤ ow b ∧ ow b < 96) {b : Int} (h0 : 0 ≤ b ∧ b ≤ 64) : ∃ z, m_Mod_runSize b ow = some z ∧ rsz ow b z :=
  runSize_loop hb h0.1 (64 - b).toNat 0 5000 (by omega) (by omega) (by omega) (fun j q0 q1 => by omega)
theorem isRun.sz {s z : Int} (h : isRun ow s z) : rsz ow s z := by
  obtain ⟨r1, r2, r3, r4, r5, r6⟩ := h
  exact ⟨by omega, r3, r4, r6⟩
theorem RunsTo.at (R : RunsTo ow 64 rm rs rz) {i : Int} (h0 : 0 ≤ i) (h1 : i < rm) : (0 ≤ rs i ∧ 1 ≤ rz i ∧ rs i + rz i ≤ 64) ∧ 0 ≤ rm ∧ rm ≤ 32 := by
  obtain ⟨⟨r1, r2, r3, r4, r5, r6⟩, -⟩ := R.2.1 i h0 h1
  have := R.many (by omega)
  exact ⟨⟨r1, r2, r3⟩, R.1, this.1⟩
theorem pM_size_at (hb : ∀ b : Int, 0 ≤ b → b < 64 → -9 ≤ ow b ∧ ow b < 96) (R : RunsTo ow 64 rm rs rz) {i : Int} (h0 : 0 ≤ i) (h1 : i < rm) : m_Mod_runSize (rs i) ow = some (rz i) := by
  have ha := R.at h0 h1
  obtain ⟨z, e, hz⟩ := pM_runSize hb (b := rs i) ⟨by omega, by omega⟩
  rw [e, hz.eq (R.2.1 i h0 h1).1.sz]
theorem run_walk (R : RunsTo ow 64 rm rs rz) {S S' T T' : Type} (lpM : Nat → S → Int → Option S') (lpR : Nat → T → Int → Option T') (Rl : S → T → Int → Prop) (Out : S' → T' → Prop)
    (hskip : ∀ (fuel : Nat) (s : S) (b : Int), 0 ≤ b → b < 64 → ¬ beg ow b → lpM (fuel + 1) s b = lpM fuel s (b + 1))
    (hstep : ∀ (s : S) (t : T) (i : Int), 0 ≤ i → i < rm → Rl s t i →
      (∃ s' t', (∀ fuel, lpM (fuel + 1) s (rs i) = lpM fuel s' (rs i + 1)) ∧ (∀ fuel, lpR (fuel + 1) t i = lpR fuel t' (i + 1)) ∧ Rl s' t' (i + 1)) ∨
      (∃ u v, (∀ fuel, lpM (fuel + 1) s (rs i) = some u) ∧ (∀ fuel, lpR (fuel + 1) t i = some v) ∧ Out u v))
    (hend : ∀ (s : S) (t : T), Rl s t rm → ∃ u v, (∀ fuel, lpM (fuel + 1) s 64 = some u) ∧ (∀ fuel, lpR (fuel + 1) t rm = some v) ∧ Out u v) :
    ∀ (d : Nat) (b i : Int) (s : S) (t : T) (fM fR : Nat), b + d = 64 → d < fM → 0 ≤ b → 0 ≤ i → i ≤ rm → rm - i < fR → (∀ j : Int, 0 ≤ j → j < i → rs j < b) → (∀ j : Int, i ≤ j → j < rm → b ≤ rs j) → Rl s t i → ∃ u v, lpM fM s b = some u ∧ lpR fR t i = some v ∧ Out u v := by
  intro d
  induction d with
  | zero =>
    intro b i s t fM fR h1 h2 h3 h4 h5 h6 h7 h8 h9
    have hb : b = 64 := by omega
    subst hb
    have hi : i = rm := by
      by_cases q : i = rm
      · exact q
      · have q1 := h8 i (by omega) (by omega)
        have q2 := R.at h4 (show i < rm by omega)
        omega
    subst hi
    cases fM with
    | zero => omega
    | succ fM =>
      cases fR with
      | zero => omega
      | succ fR =>
        obtain ⟨u, v, e1, e2, e3⟩ := hend s t h9
        exact ⟨u, v, e1 fM, e2 fR, e3⟩
  | succ d ih =>
    intro b i s t fM fR h1 h2 h3 h4 h5 h6 h7 h8 h9
    cases fM with
    | zero => omega
    | succ fM =>
      by_cases hg : beg ow b
      · obtain ⟨j, j0, j1, j2⟩ := R.begs h3 (by omega) hg
        have hj : j = i := by
          by_cases q : j < i
          · have := h7 j j0 q
            omega
          · by_cases q2 : i < j
            · have q3 := R.lt h4 q2 j1
              have q4 := h8 i (by omega) (by omega)
              have q5 := R.at h4 (show i < rm by omega)
              omega
            · omega
        subst hj
        cases fR with
        | zero => omega
        | succ fR =>
          rcases hstep s t j h4 j1 h9 with ⟨s', t', e1, e2, e3⟩ | ⟨u, v, e1, e2, e3⟩
          · rw [← j2, e1 fM, e2 fR]
            refine ih (rs j + 1) (j + 1) s' t' fM fR (by omega) (by omega) (by omega) (by omega) (by omega) (by omega) (fun k q0 q1 => ?_) (fun k q0 q1 => ?_) e3
            · by_cases q : k = j
              · rw [q]
                omega
              · have := h7 k q0 (by omega)
                omega
            · have q3 := R.lt h4 (show j < k by omega) q1
              have q5 := R.at h4 j1
              omega
          · exact ⟨u, v, by rw [← j2]; exact e1 fM, e2 fR, e3⟩
      · rw [hskip fM s b h3 (by omega) hg]
        refine ih (b + 1) i s t fM fR (by omega) (by omega) (by omega) h4 h5 h6 (fun k q0 q1 => ?_) (fun k q0 q1 => ?_) h9
        · have := h7 k q0 q1
          omega
        · have q3 := h8 k q0 q1
          by_cases q4 : rs k = b
          · exact absurd (q4 ▸ R.run (i := k) (by omega) q1) hg
          · omega
theorem run_scan (R : RunsTo ow 64 rm rs rz) {S S' T T' : Type} (lpM : Nat → S → Int → Option S') (lpR : Nat → T → Int → Option T') (Rl : S → T → Int → Prop) (Out : S' → T' → Prop) (s : S) (t : T) (h0 : Rl s t 0)
    (hskip : ∀ (fuel : Nat) (s : S) (b : Int), 0 ≤ b → b < 64 → ¬ beg ow b → lpM (fuel + 1) s b = lpM fuel s (b + 1))
    (hstep : ∀ (s : S) (t : T) (i : Int), 0 ≤ i → i < rm → Rl s t i →
      (∃ s' t', (∀ fuel, lpM (fuel + 1) s (rs i) = lpM fuel s' (rs i + 1)) ∧ (∀ fuel, lpR (fuel + 1) t i = lpR fuel t' (i + 1)) ∧ Rl s' t' (i + 1)) ∨
      (∃ u v, (∀ fuel, lpM (fuel + 1) s (rs i) = some u) ∧ (∀ fuel, lpR (fuel + 1) t i = some v) ∧ Out u v))
    (hend : ∀ (s : S) (t : T), Rl s t rm → ∃ u v, (∀ fuel, lpM (fuel + 1) s 64 = some u) ∧ (∀ fuel, lpR (fuel + 1) t rm = some v) ∧ Out u v) :
    ∃ u v, lpM 5000 s 0 = some u ∧ lpR 5000 t 0 = some v ∧ Out u v := by
  have hm := R.many (by omega)
  have hm0 := R.1
  exact run_walk R lpM lpR Rl Out hskip hstep hend 64 0 0 s t 5000 5000 (by omega) (by omega) (by omega) (by omega) (by omega) (by omega) (fun j q0 q1 => by omega) (fun j q0 q1 => by have := R.at q0 q1; omega) h0
theorem p_fitOf (hb : ∀ b : Int, 0 ≤ b → b < 64 → -9 ≤ ow b ∧ ow b < 96) (R : RunsTo ow 64 rm rs rz) {n : Int} (hn : -1000 ≤ n ∧ n ≤ 1000) : ∃ u v, m_Mod_fitOf n ow = some u ∧ m_Runs_leastFor n rm rz = some v ∧ ((u = -9 ∧ v = -1 ∧ ∀ j : Int, 0 ≤ j → j < rm → rz j < n) ∨ (0 ≤ v ∧ v < rm ∧ u = rs v ∧ n ≤ rz v)) := by
  refine run_scan R (fun fuel s b => m_Mod_fitOf_5 fuel n s b ow) (fun fuel (t : Int × Int) i => m_Runs_leastFor_8 fuel n t.1 t.2 i rm rz) (fun s t i => (s = -9 ∧ t = (-1, 65) ∧ ∀ j : Int, 0 ≤ j → j < i → rz j < n) ∨ (0 ≤ t.1 ∧ t.1 < i ∧ s = rs t.1 ∧ t.2 = rz t.1 ∧ n ≤ rz t.1)) _ (-9) (-1, 65) (Or.inl ⟨rfl, rfl, fun j q0 q1 => by omega⟩) (fun fuel s b h0 h1 h2 => ?_) (fun s t i h0 h1 hR => ?_) (fun s t hR => ?_)
  · show m_Mod_fitOf_5 (fuel + 1) n s b ow = m_Mod_fitOf_5 fuel n s (b + 1) ow
    rw [m_Mod_fitOf_5, clt_t (by omega), pM_beg0 hb ⟨h0, h1⟩ h2, bnd_s, ceq_t (by omega)]
  · have ha := R.at h0 h1
    have hg := pM_beg hb (b := rs i) ⟨by omega, by omega⟩ (R.run h0 h1)
    have hz := pM_size_at hb R h0 h1
    obtain ⟨t1, t2⟩ := t
    left
    by_cases h2 : rz i < n
    · refine ⟨s, (t1, t2), fun fuel => ?_, fun fuel => ?_, ?_⟩
      · show m_Mod_fitOf_5 (fuel + 1) n s (rs i) ow = m_Mod_fitOf_5 fuel n s (rs i + 1) ow
        rw [m_Mod_fitOf_5, clt_t (by omega), hg, bnd_s, ceq_f (by omega), hz, bnd_s, clt_t (by omega)]
      · show m_Runs_leastFor_8 (fuel + 1) n t1 t2 i rm rz = m_Runs_leastFor_8 fuel n t1 t2 (i + 1) rm rz
        rw [m_Runs_leastFor_8, clt_t (by omega), clt_t (by omega), gd_x (by omega), clt_t (by omega)]
      · rcases hR with ⟨e1, e2, e3⟩ | ⟨e1, e2, e3, e4, e5⟩
        · refine Or.inl ⟨e1, e2, fun j q0 q1 => ?_⟩
          by_cases q : j = i
          · rw [q]
            exact h2
          · exact e3 j q0 (by omega)
        · exact Or.inr ⟨e1, by omega, e3, e4, e5⟩
    · rcases hR with ⟨e1, e2, e3⟩ | ⟨e1, e2, e3, e4, e5⟩
      · subst e1
        cases e2
        refine ⟨rs i, (i, rz i), fun fuel => ?_, fun fuel => ?_, Or.inr ⟨h0, by show i < i + 1; omega, rfl, rfl, by show n ≤ rz i; omega⟩⟩
        · show m_Mod_fitOf_5 (fuel + 1) n (-9) (rs i) ow = m_Mod_fitOf_5 fuel n (rs i) (rs i + 1) ow
          rw [m_Mod_fitOf_5, clt_t (by omega), hg, bnd_s, ceq_f (by omega), hz, bnd_s, clt_f (by omega), clt_t (by omega)]
        · show m_Runs_leastFor_8 (fuel + 1) n (-1) 65 i rm rz = m_Runs_leastFor_8 fuel n i (rz i) (i + 1) rm rz
          rw [m_Runs_leastFor_8, clt_t (by omega), clt_t (by omega), gd_x (by omega), clt_f (by omega), gd_x (by omega), clt_t (by omega), gd_x (by omega)]
      · have e1 : 0 ≤ t1 := e1
        have e2 : t1 < i := e2
        have e3 : s = rs t1 := e3
        have e4 : t2 = rz t1 := e4
        have e5 : n ≤ rz t1 := e5
        subst e3
        subst e4
        have hat := R.at e1 (show t1 < rm by omega)
        have hzt := pM_size_at hb R e1 (show t1 < rm by omega)
        by_cases h3 : rz i < rz t1
        · refine ⟨rs i, (i, rz i), fun fuel => ?_, fun fuel => ?_, Or.inr ⟨h0, by show i < i + 1; omega, rfl, rfl, by show n ≤ rz i; omega⟩⟩
          · show m_Mod_fitOf_5 (fuel + 1) n (rs t1) (rs i) ow = m_Mod_fitOf_5 fuel n (rs i) (rs i + 1) ow
            rw [m_Mod_fitOf_5, clt_t (by omega), hg, bnd_s, ceq_f (by omega), hz, bnd_s, clt_f (by omega), clt_f (by omega), bnd_s, hzt, bnd_s, clt_t (by omega)]
          · show m_Runs_leastFor_8 (fuel + 1) n t1 (rz t1) i rm rz = m_Runs_leastFor_8 fuel n i (rz i) (i + 1) rm rz
            rw [m_Runs_leastFor_8, clt_t (by omega), clt_t (by omega), gd_x (by omega), clt_f (by omega), gd_x (by omega), clt_t (by omega), gd_x (by omega)]
        · refine ⟨rs t1, (t1, rz t1), fun fuel => ?_, fun fuel => ?_, Or.inr ⟨e1, by show t1 < i + 1; omega, rfl, rfl, e5⟩⟩
          · show m_Mod_fitOf_5 (fuel + 1) n (rs t1) (rs i) ow = m_Mod_fitOf_5 fuel n (rs t1) (rs i + 1) ow
            rw [m_Mod_fitOf_5, clt_t (by omega), hg, bnd_s, ceq_f (by omega), hz, bnd_s, clt_f (by omega), clt_f (by omega), bnd_s, hzt, bnd_s, clt_f (by omega)]
          · show m_Runs_leastFor_8 (fuel + 1) n t1 (rz t1) i rm rz = m_Runs_leastFor_8 fuel n t1 (rz t1) (i + 1) rm rz
            rw [m_Runs_leastFor_8, clt_t (by omega), clt_t (by omega), gd_x (by omega), clt_f (by omega), gd_x (by omega), clt_f (by omega)]
  · obtain ⟨t1, t2⟩ := t
    have hm := R.many (by omega)
    have hm0 := R.1
    refine ⟨s, t1, fun fuel => ?_, fun fuel => ?_, ?_⟩
    · show m_Mod_fitOf_5 (fuel + 1) n s 64 ow = some s
      rw [m_Mod_fitOf_5, clt_f (by omega)]
    · show m_Runs_leastFor_8 (fuel + 1) n t1 t2 rm rm rz = some t1
      rw [m_Runs_leastFor_8, clt_f (by omega)]
    · rcases hR with ⟨e1, e2, e3⟩ | ⟨e1, e2, e3, e4, e5⟩
      · cases e2
        exact Or.inl ⟨e1, rfl, e3⟩
      · exact Or.inr ⟨e1, e2, e3, e5⟩
theorem p_greatest (hb : ∀ b : Int, 0 ≤ b → b < 64 → -9 ≤ ow b ∧ ow b < 96) (R : RunsTo ow 64 rm rs rz) : ∃ u v, m_Mod_greatest ow = some u ∧ m_Runs_greatest rm rz = some v ∧ ((u = -9 ∧ v = -1 ∧ rm = 0) ∨ (0 ≤ v ∧ v < rm ∧ u = rs v ∧ ∀ j : Int, 0 ≤ j → j < rm → rz j ≤ rz v)) := by
  refine run_scan R (fun fuel s b => m_Mod_greatest_5 fuel s b ow) (fun fuel (t : Int × Int) i => m_Runs_greatest_6 fuel t.1 t.2 i rm rz) (fun s t i => (s = -9 ∧ t = (-1, 0) ∧ i = 0) ∨ (0 ≤ t.1 ∧ t.1 < i ∧ s = rs t.1 ∧ t.2 = rz t.1 ∧ ∀ j : Int, 0 ≤ j → j < i → rz j ≤ rz t.1)) _ (-9) (-1, 0) (Or.inl ⟨rfl, rfl, rfl⟩) (fun fuel s b h0 h1 h2 => ?_) (fun s t i h0 h1 hR => ?_) (fun s t hR => ?_)
  · show m_Mod_greatest_5 (fuel + 1) s b ow = m_Mod_greatest_5 fuel s (b + 1) ow
    rw [m_Mod_greatest_5, clt_t (by omega), pM_beg0 hb ⟨h0, h1⟩ h2, bnd_s, ceq_t (by omega)]
  · have ha := R.at h0 h1
    have hg := pM_beg hb (b := rs i) ⟨by omega, by omega⟩ (R.run h0 h1)
    have hz := pM_size_at hb R h0 h1
    obtain ⟨t1, t2⟩ := t
    left
    rcases hR with ⟨e1, e2, e3⟩ | ⟨e1, e2, e3, e4, e5⟩
    · subst e1
      cases e2
      refine ⟨rs i, (i, rz i), fun fuel => ?_, fun fuel => ?_, Or.inr ⟨h0, by show i < i + 1; omega, rfl, rfl, fun j q0 q1 => ?_⟩⟩
      · show m_Mod_greatest_5 (fuel + 1) (-9) (rs i) ow = m_Mod_greatest_5 fuel (rs i) (rs i + 1) ow
        rw [m_Mod_greatest_5, clt_t (by omega), hg, bnd_s, ceq_f (by omega), clt_t (by omega)]
      · show m_Runs_greatest_6 (fuel + 1) (-1) 0 i rm rz = m_Runs_greatest_6 fuel i (rz i) (i + 1) rm rz
        rw [m_Runs_greatest_6, clt_t (by omega), clt_t (by omega), gd_x (by omega), cle_f (by omega), gd_x (by omega)]
      · show rz j ≤ rz i
        rw [show j = i by omega]
        omega
    · have e1 : 0 ≤ t1 := e1
      have e2 : t1 < i := e2
      have e3 : s = rs t1 := e3
      have e4 : t2 = rz t1 := e4
      subst e3
      subst e4
      have hat := R.at e1 (show t1 < rm by omega)
      have hzt := pM_size_at hb R e1 (show t1 < rm by omega)
      by_cases h3 : rz i ≤ rz t1
      · refine ⟨rs t1, (t1, rz t1), fun fuel => ?_, fun fuel => ?_, Or.inr ⟨e1, by show t1 < i + 1; omega, rfl, rfl, fun j q0 q1 => ?_⟩⟩
        · show m_Mod_greatest_5 (fuel + 1) (rs t1) (rs i) ow = m_Mod_greatest_5 fuel (rs t1) (rs i + 1) ow
          rw [m_Mod_greatest_5, clt_t (by omega), hg, bnd_s, ceq_f (by omega), clt_f (by omega), hz, bnd_s, hzt, bnd_s, cle_t (by omega)]
        · show m_Runs_greatest_6 (fuel + 1) t1 (rz t1) i rm rz = m_Runs_greatest_6 fuel t1 (rz t1) (i + 1) rm rz
          rw [m_Runs_greatest_6, clt_t (by omega), clt_t (by omega), gd_x (by omega), cle_t (by omega)]
        · show rz j ≤ rz t1
          by_cases q : j = i
          · rw [q]
            exact h3
          · exact e5 j q0 (by omega)
      · refine ⟨rs i, (i, rz i), fun fuel => ?_, fun fuel => ?_, Or.inr ⟨h0, by show i < i + 1; omega, rfl, rfl, fun j q0 q1 => ?_⟩⟩
        · show m_Mod_greatest_5 (fuel + 1) (rs t1) (rs i) ow = m_Mod_greatest_5 fuel (rs i) (rs i + 1) ow
          rw [m_Mod_greatest_5, clt_t (by omega), hg, bnd_s, ceq_f (by omega), clt_f (by omega), hz, bnd_s, hzt, bnd_s, cle_f (by omega)]
        · show m_Runs_greatest_6 (fuel + 1) t1 (rz t1) i rm rz = m_Runs_greatest_6 fuel i (rz i) (i + 1) rm rz
          rw [m_Runs_greatest_6, clt_t (by omega), clt_t (by omega), gd_x (by omega), cle_f (by omega), gd_x (by omega)]
        · show rz j ≤ rz i
          by_cases q : j = i
          · rw [q]
            omega
          · have : rz j ≤ rz t1 := e5 j q0 (by omega)
            omega
  · obtain ⟨t1, t2⟩ := t
    have hm := R.many (by omega)
    have hm0 := R.1
    refine ⟨s, t1, fun fuel => ?_, fun fuel => ?_, ?_⟩
    · show m_Mod_greatest_5 (fuel + 1) s 64 ow = some s
      rw [m_Mod_greatest_5, clt_f (by omega)]
    · show m_Runs_greatest_6 (fuel + 1) t1 t2 rm rm rz = some t1
      rw [m_Runs_greatest_6, clt_f (by omega)]
    · rcases hR with ⟨e1, e2, e3⟩ | ⟨e1, e2, e3, e4, e5⟩
      · cases e2
        exact Or.inl ⟨e1, rfl, e3⟩
      · exact Or.inr ⟨e1, e2, e3, e5⟩
end SCAN
