/-! runs: what lookAt makes -/
abbrev beg (ow : Int → Int) (b : Int) : Prop := ow b < 0 ∧ (b = 0 ∨ ¬ ow (b - 1) < 0)
/-- z blocks on end are free at s, the block ahead and the one behind are not -/
def isRun (ow : Int → Int) (s z : Int) : Prop := 0 ≤ s ∧ 1 ≤ z ∧ s + z ≤ 64 ∧ (∀ b : Int, s ≤ b → b < s + z → ow b < 0) ∧ (s = 0 ∨ ¬ ow (s - 1) < 0) ∧ (s + z = 64 ∨ ¬ ow (s + z) < 0)
/-- the first rm rows name the runs that end ahead of block e, in their order -/
def RunsTo (ow : Int → Int) (e rm : Int) (rs rz : Int → Int) : Prop := 0 ≤ rm ∧ (∀ i : Int, 0 ≤ i → i < rm → isRun ow (rs i) (rz i) ∧ rs i + rz i ≤ e) ∧ (∀ i : Int, 0 ≤ i → i + 1 < rm → rs i + rz i < rs (i + 1)) ∧ (∀ b : Int, 0 ≤ b → b < e → ow b < 0 → ∃ i : Int, 0 ≤ i ∧ i < rm ∧ rs i ≤ b ∧ b < rs i + rz i)
theorem RunsTo.up {ow : Int → Int} {e rm : Int} {rs rz : Int → Int} (h : RunsTo ow e rm rs rz) : ∀ (d : Nat) (i : Int), 0 ≤ i → i + d < rm → rs i + d ≤ rs (i + d)
  | 0, i, h0, h1 => by
    rw [show i + ((0 : Nat) : Int) = i by omega]
    omega
  | d + 1, i, h0, h1 => by
    have q := RunsTo.up h d i h0 (by omega)
    have q2 := h.2.2.1 (i + d) (by omega) (by omega)
    have q3 := (h.2.1 (i + d) (by omega) (by omega)).1.2.1
    rw [show i + ((d + 1 : Nat) : Int) = i + (d : Int) + 1 by omega]
    omega
theorem RunsTo.lt {ow : Int → Int} {e rm : Int} {rs rz : Int → Int} (h : RunsTo ow e rm rs rz) {i j : Int} (h0 : 0 ≤ i) (h1 : i < j) (h2 : j < rm) : rs i + rz i < rs j := by
  have q := RunsTo.up h (j - (i + 1)).toNat (i + 1) (by omega) (by omega)
  rw [show i + 1 + ((j - (i + 1)).toNat : Int) = j by omega] at q
  have q2 := h.2.2.1 i h0 (by omega)
  omega
/-- two blocks to a run -/
theorem RunsTo.two {ow : Int → Int} {e rm : Int} {rs rz : Int → Int} (h : RunsTo ow e rm rs rz) : ∀ (d : Nat), (d : Int) < rm → 2 * (d : Int) ≤ rs d
  | 0, h1 => by
    have := (h.2.1 0 (by omega) (by omega)).1.1
    show 2 * ((0 : Nat) : Int) ≤ rs ((0 : Nat) : Int)
    simpa using this
  | d + 1, h1 => by
    have q := RunsTo.two h d (by omega)
    have q2 := h.2.2.1 d (by omega) (by omega)
    have q3 := (h.2.1 d (by omega) (by omega)).1.2.1
    rw [show (((d + 1 : Nat)) : Int) = (d : Int) + 1 by omega]
    omega
theorem RunsTo.many {ow : Int → Int} {e rm : Int} {rs rz : Int → Int} (h : RunsTo ow e rm rs rz) (he : e ≤ 64) : rm ≤ 32 ∧ (rm = 0 ∨ 2 * rm ≤ e + 1) := by
  have h0 := h.1
  by_cases h1 : rm = 0
  · omega
  · have q := RunsTo.two h (rm - 1).toNat (by omega)
    rw [show (((rm - 1).toNat : Nat) : Int) = rm - 1 by omega] at q
    have q2 := h.2.1 (rm - 1) (by omega) (by omega)
    have := q2.1.2.1
    omega
theorem RunsTo.many2 {ow : Int → Int} {e rm : Int} {rs rz : Int → Int} (h : RunsTo ow e rm rs rz) (hl : ∀ i : Int, 0 ≤ i → i < rm → rs i + rz i < e) : rm = 0 ∨ 2 * rm ≤ e := by
  have h0 := h.1
  by_cases h1 : rm = 0
  · omega
  · have q := RunsTo.two h (rm - 1).toNat (by omega)
    rw [show (((rm - 1).toNat : Nat) : Int) = rm - 1 by omega] at q
    have q2 := (h.2.1 (rm - 1) (by omega) (by omega)).1.2.1
    have q3 := hl (rm - 1) (by omega) (by omega)
    omega
theorem RunsTo.begs {ow : Int → Int} {rm : Int} {rs rz : Int → Int} (h : RunsTo ow 64 rm rs rz) {b : Int} (h0 : 0 ≤ b) (h1 : b < 64) (hb : beg ow b) : ∃ i : Int, 0 ≤ i ∧ i < rm ∧ rs i = b := by
  obtain ⟨i, i0, i1, i2, i3⟩ := h.2.2.2 b h0 h1 hb.1
  refine ⟨i, i0, i1, ?_⟩
  obtain ⟨⟨r1, r2, r3, r4, r5, r6⟩, -⟩ := h.2.1 i i0 i1
  by_cases hq : rs i = b
  · exact hq
  · rcases hb.2 with h3 | h3
    · omega
    · exact absurd (r4 (b - 1) (by omega) (by omega)) h3
theorem RunsTo.run {ow : Int → Int} {e rm : Int} {rs rz : Int → Int} (h : RunsTo ow e rm rs rz) {i : Int} (h0 : 0 ≤ i) (h1 : i < rm) : beg ow (rs i) := by
  obtain ⟨⟨r1, r2, r3, r4, r5, r6⟩, -⟩ := h.2.1 i h0 h1
  exact ⟨r4 _ (by omega) (by omega), r5⟩
theorem runs_add {s z rm : Int} {rs rz : Int → Int} (hz : 1 ≤ z ∧ z ≤ 64) (hm : 0 ≤ rm ∧ rm < 32) : m_Runs_add s z rm rs rz = some (rm + 1, uf rs rm s, uf rz rm z) := by
  unfold m_Runs_add
  rw [cle_f (by omega), clt_f (by omega), clt_t (by omega), clt_t (by omega), gd_x (by omega), gd_x (by omega)]
theorem runs_add0 {s rm : Int} {rs rz : Int → Int} : m_Runs_add s 0 rm rs rz = some (rm, rs, rz) := by
  unfold m_Runs_add
  rw [cle_t (by omega)]
theorem RunsTo.step {ow : Int → Int} {e rm : Int} {rs rz : Int → Int} {s z : Int} (h : RunsTo ow s rm rs rz) (hl : ∀ i : Int, 0 ≤ i → i < rm → rs i + rz i < s) (hr : isRun ow s z) (he : e = s + z) : RunsTo ow e (rm + 1) (uf rs rm s) (uf rz rm z) := by
  obtain ⟨a1, a2, a3, a4⟩ := h
  obtain ⟨r1, r2, r3, r4, r5, r6⟩ := id hr
  refine ⟨by omega, fun i h0 h1 => ?_, fun i h0 h1 => ?_, fun b h0 h1 h2 => ?_⟩
  · by_cases hi : i = rm
    · subst hi
      rw [uf_s, uf_s]
      exact ⟨hr, by omega⟩
    · rw [uf_n hi, uf_n hi]
      have := a2 i h0 (by omega)
      exact ⟨this.1, by omega⟩
  · rw [uf_n (show i ≠ rm by omega), uf_n (show i ≠ rm by omega)]
    by_cases hi : i + 1 = rm
    · rw [hi, uf_s]
      exact hl i h0 (by omega)
    · rw [uf_n hi]
      exact a3 i h0 (by omega)
  · by_cases hb : b < s
    · obtain ⟨i, i0, i1, i2, i3⟩ := a4 b h0 hb h2
      refine ⟨i, i0, by omega, ?_⟩
      rw [uf_n (show i ≠ rm by omega), uf_n (show i ≠ rm by omega)]
      exact ⟨i2, i3⟩
    · refine ⟨rm, a1, by omega, ?_⟩
      rw [uf_s, uf_s]
      omega
theorem RunsTo.skip {ow : Int → Int} {e rm : Int} {rs rz : Int → Int} (h : RunsTo ow e rm rs rz) (hf : ¬ ow e < 0) : RunsTo ow (e + 1) rm rs rz := by
  obtain ⟨a1, a2, a3, a4⟩ := h
  refine ⟨a1, fun i h0 h1 => ⟨(a2 i h0 h1).1, by have := (a2 i h0 h1).2; omega⟩, a3, fun b h0 h1 h2 => ?_⟩
  by_cases hb : b = e
  · subst hb
    exact absurd h2 hf
  · exact a4 b h0 (by omega) h2
theorem look_loop {ow qow : Int → Int} (hq : Q91 64 qow ow) (hb : ∀ b : Int, 0 ≤ b → b < 64 → ow b < 96) : ∀ (d : Nat) (v e rm : Int) (rs rz : Int → Int) (fuel : Nat), e + d = 64 → d < fuel → 0 ≤ v → v ≤ e → RunsTo ow (e - v) rm rs rz → (∀ i : Int, 0 ≤ i → i < rm → rs i + rz i < e - v) → (∀ b : Int, e - v ≤ b → b < e → ow b < 0) → (e - v = 0 ∨ ¬ ow (e - v - 1) < 0) →
    ∃ rm' rs' rz', m_Runs_lookAt_9 fuel v e rm rs rz qow = some (rm', rs', rz') ∧ RunsTo ow 64 rm' rs' rz' := by
  intro d
  induction d with
  | zero =>
    intro v e rm rs rz fuel h1 h2 h3 h4 h5 h6 h7 h8
    cases fuel with
    | zero => omega
    | succ fuel =>
      have he : e = 64 := by omega
      subst he
      have hm := h5.many2 h6
      have hm0 := h5.1
      rw [m_Runs_lookAt_9, clt_f (by omega)]
      by_cases hv : v = 0
      · subst hv
        rw [runs_add0, bnd_s]
        exact ⟨rm, rs, rz, rfl, h5⟩
      · rw [runs_add (by omega) (by omega), bnd_s]
        exact ⟨_, _, _, rfl, h5.step h6 ⟨by omega, by omega, by omega, fun b q0 q1 => h7 b q0 (by omega), h8, Or.inl (by omega)⟩ (by omega)⟩
  | succ d ih =>
    intro v e rm rs rz fuel h1 h2 h3 h4 h5 h6 h7 h8
    cases fuel with
    | zero => omega
    | succ fuel =>
      have hm := h5.many2 h6
      have hm0 := h5.1
      have hqe := hq e (by omega) (by omega)
      have hbe := hb e (by omega) (by omega)
      rw [m_Runs_lookAt_9, clt_t (by omega), gd_x (by omega)]
      by_cases hf : ow e < 0
      · rw [ceq_t (by omega)]
        refine ih (v + 1) (e + 1) rm rs rz fuel (by omega) (by omega) (by omega) (by omega) ?_ ?_ ?_ ?_
        · rw [show e + 1 - (v + 1) = e - v by omega]
          exact h5
        · rw [show e + 1 - (v + 1) = e - v by omega]
          exact h6
        · intro b q0 q1
          by_cases q : b = e
          · rw [q]
            exact hf
          · exact h7 b (by omega) (by omega)
        · rw [show e + 1 - (v + 1) = e - v by omega]
          exact h8
      · rw [ceq_f (by omega)]
        have lim : rm < 32 ∨ v = 0 := by omega
        by_cases hv : v = 0
        · subst hv
          rw [runs_add0, bnd_s]
          refine ih 0 (e + 1) rm rs rz fuel (by omega) (by omega) (by omega) (by omega) ?_ ?_ ?_ ?_
          · rw [show e + 1 - 0 = e - 0 + 1 by omega]
            exact h5.skip (by rw [show e - 0 = e by omega]; exact hf)
          · intro i q0 q1
            have := h6 i q0 q1
            omega
          · intro b q0 q1
            omega
          · right
            rw [show e + 1 - 0 - 1 = e by omega]
            exact hf
        · rw [runs_add (by omega) (by omega), bnd_s]
          have hr : isRun ow (e - v) v := ⟨by omega, by omega, by omega, fun b q0 q1 => h7 b q0 (by omega), h8, Or.inr (by rw [show e - v + v = e by omega]; exact hf)⟩
          have hs := h5.step h6 hr (e := e) (by omega)
          refine ih 0 (e + 1) (rm + 1) _ _ fuel (by omega) (by omega) (by omega) (by omega) ?_ ?_ ?_ ?_
          · rw [show e + 1 - 0 = e + 1 by omega]
            exact hs.skip hf
          · intro i q0 q1
            have q2 : uf rs rm (e - v) i + uf rz rm v i ≤ e := (hs.2.1 i q0 q1).2
            show uf rs rm (e - v) i + uf rz rm v i < e + 1 - 0
            omega
          · intro b q0 q1
            omega
          · right
            rw [show e + 1 - 0 - 1 = e by omega]
            exact hf
theorem p_lookAt {ow qow : Int → Int} (hq : Q91 64 qow ow) (hb : ∀ b : Int, 0 ≤ b → b < 64 → ow b < 96) (rm : Int) (rs rz : Int → Int) : ∃ rm' rs' rz', m_Runs_lookAt rm rs rz qow = some (rm', rs', rz') ∧ RunsTo ow 64 rm' rs' rz' :=
  look_loop hq hb 64 0 0 0 rs rz 5000 (by omega) (by omega) (by omega) (by omega) ⟨by omega, fun i h0 h1 => by omega, fun i h0 h1 => by omega, fun b h0 h1 => by omega⟩ (fun i h0 h1 => by omega) (fun b h0 h1 => by omega) (Or.inl rfl)
