/-! e_two -/
def Lij (a b i j : Int) : List Int := if i = 1 then (if j = 1 then [a, b, b, a] else [a, b, a]) else (if j = 1 then [b, b, a] else [b, a])
theorem Lij_ok {a b i j : Int} (ha : 0 ≤ a ∧ a < 4) (hb : 0 ≤ b ∧ b < 4) : ∀ f ∈ Lij a b i j, 0 ≤ f ∧ f < 4 := by
  unfold Lij
  intro f hf
  split at hf <;> split at hf <;> simp only [List.mem_cons, List.not_mem_nil, or_false] at hf <;> omega
section TWO
variable {bt ow bl wr wa ki vow vbt vki vpl vva vwr : Int → Int}
theorem playPair_seq {a b i j : Int} {g t : TG} {w' : Int → Int} (hi : i = 0 ∨ i = 1) (hj : j = 0 ∨ j = 1) (c1 : m_Disk_copyFrom g.1 g.2.1 g.2.2.1 g.2.2.2.1 g.2.2.2.2.1 g.2.2.2.2.2.1 vow vbt vki vpl vva vwr = some (vow, vbt, vki, vpl, vva, w')) (h : dseq (Lij a b i j) (vow, vbt, vki, vpl, vva, w', g.2.2.2.2.2.2.1, g.2.2.2.2.2.2.2.1, g.2.2.2.2.2.2.2.2) = some t) : m_Mind_playPair a b i j vow vbt vki vpl vva vwr g.1 g.2.1 g.2.2.1 g.2.2.2.1 g.2.2.2.2.1 g.2.2.2.2.2.1 g.2.2.2.2.2.2.1 g.2.2.2.2.2.2.2.1 g.2.2.2.2.2.2.2.2 = some t := by
  unfold m_Mind_playPair
  simp only [jn_s]
  rw [c1, bnd_s]
  dsimp only
  unfold Lij at h
  rcases hi with hi | hi <;> rcases hj with hj | hj <;> subst hi <;> subst hj
  · rw [if_neg (by omega), if_neg (by omega), dseq] at h
    obtain ⟨r1, e1, h⟩ := bnd_e h
    rw [dseq] at h
    obtain ⟨r2, e2, h⟩ := bnd_e h
    rw [dseq] at h
    rw [ceq_f (by omega), ceq_f (by omega), e1, bnd_s, e2, bnd_s]
    exact h
  · rw [if_neg (by omega), if_pos (by omega), dseq] at h
    obtain ⟨r1, e1, h⟩ := bnd_e h
    rw [dseq] at h
    obtain ⟨r2, e2, h⟩ := bnd_e h
    rw [dseq] at h
    obtain ⟨r3, e3, h⟩ := bnd_e h
    rw [dseq] at h
    rw [ceq_f (by omega), ceq_t (by omega), e1, bnd_s, e2, bnd_s, e3, bnd_s]
    exact h
  · rw [if_pos (by omega), if_neg (by omega), dseq] at h
    obtain ⟨r1, e1, h⟩ := bnd_e h
    rw [dseq] at h
    obtain ⟨r2, e2, h⟩ := bnd_e h
    rw [dseq] at h
    obtain ⟨r3, e3, h⟩ := bnd_e h
    rw [dseq] at h
    rw [ceq_t (by omega), e1, bnd_s, ceq_f (by omega), e2, bnd_s, e3, bnd_s]
    exact h
  · rw [if_pos (by omega), if_pos (by omega), dseq] at h
    obtain ⟨r1, e1, h⟩ := bnd_e h
    rw [dseq] at h
    obtain ⟨r2, e2, h⟩ := bnd_e h
    rw [dseq] at h
    obtain ⟨r3, e3, h⟩ := bnd_e h
    rw [dseq] at h
    obtain ⟨r4, e4, h⟩ := bnd_e h
    rw [dseq] at h
    rw [ceq_t (by omega), e1, bnd_s, ceq_t (by omega), e2, bnd_s, e3, bnd_s, e4, bnd_s]
    exact h
theorem findEnds_row {a b k : Int} {W : Int → Int} {x : MS} {ends : Int → Int} (ha : 0 ≤ a ∧ a < 4) (hb : 0 ≤ b ∧ b < 4) (hk : 0 ≤ k ∧ k < 4) (hS : SV (Lij a b (k / 2) (k % 2)) vow vbt vki vpl vva vwr W) (hI : Inv x.2.2.2.2.1 x.2.2.2.2.2.1 x.2.2.2.2.2.2.1 x.2.2.2.2.2.2.2.1 x.2.2.2.2.2.2.2.2.1 x.2.2.2.2.2.2.2.2.2.1) (hD : Dsk vow vbt vki vpl vva vwr x.2.2.2.2.1 x.2.2.2.2.2.1 x.2.2.2.2.2.2.1 x.2.2.2.2.2.2.2.1 x.2.2.2.2.2.2.2.2.1 x.2.2.2.2.2.2.2.2.2.1) :
    ∃ u : MS, SmT x.2.2.2.2.1 x.2.2.2.2.2.1 x.2.2.2.2.2.2.1 x.2.2.2.2.2.2.2.1 x.2.2.2.2.2.2.2.2.1 x.2.2.2.2.2.2.2.2.2.1 x.2.2.2.2.2.2.2.2.2.2 u ∧ ∀ fuel : Nat, m_Mod_findEnds_2 (fuel + 1) a b k x.1 x.2.1 x.2.2.1 x.2.2.2.1 x.2.2.2.2.1 x.2.2.2.2.2.1 x.2.2.2.2.2.2.1 x.2.2.2.2.2.2.2.1 x.2.2.2.2.2.2.2.2.1 x.2.2.2.2.2.2.2.2.2.1 x.2.2.2.2.2.2.2.2.2.2 ends = m_Mod_findEnds_2 fuel a b (k + 1) u.1 u.2.1 u.2.2.1 u.2.2.2.1 u.2.2.2.2.1 u.2.2.2.2.2.1 u.2.2.2.2.2.2.1 u.2.2.2.2.2.2.2.1 u.2.2.2.2.2.2.2.2.1 u.2.2.2.2.2.2.2.2.2.1 u.2.2.2.2.2.2.2.2.2.2 (uf (uf ends (2 * k) (W a)) (2 * k + 1) (W b)) := by
  obtain ⟨c, kp, m1, m2⟩ := minds_forgets x.2.2.1 x.2.2.2.1 x.2.2.2.2.1 x.2.2.2.2.2.1 x.2.2.2.2.2.2.1 x.2.2.2.2.2.2.2.1 x.2.2.2.2.2.2.2.2.1 x.2.2.2.2.2.2.2.2.2.1 x.2.2.2.2.2.2.2.2.2.2
  obtain ⟨y, s1, -, s2⟩ := hS.2.2 (x.1, x.2.1, x.2.2.2.2.1, x.2.2.2.2.2.1, x.2.2.2.2.2.2.1, x.2.2.2.2.2.2.2.1, x.2.2.2.2.2.2.2.2.1) x.2.2.2.2.2.2.2.2.2.1 hI hD
  have sa := s2 a ha.1 ha.2
  have sb := s2 b hb.1 hb.2
  obtain ⟨c2, b3, o3, l3, w3, t3, k3, m3, m4⟩ := m2 1 c y.2.2.1 y.2.2.2.1 y.2.2.2.2.1 y.2.2.2.2.2.1 y.2.2.2.2.2.2 x.2.2.2.2.2.2.2.2.2.1
  refine ⟨(y.1, y.2.1, 0, c2, b3, o3, l3, w3, t3, k3, kp), m4, fun fuel => ?_⟩
  rw [m_Mod_findEnds_2, clt_t (by omega), m1, bnd_s, gd_xz (by omega)]
  simp only [jn_s]
  unfold Lij at s1
  have hkk : k = 0 ∨ k = 1 ∨ k = 2 ∨ k = 3 := by omega
  rcases hkk with q | q | q | q
  · subst q
    rw [if_neg (by omega), if_neg (by omega), mseq] at s1
    obtain ⟨r1, e1, s1⟩ := bnd_e s1
    rw [mseq] at s1
    obtain ⟨r2, e2, s1⟩ := bnd_e s1
    rw [mseq] at s1
    cases s1
    rw [ceq_f (by omega), gd_xz (by omega), ceq_f (by omega), e1, bnd_s, e2, bnd_s, sa, bnd_s, gd_x (by omega), sb, bnd_s, gd_x (by omega), m3, bnd_s]
  · subst q
    rw [if_neg (by omega), if_pos (by omega), mseq] at s1
    obtain ⟨r1, e1, s1⟩ := bnd_e s1
    rw [mseq] at s1
    obtain ⟨r2, e2, s1⟩ := bnd_e s1
    rw [mseq] at s1
    obtain ⟨r3, e3, s1⟩ := bnd_e s1
    rw [mseq] at s1
    cases s1
    rw [ceq_f (by omega), gd_xz (by omega), ceq_t (by omega), e1, bnd_s, e2, bnd_s, e3, bnd_s, sa, bnd_s, gd_x (by omega), sb, bnd_s, gd_x (by omega), m3, bnd_s]
  · subst q
    rw [if_pos (by omega), if_neg (by omega), mseq] at s1
    obtain ⟨r1, e1, s1⟩ := bnd_e s1
    rw [mseq] at s1
    obtain ⟨r2, e2, s1⟩ := bnd_e s1
    rw [mseq] at s1
    obtain ⟨r3, e3, s1⟩ := bnd_e s1
    rw [mseq] at s1
    cases s1
    rw [ceq_t (by omega), e1, bnd_s, gd_xz (by omega), ceq_f (by omega), e2, bnd_s, e3, bnd_s, sa, bnd_s, gd_x (by omega), sb, bnd_s, gd_x (by omega), m3, bnd_s]
  · subst q
    rw [if_pos (by omega), if_pos (by omega), mseq] at s1
    obtain ⟨r1, e1, s1⟩ := bnd_e s1
    rw [mseq] at s1
    obtain ⟨r2, e2, s1⟩ := bnd_e s1
    rw [mseq] at s1
    obtain ⟨r3, e3, s1⟩ := bnd_e s1
    rw [mseq] at s1
    obtain ⟨r4, e4, s1⟩ := bnd_e s1
    rw [mseq] at s1
    cases s1
    rw [ceq_t (by omega), e1, bnd_s, gd_xz (by omega), ceq_t (by omega), e2, bnd_s, e3, bnd_s, e4, bnd_s, sa, bnd_s, gd_x (by omega), sb, bnd_s, gd_x (by omega), m3, bnd_s]
theorem findEnds_loop {a b : Int} {W : Int → Int → Int} (ha : 0 ≤ a ∧ a < 4) (hb : 0 ≤ b ∧ b < 4) (hS : ∀ k : Int, 0 ≤ k → k < 4 → SV (Lij a b (k / 2) (k % 2)) vow vbt vki vpl vva vwr (W k)) (hI : Inv bt ow bl wr wa ki) (hD : Dsk vow vbt vki vpl vva vwr bt ow bl wr wa ki) {mz : Int → Int} : ∀ (d : Nat) (k : Int) (x : MS) (ends : Int → Int) (fuel : Nat), k + d = 4 → 0 ≤ k → d < fuel → SmT bt ow bl wr wa ki mz x → (∀ j : Int, 0 ≤ j → j < k → ends (2 * j) = W j a ∧ ends (2 * j + 1) = W j b) →
    ∃ (u : MS) (ends' : Int → Int), SmT bt ow bl wr wa ki mz u ∧ (∀ j : Int, 0 ≤ j → j < 4 → ends' (2 * j) = W j a ∧ ends' (2 * j + 1) = W j b) ∧ m_Mod_findEnds_2 fuel a b k x.1 x.2.1 x.2.2.1 x.2.2.2.1 x.2.2.2.2.1 x.2.2.2.2.2.1 x.2.2.2.2.2.2.1 x.2.2.2.2.2.2.2.1 x.2.2.2.2.2.2.2.2.1 x.2.2.2.2.2.2.2.2.2.1 x.2.2.2.2.2.2.2.2.2.2 ends = some (u.1, u.2.1, u.2.2.1, u.2.2.2.1, u.2.2.2.2.1, u.2.2.2.2.2.1, u.2.2.2.2.2.2.1, u.2.2.2.2.2.2.2.1, u.2.2.2.2.2.2.2.2.1, u.2.2.2.2.2.2.2.2.2.1, u.2.2.2.2.2.2.2.2.2.2, ends') := by
  intro d
  induction d with
  | zero =>
    intro k x ends fuel h1 h2 h3 h4 h5
    cases fuel with
    | zero => omega
    | succ fuel => exact ⟨x, ends, h4, fun j q0 q1 => h5 j q0 (by omega), by rw [m_Mod_findEnds_2, clt_f (by omega)]⟩
  | succ d ih =>
    intro k x ends fuel h1 h2 h3 h4 h5
    cases fuel with
    | zero => omega
    | succ fuel =>
      obtain ⟨u, e1, e2⟩ := findEnds_row (ends := ends) ha hb ⟨h2, by omega⟩ (hS k h2 (by omega)) (h4.inv hI) (h4.dsk hD)
      rw [e2 fuel]
      refine ih (k + 1) u _ fuel (by omega) (by omega) (by omega) (h4.tr e1) (fun j q0 q1 => ?_)
      by_cases c : j = k
      · rw [c, uf_s, uf_n (by omega), uf_s]
        exact ⟨rfl, rfl⟩
      · rw [uf_n (by omega), uf_n (by omega), uf_n (by omega), uf_n (by omega)]
        exact h5 j q0 (by omega)
def k2 (k : Int) : Int := if k < 2 then k + 2 else k - 2
def k1 (k : Int) : Int := if k % 2 = 0 then k + 1 else k - 1
def stdy (a b : Int) (W : Int → Int → Int) (k : Int) : Prop := ¬ W (k2 k) a < W k a ∧ ¬ W (k1 k) b < W k b
theorem steady_row {a b k : Int} {W : Int → Int → Int} (ha : 0 ≤ a ∧ a < 4) (hb : 0 ≤ b ∧ b < 4) (hS : ∀ k : Int, 0 ≤ k → k < 4 → SV (Lij a b (k / 2) (k % 2)) vow vbt vki vpl vva vwr (W k)) (hk : 0 ≤ k ∧ k < 4) (g : TG) : ∃ t : TG, (stdy a b W k ∧ m_Mind_isSteady a b (k / 2) (k % 2) vow vbt vki vpl vva vwr g.1 g.2.1 g.2.2.1 g.2.2.2.1 g.2.2.2.2.1 g.2.2.2.2.2.1 g.2.2.2.2.2.2.1 g.2.2.2.2.2.2.2.1 g.2.2.2.2.2.2.2.2 = some (1, t)) ∨ (¬ stdy a b W k ∧ m_Mind_isSteady a b (k / 2) (k % 2) vow vbt vki vpl vva vwr g.1 g.2.1 g.2.2.1 g.2.2.2.1 g.2.2.2.2.1 g.2.2.2.2.2.1 g.2.2.2.2.2.2.1 g.2.2.2.2.2.2.2.1 g.2.2.2.2.2.2.2.2 = some (0, t)) := by
  have hk2 : 0 ≤ k2 k ∧ k2 k < 4 ∧ k2 k / 2 = 1 - k / 2 ∧ k2 k % 2 = k % 2 := by
    unfold k2
    split <;> omega
  have hk1 : 0 ≤ k1 k ∧ k1 k < 4 ∧ k1 k / 2 = k / 2 ∧ k1 k % 2 = 1 - k % 2 := by
    unfold k1
    split <;> omega
  have S0 := hS k hk.1 hk.2
  have S2 := hS (k2 k) hk2.1 hk2.2.1
  have S1 := hS (k1 k) hk1.1 hk1.2.1
  rw [hk2.2.2.1, hk2.2.2.2] at S2
  rw [hk1.2.2.1, hk1.2.2.2] at S1
  have b0 := S0.1
  have b1 := S1.1 b
  have b2 := S2.1 a
  have b3 := S0.1 a
  have b4 := S0.1 b
  obtain ⟨w0, t0, c0, d0, -, v0⟩ := S0.2.1 g
  have p0 := playPair_seq (a := a) (b := b) (by omega) (by omega) c0 d0
  obtain ⟨w2, t2, c2, d2, -, v2⟩ := S2.2.1 t0
  have p2 := playPair_seq (a := a) (b := b) (by omega) (by omega) c2 d2
  obtain ⟨w1, t1, c1, d1, -, v1⟩ := S1.2.1 t2
  have p1 := playPair_seq (a := a) (b := b) (by omega) (by omega) c1 d1
  unfold m_Mind_isSteady stdy
  rw [p0, bnd_s, v0 a ha.1 ha.2, bnd_s, v0 b hb.1 hb.2, bnd_s, p2, bnd_s, v2 a ha.1 ha.2, bnd_s]
  by_cases c : W (k2 k) a < W k a
  · rw [clt_t (by omega)]
    exact ⟨t2, Or.inr ⟨fun q => q.1 c, rfl⟩⟩
  · rw [clt_f (by omega), p1, bnd_s, v1 b hb.1 hb.2, bnd_s]
    by_cases c3 : W (k1 k) b < W k b
    · rw [clt_t (by omega)]
      exact ⟨t1, Or.inr ⟨fun q => q.2 c3, rfl⟩⟩
    · rw [clt_f (by omega)]
      exact ⟨t1, Or.inl ⟨⟨c, c3⟩, rfl⟩⟩
theorem xor2 {k : Int} (hk : 0 ≤ k ∧ k < 4) : z_xor k 2 = k2 k ∧ z_xor k 1 = k1 k := by
  have hkk : k = 0 ∨ k = 1 ∨ k = 2 ∨ k = 3 := by omega
  rcases hkk with q | q | q | q <;> subst q <;> exact ⟨by decide +kernel, by decide +kernel⟩
theorem two_loop {a b : Int} {W : Int → Int → Int} (ha : 0 ≤ a ∧ a < 4) (hb : 0 ≤ b ∧ b < 4) (hS : ∀ k : Int, 0 ≤ k → k < 4 → SV (Lij a b (k / 2) (k % 2)) vow vbt vki vpl vva vwr (W k)) {ends rf mr : Int → Int} (hE : ∀ j : Int, 0 ≤ j → j < 4 → ends (2 * j) = W j a ∧ ends (2 * j + 1) = W j b) {u : MS} : ∀ (d : Nat) (k : Int) (g : TG) (fD fM : Nat), k + d = 4 → 0 ≤ k → d < fD → d < fM → ∃ (r : Int) (t : TG), m_Vol_two_27 fD a b k vow vbt vki vpl vva vwr g.1 g.2.1 g.2.2.1 g.2.2.2.1 g.2.2.2.2.1 g.2.2.2.2.2.1 g.2.2.2.2.2.2.1 g.2.2.2.2.2.2.2.1 g.2.2.2.2.2.2.2.2 rf = some (r, t.1, t.2.1, t.2.2.1, t.2.2.2.1, t.2.2.2.2.1, t.2.2.2.2.2.1, t.2.2.2.2.2.2.1, t.2.2.2.2.2.2.2.1, t.2.2.2.2.2.2.2.2, rf) ∧ m_Mod_two_22 fM k u.1 u.2.1 u.2.2.1 u.2.2.2.1 mr u.2.2.2.2.1 u.2.2.2.2.2.1 u.2.2.2.2.2.2.1 u.2.2.2.2.2.2.2.1 u.2.2.2.2.2.2.2.2.1 u.2.2.2.2.2.2.2.2.2.1 u.2.2.2.2.2.2.2.2.2.2 ends = some (r, u.1, u.2.1, u.2.2.1, u.2.2.2.1, mr, u.2.2.2.2.1, u.2.2.2.2.2.1, u.2.2.2.2.2.2.1, u.2.2.2.2.2.2.2.1, u.2.2.2.2.2.2.2.2.1, u.2.2.2.2.2.2.2.2.2.1, u.2.2.2.2.2.2.2.2.2.2, ends) := by
  intro d
  induction d with
  | zero =>
    intro k g fD fM h1 h2 h3 h4
    cases fD with
    | zero => omega
    | succ fD =>
      cases fM with
      | zero => omega
      | succ fM => exact ⟨-9, g, by rw [m_Vol_two_27, clt_f (by omega)], by rw [m_Mod_two_22, clt_f (by omega)]⟩
  | succ d ih =>
    intro k g fD fM h1 h2 h3 h4
    cases fD with
    | zero => omega
    | succ fD =>
      cases fM with
      | zero => omega
      | succ fM =>
        have hk2 : 0 ≤ k2 k ∧ k2 k < 4 := by
          unfold k2
          split <;> omega
        have hk1 : 0 ≤ k1 k ∧ k1 k < 4 := by
          unfold k1
          split <;> omega
        obtain ⟨x2, x1⟩ := xor2 (k := k) ⟨h2, by omega⟩
        have E0 := hE k h2 (by omega)
        have E2 := hE (k2 k) hk2.1 hk2.2
        have E1 := hE (k1 k) hk1.1 hk1.2
        have B0 := (hS k h2 (by omega)).1
        have B0a := B0 a
        have B0b := B0 b
        have B1 := (hS (k1 k) hk1.1 hk1.2).1 b
        have B2 := (hS (k2 k) hk2.1 hk2.2).1 a
        obtain ⟨t, ht⟩ := steady_row ha hb hS (k := k) ⟨h2, by omega⟩ g
        have kM : m_Mod_two_22 (fM + 1) k u.1 u.2.1 u.2.2.1 u.2.2.2.1 mr u.2.2.2.2.1 u.2.2.2.2.2.1 u.2.2.2.2.2.2.1 u.2.2.2.2.2.2.2.1 u.2.2.2.2.2.2.2.2.1 u.2.2.2.2.2.2.2.2.2.1 u.2.2.2.2.2.2.2.2.2.2 ends = if ¬ W (k2 k) a < W k a ∧ ¬ W (k1 k) b < W k b then some (10 * (k / 2) + k % 2, u.1, u.2.1, u.2.2.1, u.2.2.2.1, mr, u.2.2.2.2.1, u.2.2.2.2.2.1, u.2.2.2.2.2.2.1, u.2.2.2.2.2.2.2.1, u.2.2.2.2.2.2.2.2.1, u.2.2.2.2.2.2.2.2.2.1, u.2.2.2.2.2.2.2.2.2.2, ends) else m_Mod_two_22 fM (k + 1) u.1 u.2.1 u.2.2.1 u.2.2.2.1 mr u.2.2.2.2.1 u.2.2.2.2.2.1 u.2.2.2.2.2.2.1 u.2.2.2.2.2.2.2.1 u.2.2.2.2.2.2.2.2.1 u.2.2.2.2.2.2.2.2.2.1 u.2.2.2.2.2.2.2.2.2.2 ends := by
          rw [m_Mod_two_22, clt_t (by omega), x2, x1, gd_x (by omega), gd_x (by omega), E2.1, E0.1, E1.2, E0.2]
          by_cases c : W (k2 k) a < W k a
          · rw [clt_t (by omega), if_neg (fun q => q.1 c)]
          · rw [clt_f (by omega), gd_x (by omega), gd_x (by omega)]
            by_cases c3 : W (k1 k) b < W k b
            · rw [clt_t (by omega), if_neg (fun q => q.2 c3)]
            · rw [clt_f (by omega), gd_xz (by omega), gd_xz (by omega), if_pos ⟨c, c3⟩]
        rcases ht with ⟨hs, e⟩ | ⟨hs, e⟩
        · unfold stdy at hs
          refine ⟨10 * (k / 2) + k % 2, t, ?_, ?_⟩
          · rw [m_Vol_two_27, clt_t (by omega), gd_xz (by omega), gd_xz (by omega), e, bnd_s]
            dsimp only
            rw [ceq_f (by omega), gd_xz (by omega), gd_xz (by omega)]
          · rw [kM, if_pos hs]
        · unfold stdy at hs
          obtain ⟨r, t', y1, y2⟩ := ih (k + 1) t fD fM (by omega) (by omega) (by omega) (by omega)
          refine ⟨r, t', ?_, ?_⟩
          · rw [m_Vol_two_27, clt_t (by omega), gd_xz (by omega), gd_xz (by omega), e, bnd_s]
            dsimp only
            rw [ceq_t (by omega)]
            exact y1
          · rw [kM, if_neg hs]
            exact y2
end TWO
theorem e_two : E_two := by
  intro ik now nbt nki npl nva nwr kow kbt kki kpl kva kwr smn snu rmn rnu rf mr mb mo ml mw mt mk mp mq mz mh my mn tow tbt tki tpl tva twr trm trs trz sm sM mi mc me x1 x2 hR hx hx2
  obtain ⟨hI, hD, hk, hk1, h5, h6, h7⟩ := id hR
  unfold m_Vol_two m_Mod_two
  simp only [jn_s]
  rw [p_Vol_isFile hx, bnd_s, ceq_yn, p_areTwo hx hx2, bnd_s, ceq_yn]
  by_cases ha : 0 ≤ x1 ∧ x1 < 4
  · rw [if_pos ha, p_Vol_isFile hx2, bnd_s, ceq_yn]
    by_cases hb : 0 ≤ x2 ∧ x2 < 4
    · rw [if_pos hb]
      by_cases hne : x1 = x2
      · rw [ceq_t (by omega), if_neg (fun q => q.2.2 hne), p_refuse (by omega), p_no (by omega), bnd_s, bnd_s]
        exact ⟨_, _, rfl, rfl, rfl, hR.no (-1) (by omega)⟩
      · rw [ceq_f (by omega), if_pos ⟨ha, hb, hne⟩]
        have hex : ∀ k : Int, ∃ W, SV (Lij x1 x2 (k / 2) (k % 2)) now nbt nki npl nva nwr W := fun k => seq_val hI hD _ (Lij_ok ha hb)
        have hW : ∃ W : Int → Int → Int, ∀ k : Int, 0 ≤ k → k < 4 → SV (Lij x1 x2 (k / 2) (k % 2)) now nbt nki npl nva nwr (W k) := ⟨fun k => Classical.choose (hex k), fun k _ _ => Classical.choose_spec (hex k)⟩
        obtain ⟨W, hS⟩ := hW
        obtain ⟨u, ends, s1, s2, s3⟩ := findEnds_loop ha hb hS hI hD (mz := mz) 4 0 (sm, sM, mi, mc, mb, mo, ml, mw, mt, mk, mz) me 5000 (by omega) (by omega) (by omega) Sm.rf (fun j q0 q1 => by omega)
        have s3 : m_Mod_findEnds x1 x2 sm sM mi mc mb mo ml mw mt mk mz me = _ := s3
        obtain ⟨r, t, y1, y2⟩ := two_loop (rf := rf) (mr := mr) (u := u) ha hb hS s2 4 0 (tow, tbt, tki, tpl, tva, twr, trm, trs, trz) 5000 5000 (by omega) (by omega) (by omega) (by omega)
        dsimp only at y1
        rw [s3, bnd_s, y1]
        dsimp only
        rw [y2]
        exact ⟨_, _, rfl, rfl, rfl, hR.sm s1⟩
    · rw [if_neg hb, if_neg (fun q => hb q.2.1), p_refuse (by omega), p_no (by omega), bnd_s, bnd_s]
      exact ⟨_, _, rfl, rfl, rfl, hR.no (-1) (by omega)⟩
  · rw [if_neg ha, if_neg (fun q => ha q.1), p_refuse (by omega), p_no (by omega), bnd_s, bnd_s]
    exact ⟨_, _, rfl, rfl, rfl, hR.no (-1) (by omega)⟩
