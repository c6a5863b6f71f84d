/-! e_order -/
def skD : Nat → Int → Bool
  | 0, _ => true
  | n + 1, p => decide (m_Mind_isOrder p = some 0) && skD n (p + 1)
def skM : Nat → Int → Bool
  | 0, _ => true
  | n + 1, p => decide (m_Mod_isOrder p = some 0) && skM n (p + 1)
def mdg (c : Int) : Int := 1000 * (c / 64 % 4 + 1) + 100 * (c / 16 % 4 + 1) + 10 * (c / 4 % 4 + 1) + (c % 4 + 1)
def chk : Int → Int → List (Nat × Nat) → Bool
  | pD, pM, [] => skD (256 - pD).toNat pD && skM (4322 - pM).toNat pM
  | pD, pM, n :: L => skD n.1 pD && (decide (m_Mind_isOrder (pD + n.1) = some 1) && (skM n.2 pM && (decide (m_Mod_isOrder (pM + n.2) = some 1) && (decide (pM + n.2 = mdg (pD + n.1) ∧ pD + n.1 < 256 ∧ pM + n.2 < 4322) && chk (pD + n.1 + 1) (pM + n.2 + 1) L))))
def gaps : List (Nat × Nat) := [(27, 0), (2, 8), (8, 80), (5, 17), (8, 80), (2, 8), (17, 701), (2, 8), (20, 170), (8, 26), (5, 71), (5, 17), (14, 692), (5, 17), (5, 71), (8, 26), (20, 170), (2, 8), (17, 701), (2, 8), (8, 80), (5, 17), (8, 80), (2, 8)]
theorem chk_ok : chk 0 1234 gaps = true := by decide +kernel
def ckF : Nat → Bool
  | 0 => true
  | n + 1 => decide (m_Vol_fileOfOrder n 0 = some ((n : Int) / 64 % 4) ∧ m_Vol_fileOfOrder n 1 = some ((n : Int) / 16 % 4) ∧ m_Vol_fileOfOrder n 2 = some ((n : Int) / 4 % 4) ∧ m_Vol_fileOfOrder n 3 = some ((n : Int) % 4)) && ckF n
theorem ckF_ok : ckF 256 = true := by decide +kernel
theorem ckF_at : ∀ (n : Nat), ckF n = true → ∀ c : Int, 0 ≤ c → c < n → m_Vol_fileOfOrder c 0 = some (c / 64 % 4) ∧ m_Vol_fileOfOrder c 1 = some (c / 16 % 4) ∧ m_Vol_fileOfOrder c 2 = some (c / 4 % 4) ∧ m_Vol_fileOfOrder c 3 = some (c % 4)
  | 0, _, c, h0, h1 => by omega
  | n + 1, h, c, h0, h1 => by
    rw [ckF, Bool.and_eq_true] at h
    by_cases q : c = n
    · subst q
      exact of_decide_eq_true h.1
    · exact ckF_at n h.2 c h0 (by omega)
theorem p_fileOf {c : Int} (h : 0 ≤ c ∧ c < 256) : m_Vol_fileOfOrder c 0 = some (c / 64 % 4) ∧ m_Vol_fileOfOrder c 1 = some (c / 16 % 4) ∧ m_Vol_fileOfOrder c 2 = some (c / 4 % 4) ∧ m_Vol_fileOfOrder c 3 = some (c % 4) := ckF_at 256 ckF_ok c h.1 h.2
def fls (c : Int) : List Int := [c / 64 % 4, c / 16 % 4, c / 4 % 4, c % 4]
theorem fls_ok {c : Int} : ∀ f ∈ fls c, 0 ≤ f ∧ f < 4 := by
  intro f hf
  unfold fls at hf
  simp only [List.mem_cons, List.not_mem_nil, or_false] at hf
  omega
theorem p_digits {c : Int} (h : 0 ≤ c ∧ c < 256) : m_Vol_orderInDigits c = some (mdg c) := by
  obtain ⟨f0, f1, f2, f3⟩ := p_fileOf h
  unfold m_Vol_orderInDigits
  rw [m_Vol_orderInDigits_4, clt_t (by omega), f0, bnd_s, m_Vol_orderInDigits_4, clt_t (by omega), show (0 : Int) + 1 = 1 from rfl, f1, bnd_s, m_Vol_orderInDigits_4, clt_t (by omega), show (1 : Int) + 1 = 2 from rfl, f2, bnd_s, m_Vol_orderInDigits_4, clt_t (by omega), show (2 : Int) + 1 = 3 from rfl, f3, bnd_s, m_Vol_orderInDigits_4, clt_f (by omega)]
  unfold mdg
  exact congrArg some (by omega)
theorem dig_at (a b e d : Int) (ha : 0 ≤ a ∧ a < 4) (hb : 0 ≤ b ∧ b < 4) (he : 0 ≤ e ∧ e < 4) (hd : 0 ≤ d ∧ d < 4) : (1000 * (a + 1) + 100 * (b + 1) + 10 * (e + 1) + (d + 1)) / 1000 % 10 - 1 = a ∧ (1000 * (a + 1) + 100 * (b + 1) + 10 * (e + 1) + (d + 1)) / 100 % 10 - 1 = b ∧ (1000 * (a + 1) + 100 * (b + 1) + 10 * (e + 1) + (d + 1)) / 10 % 10 - 1 = e ∧ (1000 * (a + 1) + 100 * (b + 1) + 10 * (e + 1) + (d + 1)) / 1 % 10 - 1 = d := by
  have q1 : (1000 * (a + 1) + 100 * (b + 1) + 10 * (e + 1) + (d + 1)) / 1000 = a + 1 := by omega
  have q2 : (1000 * (a + 1) + 100 * (b + 1) + 10 * (e + 1) + (d + 1)) / 100 = 10 * (a + 1) + (b + 1) := by omega
  have q3 : (1000 * (a + 1) + 100 * (b + 1) + 10 * (e + 1) + (d + 1)) / 10 = 100 * (a + 1) + 10 * (b + 1) + (e + 1) := by omega
  rw [q1, q2, q3]
  refine ⟨by omega, by omega, by omega, by omega⟩
section ORD
variable {bt ow bl wr wa ki vow vbt vki vpl vva vwr : Int → Int}
theorem orderD_row {c n : Int} {g t : TG} {w' : Int → Int} (hc : 0 ≤ c ∧ c < 256) (c1 : m_Disk_copyFrom g.1 g.2.1 g.2.2.1 g.2.2.2.1 g.2.2.2.2.1 g.2.2.2.2.2.1 vow vbt vki vpl vva vwr = some (vow, vbt, vki, vpl, vva, w')) (h : dseq (fls c) (vow, vbt, vki, vpl, vva, w', g.2.2.2.2.2.2.1, g.2.2.2.2.2.2.2.1, g.2.2.2.2.2.2.2.2) = some t) (hn : m_Disk_extentsInAll t.2.2.2.1 t.2.2.2.2.2.1 = some n) : m_Mind_extentsByOrder c vow vbt vki vpl vva vwr g.1 g.2.1 g.2.2.1 g.2.2.2.1 g.2.2.2.2.1 g.2.2.2.2.2.1 g.2.2.2.2.2.2.1 g.2.2.2.2.2.2.2.1 g.2.2.2.2.2.2.2.2 = some (n, t) := by
  obtain ⟨f0, f1, f2, f3⟩ := p_fileOf hc
  unfold m_Mind_extentsByOrder
  rw [c1, bnd_s]
  dsimp only
  unfold fls at h
  rw [dseq] at h
  obtain ⟨r1, e1, h⟩ := bnd_e h
  rw [dseq] at h
  obtain ⟨r2, e2, h⟩ := bnd_e h
  rw [dseq] at h
  obtain ⟨r3, e3, h⟩ := bnd_e h
  rw [dseq] at h
  obtain ⟨r4, e4, h⟩ := bnd_e h
  rw [dseq] at h
  cases h
  rw [m_Mind_extentsByOrder_13, clt_t (by omega), f0, bnd_s, e1, bnd_s, m_Mind_extentsByOrder_13, clt_t (by omega), show (0 : Int) + 1 = 1 from rfl, f1, bnd_s, e2, bnd_s, m_Mind_extentsByOrder_13, clt_t (by omega), show (1 : Int) + 1 = 2 from rfl, f2, bnd_s, e3, bnd_s, m_Mind_extentsByOrder_13, clt_t (by omega), show (2 : Int) + 1 = 3 from rfl, f3, bnd_s, e4, bnd_s, m_Mind_extentsByOrder_13, clt_f (by omega), hn, bnd_s]
theorem orderM_row {c n : Int} {x : MS} {y : MR} (hc : 0 ≤ c ∧ c < 256) (h : mseq x.2.2.2.2.2.2.2.2.2.1 (fls c) (x.1, x.2.1, x.2.2.2.2.1, x.2.2.2.2.2.1, x.2.2.2.2.2.2.1, x.2.2.2.2.2.2.2.1, x.2.2.2.2.2.2.2.2.1) = some y) (hn : m_Mod_allExtents y.2.2.2.2.1 y.2.2.2.2.2.1 = some n) : ∃ u : MS, m_Mod_extentsIn (mdg c) x.1 x.2.1 x.2.2.1 x.2.2.2.1 x.2.2.2.2.1 x.2.2.2.2.2.1 x.2.2.2.2.2.2.1 x.2.2.2.2.2.2.2.1 x.2.2.2.2.2.2.2.2.1 x.2.2.2.2.2.2.2.2.2.1 x.2.2.2.2.2.2.2.2.2.2 = some (n, u) ∧ SmT x.2.2.2.2.1 x.2.2.2.2.2.1 x.2.2.2.2.2.2.1 x.2.2.2.2.2.2.2.1 x.2.2.2.2.2.2.2.2.1 x.2.2.2.2.2.2.2.2.2.1 x.2.2.2.2.2.2.2.2.2.2 u := by
  obtain ⟨cu, kp, m1, m2⟩ := minds_forgets x.2.2.1 x.2.2.2.1 x.2.2.2.2.1 x.2.2.2.2.2.1 x.2.2.2.2.2.2.1 x.2.2.2.2.2.2.2.1 x.2.2.2.2.2.2.2.2.1 x.2.2.2.2.2.2.2.2.2.1 x.2.2.2.2.2.2.2.2.2.2
  obtain ⟨c2, b3, o3, l3, w3, t3, k3, m3, m4⟩ := m2 1 cu y.2.2.1 y.2.2.2.1 y.2.2.2.2.1 y.2.2.2.2.2.1 y.2.2.2.2.2.2 x.2.2.2.2.2.2.2.2.2.1
  refine ⟨(y.1, y.2.1, 0, c2, b3, o3, l3, w3, t3, k3, kp), ?_, m4⟩
  have hm : 0 ≤ mdg c ∧ mdg c < 10000 := by unfold mdg; omega
  obtain ⟨g0, g1, g2, g3⟩ := dig_at (c / 64 % 4) (c / 16 % 4) (c / 4 % 4) (c % 4) (by omega) (by omega) (by omega) (by omega)
  have g0 : mdg c / 1000 % 10 - 1 = c / 64 % 4 := g0
  have g1 : mdg c / 100 % 10 - 1 = c / 16 % 4 := g1
  have g2 : mdg c / 10 % 10 - 1 = c / 4 % 4 := g2
  have g3 : mdg c / 1 % 10 - 1 = c % 4 := g3
  unfold m_Mod_extentsIn
  rw [m1, bnd_s]
  dsimp only
  unfold fls at h
  rw [mseq] at h
  obtain ⟨r1, e1, h⟩ := bnd_e h
  rw [mseq] at h
  obtain ⟨r2, e2, h⟩ := bnd_e h
  rw [mseq] at h
  obtain ⟨r3, e3, h⟩ := bnd_e h
  rw [mseq] at h
  obtain ⟨r4, e4, h⟩ := bnd_e h
  rw [mseq] at h
  cases h
  rw [m_Mod_extentsIn_8, cle_f (by omega), gd_xz (by omega), gd_xz (by omega), g0, e1, bnd_s, gd_xz (by omega), show (1000 : Int) / 10 = 100 from rfl, m_Mod_extentsIn_8, cle_f (by omega), gd_xz (by omega), gd_xz (by omega), g1, e2, bnd_s, gd_xz (by omega), show (100 : Int) / 10 = 10 from rfl, m_Mod_extentsIn_8, cle_f (by omega), gd_xz (by omega), gd_xz (by omega), g2, e3, bnd_s, gd_xz (by omega), show (10 : Int) / 10 = 1 from rfl, m_Mod_extentsIn_8, cle_f (by omega), gd_xz (by omega), gd_xz (by omega), g3, e4, bnd_s, gd_xz (by omega), show (1 : Int) / 10 = 0 from rfl, m_Mod_extentsIn_8, cle_t (by omega), hn, bnd_s, m3, bnd_s]
theorem skD_row {bD lD : Int} {g : TG} : ∀ (n : Nat) (p : Int) (fuel : Nat), skD n p = true → 0 ≤ p → p + n ≤ 256 → m_Mind_leastOrder_6 (fuel + n) bD lD p vow vbt vki vpl vva vwr g.1 g.2.1 g.2.2.1 g.2.2.2.1 g.2.2.2.2.1 g.2.2.2.2.2.1 g.2.2.2.2.2.2.1 g.2.2.2.2.2.2.2.1 g.2.2.2.2.2.2.2.2 = m_Mind_leastOrder_6 fuel bD lD (p + n) vow vbt vki vpl vva vwr g.1 g.2.1 g.2.2.1 g.2.2.2.1 g.2.2.2.2.1 g.2.2.2.2.2.1 g.2.2.2.2.2.2.1 g.2.2.2.2.2.2.2.1 g.2.2.2.2.2.2.2.2
  | 0, p, fuel, _, _, _ => by
    rw [show p + ((0 : Nat) : Int) = p by omega]
    rfl
  | n + 1, p, fuel, h, h0, h1 => by
    rw [skD, Bool.and_eq_true] at h
    have e := of_decide_eq_true h.1
    rw [show fuel + (n + 1) = (fuel + n) + 1 by omega, m_Mind_leastOrder_6, clt_t (by omega), e, bnd_s]
    simp only [jn_s]
    rw [ceq_t (by omega), clt_t (by omega), skD_row n (p + 1) fuel h.2 (by omega) (by omega), show p + 1 + (n : Int) = p + ((n + 1 : Nat) : Int) by omega]
theorem skM_row {w bM lM : Int} {mr : Int → Int} {x : MS} : ∀ (n : Nat) (p : Int) (fuel : Nat), skM n p = true → 0 ≤ p → p + n ≤ 4322 → m_Mod_order_26 (fuel + n) w bM lM p x.1 x.2.1 x.2.2.1 x.2.2.2.1 mr x.2.2.2.2.1 x.2.2.2.2.2.1 x.2.2.2.2.2.2.1 x.2.2.2.2.2.2.2.1 x.2.2.2.2.2.2.2.2.1 x.2.2.2.2.2.2.2.2.2.1 x.2.2.2.2.2.2.2.2.2.2 = m_Mod_order_26 fuel w bM lM (p + n) x.1 x.2.1 x.2.2.1 x.2.2.2.1 mr x.2.2.2.2.1 x.2.2.2.2.2.1 x.2.2.2.2.2.2.1 x.2.2.2.2.2.2.2.1 x.2.2.2.2.2.2.2.2.1 x.2.2.2.2.2.2.2.2.2.1 x.2.2.2.2.2.2.2.2.2.2
  | 0, p, fuel, _, _, _ => by
    rw [show p + ((0 : Nat) : Int) = p by omega]
    rfl
  | n + 1, p, fuel, h, h0, h1 => by
    rw [skM, Bool.and_eq_true] at h
    have e := of_decide_eq_true h.1
    rw [show fuel + (n + 1) = (fuel + n) + 1 by omega, m_Mod_order_26, cle_t (by omega), e, bnd_s, ceq_t (by omega), skM_row n (p + 1) fuel h.2 (by omega) (by omega), show p + 1 + (n : Int) = p + ((n + 1 : Nat) : Int) by omega]
theorem order_loop (hI : Inv bt ow bl wr wa ki) (hD : Dsk vow vbt vki vpl vva vwr bt ow bl wr wa ki) {V : Int → Int} {w : Int} (hw : w = 0 ∨ w = 1) (hS : ∀ c : Int, ∃ W, SV (fls c) vow vbt vki vpl vva vwr W ∧ V c = W 0 + W 1 + W 2 + W 3) {mr mz : Int → Int} : ∀ (L : List (Nat × Nat)) (pD pM bD lD bM lM : Int) (g : TG) (x : MS) (fD fM : Nat), chk pD pM L = true → 0 ≤ pD → pD ≤ 256 → 0 ≤ pM → pM ≤ 4322 → 256 - pD < fD → 4322 - pM < fM → SmT bt ow bl wr wa ki mz x → ((bD = -1 ∧ bM = -9 ∧ lD = 0 ∧ lM = 0) ∨ (0 ≤ bD ∧ bD < 256 ∧ bM = mdg bD ∧ lD = V bD ∧ lM = V bD)) → (L ≠ [] ∨ 0 ≤ bD) →
    ∃ (best : Int) (t : TG) (u : MS), 0 ≤ best ∧ best < 256 ∧ m_Mind_leastOrder_6 fD bD lD pD vow vbt vki vpl vva vwr g.1 g.2.1 g.2.2.1 g.2.2.2.1 g.2.2.2.2.1 g.2.2.2.2.2.1 g.2.2.2.2.2.2.1 g.2.2.2.2.2.2.2.1 g.2.2.2.2.2.2.2.2 = some (best, t) ∧ m_Mod_order_26 fM w bM lM pM x.1 x.2.1 x.2.2.1 x.2.2.2.1 mr x.2.2.2.2.1 x.2.2.2.2.2.1 x.2.2.2.2.2.2.1 x.2.2.2.2.2.2.2.1 x.2.2.2.2.2.2.2.2.1 x.2.2.2.2.2.2.2.2.2.1 x.2.2.2.2.2.2.2.2.2.2 = some (if w = 0 then mdg best else V best, u.1, u.2.1, u.2.2.1, u.2.2.2.1, mr, u.2.2.2.2.1, u.2.2.2.2.2.1, u.2.2.2.2.2.2.1, u.2.2.2.2.2.2.2.1, u.2.2.2.2.2.2.2.2.1, u.2.2.2.2.2.2.2.2.2.1, u.2.2.2.2.2.2.2.2.2.2) ∧ SmT bt ow bl wr wa ki mz u := by
  intro L
  induction L with
  | nil =>
    intro pD pM bD lD bM lM g x fD fM h h0 h1 h2 h3 h4 h5 h6 h7 h8
    rw [chk, Bool.and_eq_true] at h
    have e1 := skD_row (vow := vow) (vbt := vbt) (vki := vki) (vpl := vpl) (vva := vva) (vwr := vwr) (bD := bD) (lD := lD) (g := g) (256 - pD).toNat pD (fD - (256 - pD).toNat) h.1 h0 (by omega)
    rw [show fD - (256 - pD).toNat + (256 - pD).toNat = fD by omega, show pD + ((256 - pD).toNat : Int) = 256 by omega] at e1
    have e2 := skM_row (w := w) (bM := bM) (lM := lM) (mr := mr) (x := x) (4322 - pM).toNat pM (fM - (4322 - pM).toNat) h.2 h2 (by omega)
    rw [show fM - (4322 - pM).toNat + (4322 - pM).toNat = fM by omega, show pM + ((4322 - pM).toNat : Int) = 4322 by omega] at e2
    have h9 : 0 ≤ bD ∧ bD < 256 ∧ bM = mdg bD ∧ lD = V bD ∧ lM = V bD := by
      rcases h7 with q | q
      · rcases h8 with q2 | q2
        · exact absurd rfl q2
        · omega
      · exact q
    obtain ⟨a1, a2, a3, a4, a5⟩ := h9
    refine ⟨bD, g, x, a1, a2, ?_, ?_, h6⟩
    · rw [e1]
      cases hq : fD - (256 - pD).toNat with
      | zero => omega
      | succ z => rw [m_Mind_leastOrder_6, clt_f (by omega)]
    · rw [e2]
      cases hq : fM - (4322 - pM).toNat with
      | zero => omega
      | succ z =>
        rw [m_Mod_order_26, cle_f (by omega)]
        rcases hw with hw | hw
        · rw [ceq_t (by omega), if_pos hw, a3]
        · rw [ceq_f (by omega), if_neg (by omega), a5]
  | cons n L ih =>
    intro pD pM bD lD bM lM g x fD fM h h0 h1 h2 h3 h4 h5 h6 h7 h8
    rw [chk, Bool.and_eq_true, Bool.and_eq_true, Bool.and_eq_true, Bool.and_eq_true, Bool.and_eq_true] at h
    obtain ⟨k1, k2, k3, k4, k5, k6⟩ := h
    have k2 := of_decide_eq_true k2
    have k4 := of_decide_eq_true k4
    obtain ⟨k5, k7, k8⟩ := of_decide_eq_true k5
    have e1 := skD_row (vow := vow) (vbt := vbt) (vki := vki) (vpl := vpl) (vva := vva) (vwr := vwr) (bD := bD) (lD := lD) (g := g) n.1 pD (fD - n.1) k1 h0 (by omega)
    rw [show fD - n.1 + n.1 = fD by omega] at e1
    have e2 := skM_row (w := w) (bM := bM) (lM := lM) (mr := mr) (x := x) n.2 pM (fM - n.2) k3 h2 (by omega)
    rw [show fM - n.2 + n.2 = fM by omega] at e2
    obtain ⟨W, S, hV⟩ := hS (pD + n.1)
    have w0 := S.1 0
    have w1 := S.1 1
    have w2 := S.1 2
    have w3 := S.1 3
    obtain ⟨w', t, d1, d2, d3, -⟩ := S.2.1 g
    have d4 := orderD_row (c := pD + n.1) ⟨by omega, k7⟩ d1 d2 d3
    obtain ⟨y, y1, y2, -⟩ := S.2.2 (x.1, x.2.1, x.2.2.2.2.1, x.2.2.2.2.2.1, x.2.2.2.2.2.2.1, x.2.2.2.2.2.2.2.1, x.2.2.2.2.2.2.2.2.1) x.2.2.2.2.2.2.2.2.2.1 (h6.inv hI) (h6.dsk hD)
    obtain ⟨u, m1, m2⟩ := orderM_row (c := pD + n.1) ⟨by omega, k7⟩ y1 y2
    rw [← hV] at d4 m1
    rw [← k5] at m1
    rw [e1, e2]
    cases hq : fD - n.1 with
    | zero => omega
    | succ z =>
      cases hq2 : fM - n.2 with
      | zero => omega
      | succ z2 =>
        have bb : bD < 256 ∧ -1 ≤ bD ∧ 0 ≤ lD ∧ lD ≤ 96 ∧ -9 ≤ bM ∧ bM ≤ 10000 ∧ 0 ≤ lM ∧ lM ≤ 96 := by
          rcases h7 with q | ⟨q1, q2, q3, q4, q5⟩
          · omega
          · obtain ⟨W', S', hV'⟩ := hS bD
            have := S'.1 0
            have := S'.1 1
            have := S'.1 2
            have := S'.1 3
            unfold mdg at q3
            omega
        have kD : m_Mind_leastOrder_6 (z + 1) bD lD (pD + n.1) vow vbt vki vpl vva vwr g.1 g.2.1 g.2.2.1 g.2.2.2.1 g.2.2.2.2.1 g.2.2.2.2.2.1 g.2.2.2.2.2.2.1 g.2.2.2.2.2.2.2.1 g.2.2.2.2.2.2.2.2 = if bD < 0 ∨ V (pD + n.1) < lD then m_Mind_leastOrder_6 z (pD + n.1) (V (pD + n.1)) (pD + n.1 + 1) vow vbt vki vpl vva vwr t.1 t.2.1 t.2.2.1 t.2.2.2.1 t.2.2.2.2.1 t.2.2.2.2.2.1 t.2.2.2.2.2.2.1 t.2.2.2.2.2.2.2.1 t.2.2.2.2.2.2.2.2 else m_Mind_leastOrder_6 z bD lD (pD + n.1 + 1) vow vbt vki vpl vva vwr t.1 t.2.1 t.2.2.1 t.2.2.2.1 t.2.2.2.2.1 t.2.2.2.2.2.1 t.2.2.2.2.2.2.1 t.2.2.2.2.2.2.2.1 t.2.2.2.2.2.2.2.2 := by
          rw [m_Mind_leastOrder_6, clt_t (by omega), k2, bnd_s]
          simp only [jn_s]
          rw [ceq_f (by omega), d4, bnd_s]
          dsimp only
          rw [clt_f (by omega)]
          by_cases c : bD < 0
          · rw [clt_t (by omega), if_pos (Or.inl c)]
          · rw [clt_f (by omega)]
            by_cases c2 : V (pD + n.1) < lD
            · rw [clt_t (by omega), if_pos (Or.inr c2)]
            · rw [clt_f (by omega), if_neg (fun q => q.elim c c2)]
        have kM : m_Mod_order_26 (z2 + 1) w bM lM (pM + n.2) x.1 x.2.1 x.2.2.1 x.2.2.2.1 mr x.2.2.2.2.1 x.2.2.2.2.2.1 x.2.2.2.2.2.2.1 x.2.2.2.2.2.2.2.1 x.2.2.2.2.2.2.2.2.1 x.2.2.2.2.2.2.2.2.2.1 x.2.2.2.2.2.2.2.2.2.2 = if bM < 0 ∨ V (pD + n.1) < lM then m_Mod_order_26 z2 w (pM + n.2) (V (pD + n.1)) (pM + n.2 + 1) u.1 u.2.1 u.2.2.1 u.2.2.2.1 mr u.2.2.2.2.1 u.2.2.2.2.2.1 u.2.2.2.2.2.2.1 u.2.2.2.2.2.2.2.1 u.2.2.2.2.2.2.2.2.1 u.2.2.2.2.2.2.2.2.2.1 u.2.2.2.2.2.2.2.2.2.2 else m_Mod_order_26 z2 w bM lM (pM + n.2 + 1) u.1 u.2.1 u.2.2.1 u.2.2.2.1 mr u.2.2.2.2.1 u.2.2.2.2.2.1 u.2.2.2.2.2.2.1 u.2.2.2.2.2.2.2.1 u.2.2.2.2.2.2.2.2.1 u.2.2.2.2.2.2.2.2.2.1 u.2.2.2.2.2.2.2.2.2.2 := by
          rw [m_Mod_order_26, cle_t (by omega), k4, bnd_s, ceq_f (by omega), m1, bnd_s]
          dsimp only
          by_cases c : bM < 0
          · rw [clt_t (by omega), if_pos (Or.inl c)]
          · rw [clt_f (by omega)]
            by_cases c2 : V (pD + n.1) < lM
            · rw [clt_t (by omega), if_pos (Or.inr c2)]
            · rw [clt_f (by omega), if_neg (fun q => q.elim c c2)]
        rw [kD, kM]
        by_cases c : bD < 0 ∨ V (pD + n.1) < lD
        · rw [if_pos c, if_pos (by
            rcases h7 with q | q
            · exact Or.inl (by omega)
            · exact Or.inr (by omega))]
          exact ih (pD + n.1 + 1) (pM + n.2 + 1) _ _ _ _ t u z z2 k6 (by omega) (by omega) (by omega) (by omega) (by omega) (by omega) (h6.tr m2) (Or.inr ⟨by omega, k7, k5, rfl, rfl⟩) (Or.inr (by omega))
        · have h9 : 0 ≤ bD ∧ bD < 256 ∧ bM = mdg bD ∧ lD = V bD ∧ lM = V bD := by
            rcases h7 with q | q
            · exact absurd (Or.inl (by omega)) c
            · exact q
          obtain ⟨a1, a2, a3, a4, a5⟩ := h9
          have a6 : 0 ≤ mdg bD := by unfold mdg; omega
          rw [if_neg c, if_neg (by omega)]
          exact ih (pD + n.1 + 1) (pM + n.2 + 1) bD lD bM lM t u z z2 k6 (by omega) (by omega) (by omega) (by omega) (by omega) (by omega) (h6.tr m2) (Or.inr ⟨a1, a2, a3, a4, a5⟩) (Or.inr a1)
end ORD
theorem e_order : E_order := by
  intro ik now nbt nki npl nva nwr kow kbt kki kpl kva kwr smn snu rmn rnu rf mr mb mo ml mw mt mk mp mq mz mh my mn tow tbt tki tpl tva twr trm trs trz sm sM mi mc x1 hR hx
  obtain ⟨hI, hD, hk, hk1, h5, h6, h7⟩ := id hR
  unfold m_Vol_order m_Mod_order
  rw [p_Vol_isEither hx, bnd_s, p_Mod_isIn hx (by omega) (by omega), bnd_s, ceq_yn, ceq_yn]
  by_cases hw : x1 = 0 ∨ x1 = 1
  · rw [if_pos hw, if_pos (by omega)]
    have hex : ∀ c : Int, ∃ W, SV (fls c) now nbt nki npl nva nwr W := fun c => seq_val hI hD _ fls_ok
    have hV : ∃ V : Int → Int, ∀ c : Int, ∃ W, SV (fls c) now nbt nki npl nva nwr W ∧ V c = W 0 + W 1 + W 2 + W 3 := ⟨fun c => Classical.choose (hex c) 0 + Classical.choose (hex c) 1 + Classical.choose (hex c) 2 + Classical.choose (hex c) 3, fun c => ⟨_, Classical.choose_spec (hex c), rfl⟩⟩
    obtain ⟨V, hS⟩ := hV
    obtain ⟨best, t, u, b0, b1, e1, e2, e3⟩ := order_loop hI hD hw hS (mr := mr) (mz := mz) gaps 0 1234 (-1) 0 (-9) 0 (tow, tbt, tki, tpl, tva, twr, trm, trs, trz) (sm, sM, mi, mc, mb, mo, ml, mw, mt, mk, mz) 5000 5000 chk_ok (by omega) (by omega) (by omega) (by omega) (by omega) (by omega) Sm.rf (Or.inl ⟨rfl, rfl, rfl, rfl⟩) (Or.inl (fun q => by
      unfold gaps at q
      cases q))
    have e1 : m_Mind_leastOrder now nbt nki npl nva nwr tow tbt tki tpl tva twr trm trs trz = some (best, t) := e1
    dsimp only at e2
    rw [e1, bnd_s, e2]
    rcases hw with hw | hw
    · rw [ceq_t (by omega), p_digits ⟨b0, b1⟩, bnd_s, if_pos hw]
      exact ⟨_, _, rfl, rfl, rfl, hR.sm e3⟩
    · obtain ⟨W, S, hW⟩ := hS best
      obtain ⟨w', t2, d1, d2, d3, -⟩ := S.2.1 t
      have d4 := orderD_row (c := best) ⟨b0, b1⟩ d1 d2 d3
      rw [ceq_f (by omega), d4, bnd_s, if_neg (by omega), hW]
      exact ⟨_, _, rfl, rfl, rfl, hR.sm e3⟩
  · rw [if_neg hw, if_neg (by omega), p_refuse (by omega), p_no (by omega), bnd_s, bnd_s]
    exact ⟨_, _, rfl, rfl, rfl, hR.no (-2) (by omega)⟩
