/-! the form of a volume that is told -/
def Lt (m : Int) (T : Int → Int) (i : Int) : Int := if i < m then T i else -1
def dgs (h : Int) : Int := if h = 97 ∨ h = 112 ∨ h = 119 then 5 else if h = 99 then 3 else if h = 102 ∨ h = 107 ∨ h = 115 then 1 else 0
def kd (s : Int) : Int := if s = 99 then 5 else if s = 103 then 3 else if s = 104 then 4 else if s = 110 then 1 else if s = 112 then 0 else if s = 115 then 2 else -1
theorem p_dgs {h : Int} (hb : -1 ≤ h ∧ h ≤ 255) : m_Text_digitsBehind h = some (dgs h) := by
  unfold m_Text_digitsBehind dgs
  by_cases c1 : h = 97
  · rw [ceq_t (by omega), if_pos (by omega)]
  rw [ceq_f (by omega)]
  by_cases c2 : h = 99
  · rw [ceq_t (by omega), if_neg (by omega), if_pos (by omega)]
  rw [ceq_f (by omega)]
  by_cases c3 : h = 102
  · rw [ceq_t (by omega), if_neg (by omega), if_neg (by omega), if_pos (by omega)]
  rw [ceq_f (by omega)]
  by_cases c4 : h = 107
  · rw [ceq_t (by omega), if_neg (by omega), if_neg (by omega), if_pos (by omega)]
  rw [ceq_f (by omega)]
  by_cases c5 : h = 112
  · rw [ceq_t (by omega), if_pos (by omega)]
  rw [ceq_f (by omega)]
  by_cases c6 : h = 115
  · rw [ceq_t (by omega), if_neg (by omega), if_neg (by omega), if_pos (by omega)]
  rw [ceq_f (by omega)]
  by_cases c7 : h = 119
  · rw [ceq_t (by omega), if_pos (by omega)]
  rw [ceq_f (by omega), if_neg (by omega), if_neg (by omega), if_neg (by omega)]
theorem p_kd {s : Int} (hb : -1 ≤ s ∧ s ≤ 255) : m_Text_kindOf s = some (kd s) ∧ m_Mod_kindTold s = some (if kd s < 0 then -9 else kd s) ∧ -1 ≤ kd s ∧ kd s ≤ 5 := by
  unfold m_Text_kindOf m_Mod_kindTold kd
  by_cases c1 : s = 99
  · rw [ceq_t (by omega), ceq_t (by omega), if_pos c1, if_neg (by omega)]
    exact ⟨rfl, rfl, by omega, by omega⟩
  rw [ceq_f (by omega), ceq_f (x := s) (y := 99) (by omega), if_neg c1]
  by_cases c2 : s = 103
  · rw [ceq_t (by omega), ceq_t (by omega), if_pos c2, if_neg (by omega)]
    exact ⟨rfl, rfl, by omega, by omega⟩
  rw [ceq_f (by omega), ceq_f (x := s) (y := 103) (by omega), if_neg c2]
  by_cases c3 : s = 104
  · rw [ceq_t (by omega), ceq_t (by omega), if_pos c3, if_neg (by omega)]
    exact ⟨rfl, rfl, by omega, by omega⟩
  rw [ceq_f (by omega), ceq_f (x := s) (y := 104) (by omega), if_neg c3]
  by_cases c4 : s = 110
  · rw [ceq_t (by omega), ceq_t (by omega), if_pos c4, if_neg (by omega)]
    exact ⟨rfl, rfl, by omega, by omega⟩
  rw [ceq_f (by omega), ceq_f (x := s) (y := 110) (by omega), if_neg c4]
  by_cases c5 : s = 112
  · rw [ceq_t (by omega), ceq_t (by omega), if_pos c5, if_neg (by omega)]
    exact ⟨rfl, rfl, by omega, by omega⟩
  rw [ceq_f (by omega), ceq_f (x := s) (y := 112) (by omega), if_neg c5]
  by_cases c6 : s = 115
  · rw [ceq_t (by omega), ceq_t (by omega), if_pos c6, if_neg (by omega)]
    exact ⟨rfl, rfl, by omega, by omega⟩
  rw [ceq_f (by omega), ceq_f (by omega), if_neg c6, if_pos (by omega)]
  exact ⟨rfl, rfl, by omega, by omega⟩
theorem kd_59 {s : Int} (h : 0 ≤ kd s) : s ≠ 59 ∧ s ≠ -1 := by
  constructor
  · intro q
    subst q
    exact absurd h (by decide)
  · intro q
    subst q
    exact absurd h (by decide)
theorem dgs_59 {h : Int} (q : 0 < dgs h) : h ≠ 59 ∧ h ≠ -1 := by
  constructor
  · intro e
    subst e
    exact absurd q (by decide)
  · intro e
    subst e
    exact absurd q (by decide)
theorem dgs_h {h : Int} (q : 0 < dgs h) : ((h = 97 ∨ h = 112 ∨ h = 119) ∧ dgs h = 5) ∨ (h = 99 ∧ dgs h = 3) ∨ ((h = 102 ∨ h = 115) ∧ dgs h = 1) ∨ (h = 107 ∧ dgs h = 1) := by
  unfold dgs at q ⊢
  by_cases c1 : h = 97 ∨ h = 112 ∨ h = 119
  · rw [if_pos c1]
    exact Or.inl ⟨c1, rfl⟩
  · rw [if_neg c1] at q ⊢
    by_cases c2 : h = 99
    · rw [if_pos c2]
      exact Or.inr (Or.inl ⟨c2, rfl⟩)
    · rw [if_neg c2] at q ⊢
      by_cases c3 : h = 102 ∨ h = 107 ∨ h = 115
      · rw [if_pos c3]
        by_cases c4 : h = 107
        · exact Or.inr (Or.inr (Or.inr ⟨c4, rfl⟩))
        · exact Or.inr (Or.inr (Or.inl ⟨by omega, rfl⟩))
      · rw [if_neg c3] at q
        omega
theorem dgs_bd (h : Int) : 0 ≤ dgs h ∧ dgs h ≤ 5 := by
  unfold dgs
  split
  · omega
  · split
    · omega
    · split <;> omega
/-- what may stand at a place of a statement -/
def okp (h p s : Int) : Prop := (p = 0 ∧ 0 < dgs h) ∨ (0 < p ∧ p ≤ dgs h ∧ 48 ≤ s ∧ s ≤ 57) ∨ (0 < p ∧ dgs h < p ∧ ((h = 107 ∧ p = dgs h + 1 ∧ 0 ≤ kd s) ∨ (¬ (h = 107 ∧ p = dgs h + 1) ∧ s = 59)))
section FRM
variable {m : Int} {T snu : Int → Int}
theorem p_num (hm : 0 ≤ m ∧ m ≤ 96) (hs : ∀ j : Int, 0 ≤ j → j < m → snu j = T j ∧ 0 ≤ T j ∧ T j ≤ 255) {i : Int} (hi : 0 ≤ i ∧ i ≤ 1000) : m_Row_numberAt_W96 i m snu = some (Lt m T i) := by
  unfold m_Row_numberAt_W96 Lt
  rw [clt_f (by omega)]
  by_cases c : i < m
  · rw [clt_t (by omega), clt_t (by omega), gd_x (by omega), if_pos c, (hs i hi.1 c).1]
  · rw [clt_f (by omega), if_neg c]
theorem p_let (hm : 0 ≤ m ∧ m ≤ 96) {i : Int} (hi : 0 ≤ i ∧ i ≤ 1000) : m_Mod_letterNow m i T = some (Lt m T i) := by
  unfold m_Mod_letterNow Lt
  by_cases c : i < m
  · rw [clt_t (by omega), gd_x (by omega), if_pos c]
  · rw [clt_f (by omega), if_neg c]
theorem Lt_bd (hs : ∀ j : Int, 0 ≤ j → j < m → snu j = T j ∧ 0 ≤ T j ∧ T j ≤ 255) {i : Int} (hi : 0 ≤ i) : -1 ≤ Lt m T i ∧ Lt m T i ≤ 255 := by
  unfold Lt
  by_cases c : i < m
  · rw [if_pos c]
    have := hs i hi c
    omega
  · rw [if_neg c]
    omega
theorem p_canGoOn (hm : 0 ≤ m ∧ m ≤ 96) (hs : ∀ j : Int, 0 ≤ j → j < m → snu j = T j ∧ 0 ≤ T j ∧ T j ≤ 255) {b i : Int} (hb : 0 ≤ b ∧ b ≤ i ∧ i < m) : (okp (T b) (i - b) (T i) ∧ m_Text_canGoOn b i m snu = some 1) ∨ (¬ okp (T b) (i - b) (T i) ∧ m_Text_canGoOn b i m snu = some 0) := by
  have h1 := hs b hb.1 (by omega)
  have h2 := hs i (by omega) hb.2.2
  have hd := dgs_bd (T b)
  unfold m_Text_canGoOn
  rw [p_num hm hs ⟨hb.1, by omega⟩, bnd_s, p_num hm hs ⟨by omega, by omega⟩, bnd_s, show Lt m T b = T b from if_pos (by omega), show Lt m T i = T i from if_pos hb.2.2, p_dgs (by omega), bnd_s]
  simp only [jn_s]
  unfold okp
  by_cases c0 : i - b = 0
  · rw [ceq_t (by omega)]
    by_cases c1 : 0 < dgs (T b)
    · rw [cle_f (by omega)]
      exact Or.inl ⟨Or.inl ⟨c0, c1⟩, rfl⟩
    · rw [cle_t (by omega)]
      refine Or.inr ⟨?_, rfl⟩
      rintro (q | q | q)
      · exact c1 q.2
      · omega
      · omega
  · rw [ceq_f (by omega)]
    by_cases c1 : i - b ≤ dgs (T b)
    · rw [cle_t (by omega)]
      by_cases c2 : T i < 48
      · rw [clt_t (by omega)]
        refine Or.inr ⟨?_, rfl⟩
        rintro (q | q | q) <;> omega
      · rw [clt_f (by omega)]
        by_cases c3 : T i ≤ 57
        · rw [cle_t (by omega)]
          exact Or.inl ⟨Or.inr (Or.inl ⟨by omega, c1, by omega, c3⟩), rfl⟩
        · rw [cle_f (by omega)]
          refine Or.inr ⟨?_, rfl⟩
          rintro (q | q | q) <;> omega
    · rw [cle_f (by omega)]
      have fin : ((¬ (T b = 107 ∧ i - b = dgs (T b) + 1)) → ((((i - b = 0 ∧ 0 < dgs (T b)) ∨ (0 < i - b ∧ i - b ≤ dgs (T b) ∧ 48 ≤ T i ∧ T i ≤ 57) ∨ (0 < i - b ∧ dgs (T b) < i - b ∧ ((T b = 107 ∧ i - b = dgs (T b) + 1 ∧ 0 ≤ kd (T i)) ∨ (¬ (T b = 107 ∧ i - b = dgs (T b) + 1) ∧ T i = 59)))) ∧ ceq (T i) 59 (some (1 : Int)) (some 0) = some 1) ∨ (¬ ((i - b = 0 ∧ 0 < dgs (T b)) ∨ (0 < i - b ∧ i - b ≤ dgs (T b) ∧ 48 ≤ T i ∧ T i ≤ 57) ∨ (0 < i - b ∧ dgs (T b) < i - b ∧ ((T b = 107 ∧ i - b = dgs (T b) + 1 ∧ 0 ≤ kd (T i)) ∨ (¬ (T b = 107 ∧ i - b = dgs (T b) + 1) ∧ T i = 59)))) ∧ ceq (T i) 59 (some (1 : Int)) (some 0) = some 0))) := by
        intro hn
        by_cases c4 : T i = 59
        · exact Or.inl ⟨Or.inr (Or.inr ⟨by omega, by omega, Or.inr ⟨hn, c4⟩⟩), ceq_t (by omega)⟩
        · refine Or.inr ⟨?_, ceq_f (by omega)⟩
          rintro (q | q | ⟨-, -, q | q⟩)
          · omega
          · omega
          · exact hn ⟨q.1, q.2.1⟩
          · exact c4 q.2
      by_cases c2 : T b = 107
      · rw [ceq_t (by omega)]
        by_cases c3 : i - b = dgs (T b) + 1
        · rw [ceq_t (by omega), (p_kd (s := T i) (by omega)).1, bnd_s]
          have hk := (p_kd (s := T i) (by omega)).2.2
          by_cases c4 : kd (T i) < 0
          · rw [clt_t (by omega)]
            refine Or.inr ⟨?_, rfl⟩
            rintro (q | q | ⟨-, -, q | q⟩)
            · omega
            · omega
            · omega
            · exact q.1 ⟨c2, c3⟩
          · rw [clt_f (by omega)]
            exact Or.inl ⟨Or.inr (Or.inr ⟨by omega, by omega, Or.inl ⟨c2, c3, by omega⟩⟩), rfl⟩
        · rw [ceq_f (by omega)]
          exact fin (fun q => c3 q.2)
      · rw [ceq_f (by omega)]
        exact fin (fun q => c2 q.1)
/-- letters ahead of q that fit, none of them the last of the statement -/
def good (m : Int) (T : Int → Int) (b q : Int) : Prop := q ≤ m ∧ ∀ i : Int, b ≤ i → i < q → okp (T b) (i - b) (T i) ∧ T i ≠ 59
def bad (m : Int) (T : Int → Int) (b q : Int) : Prop := q = m ∨ (q < m ∧ ¬ okp (T b) (q - b) (T q))
theorem scan_walk (hm : 0 ≤ m ∧ m ≤ 96) (hs : ∀ j : Int, 0 ≤ j → j < m → snu j = T j ∧ 0 ≤ T j ∧ T j ≤ 255) {b : Int} (hb : 0 ≤ b) : ∀ (d : Nat) (i : Int) (fuel : Nat), b ≤ i → good m T b (i + d) → m_Text_faultOfForm_4 (fuel + d) b i m snu = m_Text_faultOfForm_4 fuel b (i + d) m snu
  | 0, i, fuel, _, _ => by
    rw [show i + ((0 : Nat) : Int) = i by omega]
    rfl
  | d + 1, i, fuel, h0, h1 => by
    have hi := h1.2 i h0 (by omega)
    have hl := h1.1
    have ht := hs i (by omega) (by omega)
    rw [show fuel + (d + 1) = (fuel + d) + 1 by omega, m_Text_faultOfForm_4, clt_t (by omega)]
    rcases p_canGoOn hm hs (b := b) (i := i) ⟨hb, h0, by omega⟩ with ⟨-, e⟩ | ⟨q, -⟩
    · rw [e, bnd_s, ceq_f (by omega), p_num hm hs ⟨by omega, by omega⟩, bnd_s, show Lt m T i = T i from if_pos (by omega), ceq_f (by omega), scan_walk hm hs hb d (i + 1) fuel (by omega) (by rw [show i + 1 + (d : Int) = i + ((d + 1 : Nat) : Int) by omega]; exact h1), show i + 1 + (d : Int) = i + ((d + 1 : Nat) : Int) by omega]
    · exact absurd hi.1 q
theorem scan_bad (hm : 0 ≤ m ∧ m ≤ 96) (hs : ∀ j : Int, 0 ≤ j → j < m → snu j = T j ∧ 0 ≤ T j ∧ T j ≤ 255) {b q : Int} (hb : 0 ≤ b ∧ b ≤ q) (hg : good m T b q) (hq : bad m T b q) (hbm : b < m ∨ m = 0) {fuel : Nat} (hf : q - b < fuel) : m_Text_faultOfForm_4 fuel b b m snu = some (-1000 - q) := by
  have e := scan_walk hm hs hb.1 (q - b).toNat b (fuel - (q - b).toNat) (by omega) (by rw [show b + ((q - b).toNat : Int) = q by omega]; exact hg)
  rw [show fuel - (q - b).toNat + (q - b).toNat = fuel by omega, show b + ((q - b).toNat : Int) = q by omega] at e
  rw [e]
  cases hz : fuel - (q - b).toNat with
  | zero => omega
  | succ z =>
    rw [m_Text_faultOfForm_4]
    have hl := hg.1
    rcases hq with hq | ⟨hq, hn⟩
    · rw [clt_f (by omega)]
      by_cases c : m = 0
      · rw [ceq_t (by omega), hq]
      · rw [ceq_f (by omega), clt_t (by omega), hq]
    · rw [clt_t (by omega)]
      rcases p_canGoOn hm hs (b := b) (i := q) ⟨hb.1, hb.2, hq⟩ with ⟨y, -⟩ | ⟨-, y⟩
      · exact absurd y hn
      · rw [y, bnd_s, ceq_t (by omega)]
theorem scan_done (hm : 0 ≤ m ∧ m ≤ 96) (hs : ∀ j : Int, 0 ≤ j → j < m → snu j = T j ∧ 0 ≤ T j ∧ T j ≤ 255) {b q : Int} (hb : 0 ≤ b ∧ b ≤ q) (hg : good m T b q) (hq : q < m) (ho : okp (T b) (q - b) (T q)) (h9 : T q = 59) {fuel : Nat} : m_Text_faultOfForm_4 (fuel + 1 + (q - b).toNat) b b m snu = m_Text_faultOfForm_4 fuel (q + 1) (q + 1) m snu := by
  have e := scan_walk hm hs hb.1 (q - b).toNat b (fuel + 1) (by omega) (by rw [show b + ((q - b).toNat : Int) = q by omega]; exact hg)
  rw [show b + ((q - b).toNat : Int) = q by omega] at e
  rw [e, m_Text_faultOfForm_4, clt_t (by omega)]
  rcases p_canGoOn hm hs (b := b) (i := q) ⟨hb.1, hb.2, hq⟩ with ⟨-, y⟩ | ⟨y, -⟩
  · rw [y, bnd_s, ceq_f (by omega), p_num hm hs ⟨by omega, by omega⟩, bnd_s, show Lt m T q = T q from if_pos hq, ceq_t (by omega)]
  · exact absurd ho y
/-! the reference reads a statement -/
abbrev dig (m : Int) (T : Int → Int) (i : Int) : Prop := 48 ≤ Lt m T i ∧ Lt m T i ≤ 57
theorem p_rd1 (hm : 0 ≤ m ∧ m ≤ 96) (hs : ∀ j : Int, 0 ≤ j → j < m → snu j = T j ∧ 0 ≤ T j ∧ T j ≤ 255) {r t : Int} {told : Int → Int} (hr : 0 ≤ r ∧ r ≤ 100) (ht : 0 ≤ t ∧ t < 99) : m_Mod_readsDigits 1 m r t T told = some (if dig m T r then (1, r + 1, t + 1, uf told t (Lt m T r - 48)) else (0, r, t, told)) := by
  have h1 := Lt_bd hs (i := r) hr.1
  unfold m_Mod_readsDigits
  rw [m_Mod_readsDigits_4, clt_t (by omega), p_let hm ⟨hr.1, by omega⟩, bnd_s, p_Mod_isIn (by omega) (by omega) (by omega), bnd_s, ceq_yn]
  by_cases c : dig m T r
  · rw [if_pos c, if_pos c, bnd_s, m_Mod_readsDigits_4, clt_f (by omega), gd_x (by omega), show 10 * 0 + Lt m T r - 48 = Lt m T r - 48 by omega]
  · rw [if_neg c, if_neg c]
theorem p_rd2 (hm : 0 ≤ m ∧ m ≤ 96) (hs : ∀ j : Int, 0 ≤ j → j < m → snu j = T j ∧ 0 ≤ T j ∧ T j ≤ 255) {r t : Int} {told : Int → Int} (hr : 0 ≤ r ∧ r ≤ 100) (ht : 0 ≤ t ∧ t < 99) : m_Mod_readsDigits 2 m r t T told = some (if dig m T r then (if dig m T (r + 1) then (1, r + 2, t + 1, uf told t (10 * (Lt m T r - 48) + (Lt m T (r + 1) - 48))) else (0, r + 1, t, told)) else (0, r, t, told)) := by
  have h1 := Lt_bd hs (i := r) hr.1
  have h2 := Lt_bd hs (i := r + 1) (by omega)
  unfold m_Mod_readsDigits
  rw [m_Mod_readsDigits_4, clt_t (by omega), p_let hm ⟨hr.1, by omega⟩, bnd_s, p_Mod_isIn (by omega) (by omega) (by omega), bnd_s, ceq_yn]
  by_cases c : dig m T r
  · rw [if_pos c, if_pos c, bnd_s, m_Mod_readsDigits_4, clt_t (by omega), p_let hm ⟨by omega, by omega⟩, bnd_s, p_Mod_isIn (by omega) (by omega) (by omega), bnd_s, ceq_yn]
    by_cases c2 : dig m T (r + 1)
    · rw [if_pos c2, if_pos c2, bnd_s, m_Mod_readsDigits_4, clt_f (by omega), gd_x (by omega), show 10 * (10 * 0 + Lt m T r - 48) + Lt m T (r + 1) - 48 = 10 * (Lt m T r - 48) + (Lt m T (r + 1) - 48) by omega, show r + 1 + 1 = r + 2 by omega]
    · rw [if_neg c2, if_neg c2]
  · rw [if_neg c, if_neg c]
theorem good_dig {b r : Int} (hg : good m T b r) (h1 : b < r) (h2 : r - b ≤ dgs (T b)) : (dig m T r → good m T b (r + 1)) ∧ (¬ dig m T r → bad m T b r) := by
  have hl := hg.1
  constructor
  · intro hd
    have hr : r < m := by
      by_cases c : r < m
      · exact c
      · unfold dig Lt at hd
        rw [if_neg c] at hd
        omega
    unfold dig at hd
    rw [show Lt m T r = T r from if_pos hr] at hd
    refine ⟨by omega, fun i q0 q1 => ?_⟩
    by_cases c : i = r
    · subst c
      exact ⟨Or.inr (Or.inl ⟨by omega, h2, hd.1, hd.2⟩), by omega⟩
    · exact hg.2 i q0 (by omega)
  · intro hd
    by_cases c : r < m
    · refine Or.inr ⟨c, ?_⟩
      unfold dig at hd
      rw [show Lt m T r = T r from if_pos c] at hd
      rintro (q | q | q) <;> omega
    · exact Or.inl (by omega)
end FRM
