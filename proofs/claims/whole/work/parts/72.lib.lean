/-! pure part: how guards and branches open -/
theorem gd_t {α : Type} {c : Prop} [Decidable c] {A : Option α} (h : c) : gd c A = A := if_pos h
theorem gd_x {α : Type} {x n : Int} {A : Option α} (h : 0 ≤ x ∧ x < n) : gd (zx x n) A = A := gd_t h
theorem gd_xz {α : Type} {x n y m : Int} {A : Option α} (h : (0 ≤ x ∧ x < n) ∧ 0 < y ∧ y < m) : gd (zx x n ∧ zp y m) A = A := gd_t h
theorem gd_xb {α : Type} {x n v : Int} {A : Option α} (h : (0 ≤ x ∧ x < n) ∧ (v = 0 ∨ v = 1)) : gd (zx x n ∧ zb v) A = A := gd_t h
theorem gd_b {α : Type} {v : Int} {A : Option α} (h : v = 0 ∨ v = 1) : gd (zb v) A = A := gd_t h
theorem gd_r {α : Type} {x : Int} {A : Option α} (h : -2147483648 ≤ x ∧ x < 2147483648) : gd (zr x) A = A := gd_t h
theorem gd_rr {α : Type} {x y : Int} {A : Option α} (h : (-2147483648 ≤ x ∧ x < 2147483648) ∧ -2147483648 ≤ y ∧ y < 2147483648) : gd (zr x ∧ zr y) A = A := gd_t h
theorem gd_qq {α : Type} {x y : Int} {A : Option α} (h : (-9223372036854775808 ≤ x ∧ x < 9223372036854775808) ∧ -9223372036854775808 ≤ y ∧ y < 9223372036854775808) : gd (zq x ∧ zq y) A = A := gd_t h
theorem clt_t {α : Type} {x y : Int} {A B : Option α} (h : -2147483648 ≤ x ∧ x < y ∧ y < 2147483648) : clt x y A B = A := by
  unfold clt
  rw [if_pos ⟨⟨by omega, by omega⟩, by omega, by omega⟩, if_pos h.2.1]
theorem clt_f {α : Type} {x y : Int} {A B : Option α} (h : -2147483648 ≤ y ∧ y ≤ x ∧ x < 2147483648) : clt x y A B = B := by
  unfold clt
  rw [if_pos ⟨⟨by omega, by omega⟩, by omega, by omega⟩, if_neg (by omega)]
theorem cle_t {α : Type} {x y : Int} {A B : Option α} (h : -2147483648 ≤ x ∧ x ≤ y ∧ y < 2147483648) : cle x y A B = A := by
  unfold cle
  rw [if_pos ⟨⟨by omega, by omega⟩, by omega, by omega⟩, if_pos h.2.1]
theorem cle_f {α : Type} {x y : Int} {A B : Option α} (h : -2147483648 ≤ y ∧ y < x ∧ x < 2147483648) : cle x y A B = B := by
  unfold cle
  rw [if_pos ⟨⟨by omega, by omega⟩, by omega, by omega⟩, if_neg (by omega)]
theorem ceq_t {α : Type} {x y : Int} {A B : Option α} (h : -2147483648 ≤ x ∧ x = y ∧ y < 2147483648) : ceq x y A B = A := by
  unfold ceq
  rw [if_pos ⟨⟨by omega, by omega⟩, by omega, by omega⟩, if_pos h.2.1]
theorem ceq_f {α : Type} {x y : Int} {A B : Option α} (h : (-2147483648 ≤ x ∧ x < 2147483648) ∧ (-2147483648 ≤ y ∧ y < 2147483648) ∧ x ≠ y) : ceq x y A B = B := by
  unfold ceq
  rw [if_pos ⟨⟨by omega, by omega⟩, by omega, by omega⟩, if_neg h.2.2]
theorem bnd_s {α β : Type} {a : α} {f : α → Option β} : bnd (some a) f = f a := rfl
theorem jn_s {α β : Type} {f : α} {g : α → β} : jn f g = g f := rfl
theorem uf_s {f : Int → Int} {k x : Int} : uf f k x k = x := if_pos rfl
theorem uf_n {f : Int → Int} {k x j : Int} (h : j ≠ k) : uf f k x j = f j := if_neg h
/-- how many of the first n numbers have a property -/
def cn (P : Int → Prop) [DecidablePred P] : Nat → Int
  | 0 => 0
  | n + 1 => cn P n + (if P n then 1 else 0)
theorem cn_bd (P : Int → Prop) [DecidablePred P] : ∀ n : Nat, 0 ≤ cn P n ∧ cn P n ≤ n
  | 0 => ⟨by simp [cn], by simp [cn]⟩
  | n + 1 => by
    have := cn_bd P n
    unfold cn
    split <;> omega
theorem cn_congr {P Q : Int → Prop} [DecidablePred P] [DecidablePred Q] : ∀ n : Nat, (∀ j : Int, 0 ≤ j → j < n → (P j ↔ Q j)) → cn P n = cn Q n
  | 0, _ => rfl
  | n + 1, h => by
    unfold cn
    rw [cn_congr n (fun j h0 h1 => h j h0 (by omega))]
    have := h n (by omega) (by omega)
    by_cases hp : P n
    · rw [if_pos hp, if_pos (this.mp hp)]
    · rw [if_neg hp, if_neg (fun q => hp (this.mpr q))]
/-- a loop that counts: 'lp fuel count place' adds 1 where P holds -/
theorem cn_loop (P : Int → Prop) [DecidablePred P] (N : Nat) (lp : Nat → Int → Int → Option Int)
    (hs : ∀ (fuel : Nat) (v : Int) (i : Nat), i < N → 0 ≤ v → v ≤ i → lp (fuel + 1) v i = lp fuel (v + (if P i then 1 else 0)) (i + 1))
    (he : ∀ (fuel : Nat) (v : Int), 0 ≤ v → v ≤ N → lp (fuel + 1) v N = some v) : ∀ (d i fuel : Nat), i + d = N → d < fuel → lp fuel (cn P i) i = some (cn P N) := by
  intro d
  induction d with
  | zero =>
    intro i fuel h hf
    cases fuel with
    | zero => omega
    | succ fuel =>
      have hi : i = N := by omega
      subst hi
      exact he fuel _ (cn_bd P i).1 (cn_bd P i).2
  | succ d ih =>
    intro i fuel h hf
    cases fuel with
    | zero => omega
    | succ fuel =>
      rw [hs fuel _ i (by omega) (cn_bd P i).1 (cn_bd P i).2]
      exact ih (i + 1) fuel (by omega) (by omega)
theorem p_Mod_freeBlocks {ow : Int → Int} (h : ∀ j : Int, 0 ≤ j → j < 64 → -9 ≤ ow j ∧ ow j < 96) : m_Mod_freeBlocks ow = some (cn (fun j => ow j < 0) 64) := by
  refine cn_loop (fun j => ow j < 0) 64 (fun fuel v i => m_Mod_freeBlocks_4 fuel v i ow) (fun fuel v i hi h0 h1 => ?_) (fun fuel v h0 h1 => ?_) 64 0 5000 rfl (by omega)
  · have hb := h i (by omega) (by omega)
    rw [m_Mod_freeBlocks_4]
    by_cases hc : ow i < 0
    · simp (disch := omega) only [gd_x, clt_t, if_pos hc]
    · simp (disch := omega) only [gd_x, clt_t, clt_f, if_neg hc]
  · skip
    rw [m_Mod_freeBlocks_4]
    exact clt_f (by omega)
theorem p_Disk_freeBlocks {ow : Int → Int} (h : ∀ j : Int, 0 ≤ j → j < 64 → -1 ≤ ow j ∧ ow j < 96) : m_Disk_freeBlocks ow = some (cn (fun j => ow j < 0) 64) := by
  refine cn_loop (fun j => ow j < 0) 64 (fun fuel v i => m_Disk_freeBlocks_4 fuel v i ow) (fun fuel v i hi h0 h1 => ?_) (fun fuel v h0 h1 => ?_) 64 0 5000 rfl (by omega)
  · have hb := h i (by omega) (by omega)
    rw [m_Disk_freeBlocks_4]
    by_cases hc : ow i < 0
    · simp (disch := omega) only [gd_x, clt_t, ceq_t, if_pos hc]
    · simp (disch := omega) only [gd_x, clt_t, ceq_f, if_neg hc, Int.add_zero]
  · skip
    rw [m_Disk_freeBlocks_4]
    exact clt_f (by omega)
/-- two numbers told as yes or no -/
theorem ceq_yn {α : Type} {c : Prop} [Decidable c] {A B : Option α} : ceq (if c then 1 else 0) 0 A B = if c then B else A := by
  by_cases h : c
  · rw [if_pos h, if_pos h]
    exact ceq_f (by omega)
  · rw [if_neg h, if_neg h]
    exact ceq_t (by omega)
theorem p_Vol_isFile {x : Int} (h : -2147483648 ≤ x ∧ x < 2147483648) : m_Vol_isFile x = some (if 0 ≤ x ∧ x < 4 then 1 else 0) := by
  unfold m_Vol_isFile
  by_cases h1 : x < 0
  · rw [clt_t (by omega), if_neg (by omega)]
  · rw [clt_f (by omega)]
    by_cases h2 : x < 4
    · rw [clt_t (by omega), if_pos (by omega)]
    · rw [clt_f (by omega), if_neg (by omega)]
theorem p_Vol_isPage {x : Int} (h : -2147483648 ≤ x ∧ x < 2147483648) : m_Vol_isPage x = some (if 0 ≤ x ∧ x < 24 then 1 else 0) := by
  unfold m_Vol_isPage
  by_cases h1 : x < 0
  · rw [clt_t (by omega), if_neg (by omega)]
  · rw [clt_f (by omega)]
    by_cases h2 : x < 24
    · rw [clt_t (by omega), if_pos (by omega)]
    · rw [clt_f (by omega), if_neg (by omega)]
theorem p_Vol_isBlock {x : Int} (h : -2147483648 ≤ x ∧ x < 2147483648) : m_Vol_isBlock x = some (if 0 ≤ x ∧ x < 64 then 1 else 0) := by
  unfold m_Vol_isBlock
  by_cases h1 : x < 0
  · rw [clt_t (by omega), if_neg (by omega)]
  · rw [clt_f (by omega)]
    by_cases h2 : x < 64
    · rw [clt_t (by omega), if_pos (by omega)]
    · rw [clt_f (by omega), if_neg (by omega)]
theorem p_Vol_isEither {x : Int} (h : -2147483648 ≤ x ∧ x < 2147483648) : m_Vol_isEither x = some (if x = 0 ∨ x = 1 then 1 else 0) := by
  unfold m_Vol_isEither
  by_cases h1 : x = 0
  · rw [ceq_t (by omega), if_pos (by omega)]
  · rw [ceq_f (by omega)]
    by_cases h2 : x = 1
    · rw [ceq_t (by omega), if_pos (by omega)]
    · rw [ceq_f (by omega), if_neg (by omega)]
theorem p_Mod_isIn {x a b : Int} (h : -2147483648 ≤ x ∧ x < 2147483648) (ha : -2147483648 ≤ a ∧ a < 2147483648) (hb : -2147483648 ≤ b ∧ b < 2147483648) : m_Mod_isIn x a b = some (if a ≤ x ∧ x ≤ b then 1 else 0) := by
  unfold m_Mod_isIn
  by_cases h1 : x < a
  · rw [clt_t (by omega), if_neg (by omega)]
  · rw [clt_f (by omega)]
    by_cases h2 : x ≤ b
    · rw [cle_t (by omega), if_pos (by omega)]
    · rw [cle_f (by omega), if_neg (by omega)]
theorem yn_b {c : Prop} [Decidable c] : (if c then 1 else 0 : Int) = 0 ∨ (if c then 1 else 0 : Int) = 1 := by
  by_cases h : c
  · exact Or.inr (if_pos h)
  · exact Or.inl (if_neg h)
theorem yn_i {c d : Prop} [Decidable c] [Decidable d] (h : c ↔ d) : (if c then 1 else 0 : Int) = if d then 1 else 0 := by
  by_cases hc : c
  · rw [if_pos hc, if_pos (h.mp hc)]
  · rw [if_neg hc, if_neg (fun q => hc (h.mpr q))]
theorem p_Mod_isFile {x : Int} (h : -2147483648 ≤ x ∧ x < 2147483648) : m_Mod_isFile x = some (if 0 ≤ x ∧ x < 4 then 1 else 0) := by
  unfold m_Mod_isFile
  rw [p_Mod_isIn h (by omega) (by omega), bnd_s, gd_b yn_b]
  exact congrArg some (yn_i (by omega))
theorem p_Mod_isPage {x : Int} (h : -2147483648 ≤ x ∧ x < 2147483648) : m_Mod_isPage x = some (if 0 ≤ x ∧ x < 24 then 1 else 0) := by
  unfold m_Mod_isPage
  rw [p_Mod_isIn h (by omega) (by omega), bnd_s, gd_b yn_b]
  exact congrArg some (yn_i (by omega))
theorem p_Mod_isBlock {x : Int} (h : -2147483648 ≤ x ∧ x < 2147483648) : m_Mod_isBlock x = some (if 0 ≤ x ∧ x < 64 then 1 else 0) := by
  unfold m_Mod_isBlock
  rw [p_Mod_isIn h (by omega) (by omega), bnd_s, gd_b yn_b]
  exact congrArg some (yn_i (by omega))
theorem p_Mod_bound {x a b : Int} (h : -2147483648 ≤ x ∧ x < 2147483648) (ha : -2147483648 ≤ a ∧ a < 2147483648) (hb : -2147483648 ≤ b ∧ b < 2147483648) : m_Mod_bound x a b = some (if x < a then -4 else if x ≤ b then 0 else -6) := by
  unfold m_Mod_bound
  by_cases h1 : x < a
  · rw [clt_t (by omega), if_pos h1]
  · rw [clt_f (by omega), if_neg h1]
    by_cases h2 : x ≤ b
    · rw [cle_t (by omega), if_pos h2]
    · rw [cle_f (by omega), if_neg h2]
theorem p_refuse {k : Int} {f : Int → Int} (h : k = -1 ∨ k = -2 ∨ k = -3 ∨ k = -4 ∨ k = -6) : m_Vol_refuse k f = some (k, uf f (-k) (f (-k) + 1)) := by
  unfold m_Vol_refuse
  rw [clt_f (by omega), clt_t (by omega), gd_x (by omega), gd_x (by omega)]
theorem p_no {k : Int} {f : Int → Int} (h : k = -1 ∨ k = -2 ∨ k = -3 ∨ k = -4 ∨ k = -6) : m_Mod_no k f = some (k, uf f (-k) (f (-k) + 1)) := by
  unfold m_Mod_no
  rw [gd_x (by omega), gd_x (by omega)]
/-- a page's place: read where file and page are there -/
theorem p_blockAt {f p : Int} {pl : Int → Int} (hf : 0 ≤ f ∧ f < 4) (hp : 0 ≤ p ∧ p < 24) : m_Disk_blockAt f p pl = some (pl (24 * f + p)) := by
  unfold m_Disk_blockAt
  simp only [jn_s]
  rw [clt_f (by omega), clt_t (by omega), clt_f (by omega), clt_t (by omega), ceq_f (by omega), gd_x (by omega), Int.mul_comm f 24]
theorem p_blockAt_out {f p : Int} {pl : Int → Int} (hf : 0 ≤ f ∧ f < 4) (hp : -1000 ≤ p ∧ p < 1000) (h : p < 0 ∨ 24 ≤ p) : m_Disk_blockAt f p pl = some (-1) := by
  unfold m_Disk_blockAt
  simp only [jn_s]
  rw [clt_f (by omega), clt_t (by omega)]
  by_cases h0 : p < 0
  · rw [clt_t (by omega), ceq_t (by omega)]
  · rw [clt_f (by omega), clt_f (by omega), ceq_t (by omega)]
theorem p_valueAt {f p : Int} {va : Int → Int} (hf : 0 ≤ f ∧ f < 4) (hp : 0 ≤ p ∧ p < 24) : m_Disk_valueAt f p va = some (va (24 * f + p)) := by
  unfold m_Disk_valueAt
  simp only [jn_s]
  rw [clt_f (by omega), clt_t (by omega), clt_f (by omega), clt_t (by omega), ceq_f (by omega), gd_x (by omega), Int.mul_comm f 24]
