/-! THE LAYER: numbers as whole numbers, guards, branches, calls; a world in places; one row an instruction -/
theorem zi_ex : ∃ f : Int → Int32, f = Int32.ofInt := ⟨_, rfl⟩
theorem zl_ex : ∃ f : Int → Int64, f = Int64.ofInt := ⟨_, rfl⟩
/-- an int, and a long, of a whole number: closed names, that no unfolding goes into them -/
noncomputable def zi : Int → Int32 := Classical.choose zi_ex
noncomputable def zl : Int → Int64 := Classical.choose zl_ex
theorem zi_d (x : Int) : zi x = Int32.ofInt x := congrFun (Classical.choose_spec zi_ex) x
theorem zl_d (x : Int) : zl x = Int64.ofInt x := congrFun (Classical.choose_spec zl_ex) x
abbrev zr (x : Int) : Prop := -2147483648 ≤ x ∧ x < 2147483648
abbrev zq (x : Int) : Prop := -9223372036854775808 ≤ x ∧ x < 9223372036854775808
abbrev zx (x n : Int) : Prop := 0 ≤ x ∧ x < n
abbrev zp (y n : Int) : Prop := 0 < y ∧ y < n
abbrev zb (x : Int) : Prop := x = 0 ∨ x = 1
def gd {α : Type} (c : Prop) [Decidable c] (A : Option α) : Option α := if c then A else none
def ceq {α : Type} (x y : Int) (A B : Option α) : Option α := if zr x ∧ zr y then (if x = y then A else B) else none
def clt {α : Type} (x y : Int) (A B : Option α) : Option α := if zr x ∧ zr y then (if x < y then A else B) else none
def cle {α : Type} (x y : Int) (A B : Option α) : Option α := if zr x ∧ zr y then (if x ≤ y then A else B) else none
def bnd {α β : Type} (A : Option α) (f : α → Option β) : Option β := match A with
  | none => none
  | some a => f a
def jn {α β : Type} (f : α) (g : α → β) : β := g f
def uf (f : Int → Int) (k x : Int) : Int → Int := fun j => if j = k then x else f j
def z_and (x y : Int) : Int := (Int32.ofInt x &&& Int32.ofInt y).toInt
def z_or (x y : Int) : Int := (Int32.ofInt x ||| Int32.ofInt y).toInt
def z_xor (x y : Int) : Int := (Int32.ofInt x ^^^ Int32.ofInt y).toInt
def z_shl (x y : Int) : Int := (Int32.ofInt x <<< (Int32.ofInt y &&& 31)).toInt
def z_shr (x y : Int) : Int := (Int32.ofInt x >>> (Int32.ofInt y &&& 31)).toInt
def z_cmp (x y : Int) : Int := if y < x then 1 else if x = y then 0 else -1
theorem gd_e {α : Type} {c : Prop} [Decidable c] {A : Option α} {o : α} (h : gd c A = some o) : c ∧ A = some o := by
  unfold gd at h
  split at h
  · rename_i q
    exact ⟨q, h⟩
  · cases h
theorem ceq_e {α : Type} {x y : Int} {A B : Option α} {o : α} (h : ceq x y A B = some o) : (zr x ∧ zr y) ∧ ((x = y ∧ A = some o) ∨ (¬ x = y ∧ B = some o)) := by
  unfold ceq at h
  split at h
  · rename_i q
    refine ⟨q, ?_⟩
    split at h
    · rename_i r
      exact Or.inl ⟨r, h⟩
    · rename_i r
      exact Or.inr ⟨r, h⟩
  · cases h
theorem clt_e {α : Type} {x y : Int} {A B : Option α} {o : α} (h : clt x y A B = some o) : (zr x ∧ zr y) ∧ ((x < y ∧ A = some o) ∨ (¬ x < y ∧ B = some o)) := by
  unfold clt at h
  split at h
  · rename_i q
    refine ⟨q, ?_⟩
    split at h
    · rename_i r
      exact Or.inl ⟨r, h⟩
    · rename_i r
      exact Or.inr ⟨r, h⟩
  · cases h
theorem cle_e {α : Type} {x y : Int} {A B : Option α} {o : α} (h : cle x y A B = some o) : (zr x ∧ zr y) ∧ ((x ≤ y ∧ A = some o) ∨ (¬ x ≤ y ∧ B = some o)) := by
  unfold cle at h
  split at h
  · rename_i q
    refine ⟨q, ?_⟩
    split at h
    · rename_i r
      exact Or.inl ⟨r, h⟩
    · rename_i r
      exact Or.inr ⟨r, h⟩
  · cases h
theorem bnd_e {α β : Type} {A : Option α} {f : α → Option β} {o : β} (h : bnd A f = some o) : ∃ a, A = some a ∧ f a = some o := by
  cases A with
  | none => cases h
  | some a => exact ⟨a, rfl, h⟩
theorem zi_toInt {x : Int} (h : zr x) : (zi x).toInt = x := by
  rw [zi_d, Int32.toInt_ofInt_of_le (by omega) (by omega)]
theorem zi_add (x y : Int) : zi x + zi y = zi (x + y) := by
  rw [zi_d, zi_d, zi_d]
  exact (Int32.ofInt_add x y).symm
theorem zi_sub (x y : Int) : zi x - zi y = zi (x - y) := by
  rw [zi_d, zi_d, zi_d]
  exact (Int32.ofInt_sub x y).symm
theorem zi_mul (x y : Int) : zi x * zi y = zi (x * y) := by
  rw [zi_d, zi_d, zi_d]
  exact (Int32.ofInt_mul x y).symm
theorem zi_neg (x : Int) : -zi x = zi (-x) := by
  rw [zi_d, zi_d]
  exact (Int32.ofInt_neg x).symm
theorem zi_of (x : Int32) : zi x.toInt = x := (zi_d _).trans (Int32.ofInt_toInt x)
theorem zi_0 : zi 0 = 0 := zi_d 0
theorem zi_1 : zi 1 = 1 := zi_d 1
theorem zi_m1 : zi (-1) = -1 := zi_d (-1)
theorem zl_0 : zl 0 = 0 := zl_d 0
theorem zl_m1 : zl (-1) = -1 := zl_d (-1)
theorem zi_lt {x y : Int} (hx : zr x) (hy : zr y) : zi x < zi y ↔ x < y := by
  rw [Int32.lt_iff_toInt_lt, zi_toInt hx, zi_toInt hy]
theorem zi_le {x y : Int} (hx : zr x) (hy : zr y) : zi x ≤ zi y ↔ x ≤ y := by
  rw [Int32.le_iff_toInt_le, zi_toInt hx, zi_toInt hy]
theorem zi_eq {x y : Int} (hx : zr x) (hy : zr y) : zi x = zi y ↔ x = y := by
  rw [← Int32.toInt_inj, zi_toInt hx, zi_toInt hy]
theorem zi_nat {x : Int} (h : 0 ≤ x) (h2 : x < 2147483648) : (zi x).toNatClampNeg = x.toNat := by
  show (zi x).toInt.toNat = _
  rw [zi_toInt ⟨by omega, h2⟩]
theorem zi_in {x : Int} {n : Nat} (hn : n < 2147483648) (h : zx x n) : vp_in (zi x) n := by
  rw [vp_in_iff, zi_toInt ⟨by omega, by omega⟩]
  exact h
theorem zi_ne0 {y : Int} (h : 0 < y) (h2 : y < 2147483648) : ¬ zi y = 0 := by
  have h3 : ¬ zi y = zi 0 := by
    rw [zi_eq ⟨by omega, by omega⟩ ⟨by omega, by omega⟩]
    omega
  rw [zi_0] at h3
  exact h3
theorem zi_div {x y : Int} (hx : zx x 2147483648) (hy : 0 < y ∧ y < 2147483648) : zi x / zi y = zi (x / y) := by
  apply Int32.toInt_inj.mp
  rw [Int32.toInt_div_of_ne_right (zi x) (zi y) (by
    intro h
    have h3 : zi y = zi (-1) := h.trans zi_m1.symm
    rw [zi_eq ⟨by omega, by omega⟩ ⟨by omega, by omega⟩] at h3
    omega)]
  have h1 : 0 ≤ x / y := Int.ediv_nonneg hx.1 (by omega)
  have h2 : x / y ≤ x := Int.ediv_le_self y hx.1
  rw [zi_toInt ⟨by omega, by omega⟩, zi_toInt ⟨by omega, by omega⟩, zi_toInt ⟨by omega, by omega⟩]
  exact Int.tdiv_eq_ediv_of_nonneg hx.1
theorem zi_rem {x y : Int} (hx : zx x 2147483648) (hy : 0 < y ∧ y < 2147483648) : zi x - zi x / zi y * zi y = zi (x % y) := by
  rw [zi_div hx hy, zi_mul, zi_sub]
  congr 1
  have := Int.mul_ediv_add_emod x y
  have h2 : x / y * y = y * (x / y) := Int.mul_comm _ _
  omega
theorem zi_i2l {x : Int} (hx : zr x) : (zi x).toInt64 = zl x := by
  apply Int64.toInt_inj.mp
  rw [zl_d, Int64.toInt_ofInt_of_le (by omega) (by omega), Int32.toInt_toInt64, zi_toInt hx]
theorem zl_toInt {x : Int} (h : zq x) : (zl x).toInt = x := by
  rw [zl_d, Int64.toInt_ofInt_of_le (by omega) (by omega)]
theorem zl_add (x y : Int) : zl x + zl y = zl (x + y) := by
  rw [zl_d, zl_d, zl_d]
  exact (Int64.ofInt_add x y).symm
theorem zl_sub (x y : Int) : zl x - zl y = zl (x - y) := by
  rw [zl_d, zl_d, zl_d]
  exact (Int64.ofInt_sub x y).symm
theorem zl_mul (x y : Int) : zl x * zl y = zl (x * y) := by
  rw [zl_d, zl_d, zl_d]
  exact (Int64.ofInt_mul x y).symm
theorem zl_eq {x y : Int} (hx : zq x) (hy : zq y) : zl x = zl y ↔ x = y := by
  rw [← Int64.toInt_inj, zl_toInt hx, zl_toInt hy]
theorem zl_lt {x y : Int} (hx : zq x) (hy : zq y) : zl x < zl y ↔ x < y := by
  rw [Int64.lt_iff_toInt_lt, zl_toInt hx, zl_toInt hy]
theorem zl_ne0 {y : Int} (h : 0 < y) (h2 : y < 9223372036854775808) : ¬ zl y = 0 := by
  have h3 : ¬ zl y = zl 0 := by
    rw [zl_eq ⟨by omega, by omega⟩ ⟨by omega, by omega⟩]
    omega
  rw [zl_0] at h3
  exact h3
theorem zl_div {x y : Int} (hx : zx x 9223372036854775808) (hy : 0 < y ∧ y < 9223372036854775808) : zl x / zl y = zl (x / y) := by
  apply Int64.toInt_inj.mp
  rw [Int64.toInt_div_of_ne_right (zl x) (zl y) (by
    intro h
    have h3 : zl y = zl (-1) := h.trans zl_m1.symm
    rw [zl_eq ⟨by omega, by omega⟩ ⟨by omega, by omega⟩] at h3
    omega)]
  have h1 : 0 ≤ x / y := Int.ediv_nonneg hx.1 (by omega)
  have h2 : x / y ≤ x := Int.ediv_le_self y hx.1
  rw [zl_toInt ⟨by omega, by omega⟩, zl_toInt ⟨by omega, by omega⟩, zl_toInt ⟨by omega, by omega⟩]
  exact Int.tdiv_eq_ediv_of_nonneg hx.1
theorem zl_rem {x y : Int} (hx : zx x 9223372036854775808) (hy : 0 < y ∧ y < 9223372036854775808) : zl x - zl x / zl y * zl y = zl (x % y) := by
  rw [zl_div hx hy, zl_mul, zl_sub]
  congr 1
  have := Int.mul_ediv_add_emod x y
  have h2 : x / y * y = y * (x / y) := Int.mul_comm _ _
  omega
theorem zl_cmp {x y : Int} (hx : zq x) (hy : zq y) : lg_cmp (zl x) (zl y) = zi (z_cmp x y) := by
  unfold lg_cmp z_cmp
  by_cases h1 : y < x
  · rw [if_pos h1, if_pos ((zl_lt hy hx).mpr h1)]
    exact zi_1.symm
  · rw [if_neg h1, if_neg (fun h => h1 ((zl_lt hy hx).mp h))]
    by_cases h2 : x = y
    · rw [if_pos h2, if_pos ((zl_eq hx hy).mpr h2)]
      exact zi_0.symm
    · rw [if_neg h2, if_neg (fun h => h2 ((zl_eq hx hy).mp h))]
      exact zi_m1.symm
