/-! THE LAYER over the machine: names of the kinds of cells, the frame of a method (Cx), the walk (Wx), one row an instruction -/
def zc_Disk : String := "TwinTreeVolume$Disk"
def zc_Mind : String := "TwinTreeVolume$Mind"
def zc_Row : String := "TwinTreeVolume$Row"
def zc_Runs : String := "TwinTreeVolume$Runs"
def zc_Text : String := "TwinTreeVolume$Text"
def zc_Vol : String := "TwinTreeVolume"
def zc_Mod : String := "TwinTreeVolumeModel"
def zt_Disk : u_T := fun k => match k with
  | 0 => ("TwinTreeVolume$Disk", "owners", "[I", true)
  | 1 => ("TwinTreeVolume$Disk", "bytes", "[I", true)
  | 2 => ("TwinTreeVolume$Disk", "kinds", "[I", true)
  | 3 => ("TwinTreeVolume$Disk", "places", "[I", true)
  | 4 => ("TwinTreeVolume$Disk", "values", "[I", true)
  | 5 => ("TwinTreeVolume$Disk", "written", "[Z", true)
  | _ => ("TwinTreeVolume$Disk", "runs", "LTwinTreeVolume$Runs;", true)
def zt_Mind : u_T := fun k => match k with
  | 0 => ("TwinTreeVolume$Mind", "now", "LTwinTreeVolume$Disk;", true)
  | 1 => ("TwinTreeVolume$Mind", "trial", "LTwinTreeVolume$Disk;", true)
  | _ => ("TwinTreeVolume$Mind", "seed", "I", false)
def zt_Row : u_T := fun k => match k with
  | 0 => ("TwinTreeVolume$Row", "numbers", "[I", true)
  | _ => ("TwinTreeVolume$Row", "many", "I", false)
def zt_Runs : u_T := fun k => match k with
  | 0 => ("TwinTreeVolume$Runs", "starts", "[I", true)
  | 1 => ("TwinTreeVolume$Runs", "sizes", "[I", true)
  | _ => ("TwinTreeVolume$Runs", "many", "I", false)
def zt_Text : u_T := fun k => match k with
  | _ => ("TwinTreeVolume$Text", "signs", "LTwinTreeVolume$Row;", true)
def zt_Vol : u_T := fun k => match k with
  | 0 => ("TwinTreeVolume", "now", "LTwinTreeVolume$Disk;", true)
  | 1 => ("TwinTreeVolume", "kept", "LTwinTreeVolume$Disk;", true)
  | 2 => ("TwinTreeVolume", "trial", "LTwinTreeVolume$Disk;", true)
  | 3 => ("TwinTreeVolume", "mind", "LTwinTreeVolume$Mind;", true)
  | 4 => ("TwinTreeVolume", "text", "LTwinTreeVolume$Text;", true)
  | 5 => ("TwinTreeVolume", "told", "LTwinTreeVolume$Row;", true)
  | 6 => ("TwinTreeVolume", "refusals", "[I", true)
  | _ => ("TwinTreeVolume", "isKept", "Z", false)
def zt_Mod : u_T := fun k => match k with
  | 0 => ("TwinTreeVolumeModel", "refused", "[I", true)
  | 1 => ("TwinTreeVolumeModel", "bytes", "[I", true)
  | 2 => ("TwinTreeVolumeModel", "owner", "[I", true)
  | 3 => ("TwinTreeVolumeModel", "block", "[I", true)
  | 4 => ("TwinTreeVolumeModel", "written", "[I", true)
  | 5 => ("TwinTreeVolumeModel", "waits", "[I", true)
  | 6 => ("TwinTreeVolumeModel", "kinds", "[I", true)
  | 7 => ("TwinTreeVolumeModel", "stepsMade", "I", false)
  | 8 => ("TwinTreeVolumeModel", "stepsMost", "I", false)
  | 9 => ("TwinTreeVolumeModel", "tape", "[I", true)
  | 10 => ("TwinTreeVolumeModel", "sort", "[I", true)
  | 11 => ("TwinTreeVolumeModel", "sortAt", "[I", true)
  | 12 => ("TwinTreeVolumeModel", "told", "[I", true)
  | 13 => ("TwinTreeVolumeModel", "taped", "I", false)
  | 14 => ("TwinTreeVolumeModel", "reading", "I", false)
  | 15 => ("TwinTreeVolumeModel", "statements", "I", false)
  | 16 => ("TwinTreeVolumeModel", "telling", "I", false)
  | 17 => ("TwinTreeVolumeModel", "kept", "[I", true)
  | 18 => ("TwinTreeVolumeModel", "hasImage", "Z", false)
  | 19 => ("TwinTreeVolumeModel", "isKeeping", "Z", false)
  | 20 => ("TwinTreeVolumeModel", "cursor", "I", false)
  | 21 => ("TwinTreeVolumeModel", "was", "[I", true)
  | 22 => ("TwinTreeVolumeModel", "ends", "[I", true)
  | 23 => ("TwinTreeVolumeModel", "row", "[I", true)
  | 24 => ("TwinTreeVolumeModel", "rowMany", "I", false)
  | _ => ("TwinTreeVolumeModel", "lots", "I", false)
def zy_Disk : Nat → FieldType := fun k => match k with
  | 0 => .array .int
  | 1 => .array .int
  | 2 => .array .int
  | 3 => .array .int
  | 4 => .array .int
  | 5 => .array .boolean
  | _ => .object "TwinTreeVolume$Runs"
def zy_Mind : Nat → FieldType := fun k => match k with
  | 0 => .object "TwinTreeVolume$Disk"
  | 1 => .object "TwinTreeVolume$Disk"
  | _ => .int
def zy_Row : Nat → FieldType := fun k => match k with
  | 0 => .array .int
  | _ => .int
def zy_Runs : Nat → FieldType := fun k => match k with
  | 0 => .array .int
  | 1 => .array .int
  | _ => .int
def zy_Text : Nat → FieldType := fun k => match k with
  | _ => .object "TwinTreeVolume$Row"
def zy_Vol : Nat → FieldType := fun k => match k with
  | 0 => .object "TwinTreeVolume$Disk"
  | 1 => .object "TwinTreeVolume$Disk"
  | 2 => .object "TwinTreeVolume$Disk"
  | 3 => .object "TwinTreeVolume$Mind"
  | 4 => .object "TwinTreeVolume$Text"
  | 5 => .object "TwinTreeVolume$Row"
  | 6 => .array .int
  | _ => .boolean
def zy_Mod : Nat → FieldType := fun k => match k with
  | 0 => .array .int
  | 1 => .array .int
  | 2 => .array .int
  | 3 => .array .int
  | 4 => .array .int
  | 5 => .array .int
  | 6 => .array .int
  | 7 => .int
  | 8 => .int
  | 9 => .array .int
  | 10 => .array .int
  | 11 => .array .int
  | 12 => .array .int
  | 13 => .int
  | 14 => .int
  | 15 => .int
  | 16 => .int
  | 17 => .array .int
  | 18 => .boolean
  | 19 => .boolean
  | 20 => .int
  | 21 => .array .int
  | 22 => .array .int
  | 23 => .array .int
  | 24 => .int
  | _ => .int
theorem zn_Disk : ∀ a, a < 7 → ∀ b, b < 7 → a ≠ b → (zt_Disk a).2.1 ≠ (zt_Disk b).2.1 := by decide +kernel
theorem zo_Disk : ∀ k, k < 7 → parseFieldDescriptor (zt_Disk k).2.2.1 = some (zy_Disk k) := by decide +kernel
theorem zu_Disk : ∀ w ∈ u_ws zc_Disk zt_Disk 7, w ∈ lw_tbl := by decide +kernel
theorem zn_Mind : ∀ a, a < 3 → ∀ b, b < 3 → a ≠ b → (zt_Mind a).2.1 ≠ (zt_Mind b).2.1 := by decide +kernel
theorem zo_Mind : ∀ k, k < 3 → parseFieldDescriptor (zt_Mind k).2.2.1 = some (zy_Mind k) := by decide +kernel
theorem zu_Mind : ∀ w ∈ u_ws zc_Mind zt_Mind 3, w ∈ lw_tbl := by decide +kernel
theorem zn_Row : ∀ a, a < 2 → ∀ b, b < 2 → a ≠ b → (zt_Row a).2.1 ≠ (zt_Row b).2.1 := by decide +kernel
theorem zo_Row : ∀ k, k < 2 → parseFieldDescriptor (zt_Row k).2.2.1 = some (zy_Row k) := by decide +kernel
theorem zu_Row : ∀ w ∈ u_ws zc_Row zt_Row 2, w ∈ lw_tbl := by decide +kernel
theorem zn_Runs : ∀ a, a < 3 → ∀ b, b < 3 → a ≠ b → (zt_Runs a).2.1 ≠ (zt_Runs b).2.1 := by decide +kernel
theorem zo_Runs : ∀ k, k < 3 → parseFieldDescriptor (zt_Runs k).2.2.1 = some (zy_Runs k) := by decide +kernel
theorem zu_Runs : ∀ w ∈ u_ws zc_Runs zt_Runs 3, w ∈ lw_tbl := by decide +kernel
theorem zn_Text : ∀ a, a < 1 → ∀ b, b < 1 → a ≠ b → (zt_Text a).2.1 ≠ (zt_Text b).2.1 := by decide +kernel
theorem zo_Text : ∀ k, k < 1 → parseFieldDescriptor (zt_Text k).2.2.1 = some (zy_Text k) := by decide +kernel
theorem zu_Text : ∀ w ∈ u_ws zc_Text zt_Text 1, w ∈ lw_tbl := by decide +kernel
theorem zn_Vol : ∀ a, a < 8 → ∀ b, b < 8 → a ≠ b → (zt_Vol a).2.1 ≠ (zt_Vol b).2.1 := by decide +kernel
theorem zo_Vol : ∀ k, k < 8 → parseFieldDescriptor (zt_Vol k).2.2.1 = some (zy_Vol k) := by decide +kernel
theorem zu_Vol : ∀ w ∈ u_ws zc_Vol zt_Vol 8, w ∈ lw_tbl := by decide +kernel
theorem zn_Mod : ∀ a, a < 26 → ∀ b, b < 26 → a ≠ b → (zt_Mod a).2.1 ≠ (zt_Mod b).2.1 := by decide +kernel
theorem zo_Mod : ∀ k, k < 26 → parseFieldDescriptor (zt_Mod k).2.2.1 = some (zy_Mod k) := by decide +kernel
theorem zu_Mod : ∀ w ∈ u_ws zc_Mod zt_Mod 26, w ∈ lw_tbl := by decide +kernel
abbrev zk : List vw_C := [(zc_Disk, zt_Disk, 7), (zc_Mind, zt_Mind, 3), (zc_Row, zt_Row, 2), (zc_Runs, zt_Runs, 3), (zc_Text, zt_Text, 1), (zc_Vol, zt_Vol, 8), (zc_Mod, zt_Mod, 26)]
def zw_nest (w : Cond) : Bool := match w with
  | .fieldLinkNest _ _ _ _ _ _ => true
  | .methodLinkNest _ _ _ _ => true
  | _ => false
def zNW (U : State) : Prop := ∀ w ∈ lw_tbl, zw_nest w = true → va_Nw w U
def zGW : List Cond := lw_tbl.filter goodWord
theorem zNW.same {u U : State} (h : u.vm = U.vm) (hZ : zNW u) : zNW U := by
  intro w hw hn
  have h1 := hZ w hw hn
  cases w <;> first | exact va_Nw.same rfl h h1 | cases hn
theorem zNW.warm {s U : State} (hW : s.WarmedH U.vm) (hZ : zNW s) : zNW U := by
  intro w hw hn
  have h1 := hZ w hw hn
  cases w <;> first | exact va_Nw.warmF hW h1 | exact va_Nw.warmM hW h1 | cases hn
abbrev zTy (cI cB : ClassId) : List (ClassId × FieldType) := [(cI, .int), (cB, .boolean)]
noncomputable abbrev zA (c : ClassId) (n : Nat) (f : Int → Int) : va_E := .inl (c, (n, .inl (fun j => zi (f j))))
/-- p l e R s m args below meth c D A nL Q -/
abbrev GT : Type := Program × Launch × Env × Room × State × MethodId × Array Value × List Frame × Method × Code × va_G × (Nat → Prop) × Nat × (State → Prop)
def Wx (G : GT) (k n pc : Nat) (ls : List (Nat × Value)) (st : List Value) (w : va_W) : Prop := match G with
  | (p, l, e, R, s, m, args, below, meth, c, D, A, nL, Q) => ∀ (H : Heap) (locs : List Loc) (L : Array Slot), va_P D zk w H → va_D A w → va_S A s.heap H locs → lv_has L nL ls → W p l e R s m args below meth c H locs k n Q (F0 m pc L st)
def Cx (G : GT) (l0 : Launch) (D0 : va_G) (cI cB : ClassId) (cc : ByteArray) (own : String) (n0 : Nat) (rm : Room) : Prop := match G with
  | (p, l, e, R, s, m, args, below, meth, c, D, A, nL, Q) => l = l0 ∧ D = D0 ∧ nL = n0 ∧ R = rm ∧ p.tables.exec = Jvm.exec ∧ c.code = cc ∧ c.maxLocals = n0 ∧ s.vm.findClass own = some m.cls ∧ (∀ w ∈ lw_tbl, goodWord w = true → w.before args s = true) ∧ zNW s ∧ va_K D0 zk (zTy cI cB) s ∧ (∀ q, s.heap.size ≤ q → A q)
/-- how a method begins and ends, as its callers see it -/
def zPr (D : va_G) (cI cB : ClassId) (w : va_W) (sz : Nat) (U : State) : Prop := U.heap.size = sz ∧ va_P D zk w U.heap ∧ va_K D zk (zTy cI cB) U ∧ va_D (fun _ => True) w ∧ zNW U
def zQr (D : va_G) (rv : Option Value) (w w' : va_W) (sz : Nat) : Array Value → State → Outcome → State → Prop := fun _ st o t => o = .returned rv ∧ va_P D zk w' t.heap ∧ va_F (va_A w sz) st t
def zWS (y : MethodName) (cc : ByteArray) (maxL : Nat) (ret : Option FieldType) : List Cond := .code y cc maxL ret :: zGW
def Ct (l : Launch) (D : va_G) (cI cB : ClassId) (y : MethodName) (cc : ByteArray) (maxL : Nat) (ret : Option FieldType) (rm : Room) (args : List Value) (w w' : va_W) (rv : Option Value) : Prop :=
  ∀ sz : Nat, Met l y (zWS y cc maxL ret) rm (va_Pc args (zPr D cI cB w sz)) (zQr D rv w w' sz) 0 0 (va_A w sz)
/-- what a method's end must be -/
def Rt (G : GT) (ret : Option FieldType) (rv : Option Value) (w' : va_W) : Prop := match G with
  | (p, l, e, R, s, m, args, below, meth, c, D, A, nL, Q) => ∃ w : va_W, A = va_A w s.heap.size ∧ Q = MQ below (zQr D rv w w' s.heap.size) args s 0 0 A ∧ meth.locks = false ∧ meth.sig.returnType = ret
theorem Ct.start {l : Launch} {D : va_G} {cI cB : ClassId} {y : MethodName} {cc : ByteArray} {maxL : Nat} {ret : Option FieldType} {fr lo : Nat} {args : List Value} {w w' : va_W} {rv : Option Value} (hy : plainName y.cls = true) (hsl : (lg_sl args).length ≤ maxL)
    (body : ∀ G : GT, Cx G l D cI cB cc y.cls maxL { frames := fr, cells := 0, slots := 0, locals := lo } → Rt G ret rv w' → Wx G 0 0 0 (lv_args 0 args) [] w) : Ct l D cI cB y cc maxL ret { frames := fr, cells := 0, slots := 0, locals := lo } args w w' rv := by
  intro sz
  refine Met.ofW (cc := cc) (maxL := maxL) (ret := ret) hy rfl ?_
  intro p e s m a below meth c s₁ B hml hv
  obtain ⟨rfl, hsz, hP, hK, hD0, hN⟩ := hv
  subst hsz
  have hts := atoms_spec (ws := zWS y cc maxL ret) B.pre
  have hl := lv_entry args (n := maxL) hsl
  rw [lg_entry_eq]
  exact body (p, l, e, { frames := fr, cells := 0, slots := 0, locals := lo }, s, m, args.toArray, below, meth, c, D, va_A w s.heap.size, maxL, MQ below (zQr D rv w w' s.heap.size) args.toArray s 0 0 (va_A w s.heap.size))
    ⟨rfl, rfl, rfl, rfl, B.exec, B.bytes, hml, findClass_of_methodNamed B.named, fun w hw hg => hts w (List.mem_cons_of_mem _ (List.mem_filter.mpr ⟨hw, hg⟩)), hN, hK, fun q h => Or.inr h⟩
    ⟨w, rfl, rfl, B.notSynchronized, B.returns⟩ _ _ _ hP hD0.self va_S.rf hl
theorem zcopy_ok : Cond.native arraycopyName ∈ lw_tbl ∧ Cond.static arraycopyName ∈ lw_tbl ∧ Cond.initialized "java/lang/System" ∈ lw_tbl := by decide +kernel
theorem zA_ext {D : va_G} {a : Nat} {c : ClassId} {N : Nat} {f g : Nat → Int32} {H : Heap} (h : ∀ j, j < N → f j = g j) (hP : va_at D zk (a, .inl (c, (N, .inl f))) H) : va_at D zk (a, .inl (c, (N, .inl g))) H := by
  have h1 : H[a]? = some (vp_cell c (N, .inl f)) := hP
  show H[a]? = some (vp_cell c (N, .inl g))
  rw [h1]
  have e : vp_cell c (N, .inl f) = vp_cell c (N, .inl g) := by
    rw [vp_cell_i, vp_cell_i]
    unfold arrV
    congr 1
    first
      | (apply Array.ext <;> simp_all; done)
      | (congr 1; apply List.map_congr_left; intro j hj; rw [h j (List.mem_range.mp hj)])
  rw [e]
theorem zu_fun {N : Nat} {f : Int → Int} {x v : Int} (h : zx x N) (hN : N < 2147483648) : upd (fun j : Nat => zi (f (j : Int))) (zi x).toNatClampNeg (zi v) = (fun j : Nat => zi (uf f x v (j : Int))) := by
  funext j
  rw [zi_nat h.1 (by omega)]
  unfold upd uf
  by_cases hj : j = x.toNat
  · rw [if_pos hj, if_pos (by omega)]
  · rw [if_neg hj, if_neg (by omega)]
/-- a field's link: of the same nest or of its own -/
def Fl (own : String) (i ci j : Nat) : Prop := ∃ (C : String) (T : u_T) (N : Nat), zk[ci]? = some (C, T, N) ∧ j < N ∧ (∀ w ∈ u_ws C T N, w ∈ lw_tbl.filter goodWord) ∧
  ((Cond.fieldLink own i (T j).1 (T j).2.1 (T j).2.2.1 ∈ lw_tbl ∧ goodWord (Cond.fieldLink own i (T j).1 (T j).2.1 (T j).2.2.1) = true) ∨ (True ∧ Cond.fieldLinkNest own i (T j).1 (T j).2.1 (T j).2.2.1 "TwinTreeVolume" ∈ lw_tbl))
/-- a field that may be written, and what fits there -/
def Fp (own : String) (i ci j : Nat) (v : Value) : Prop := ∃ (C : String) (T : u_T) (N : Nat) (ty0 : Nat → FieldType) (ty : FieldType), zk[ci]? = some (C, T, N) ∧ j < N ∧ (∀ w ∈ u_ws C T N, w ∈ lw_tbl.filter goodWord) ∧ (∀ k, k < N → parseFieldDescriptor (T k).2.2.1 = some (ty0 k)) ∧ (∀ a, a < N → ∀ b, b < N → a ≠ b → (T a).2.1 ≠ (T b).2.1) ∧ (T j).2.2.2 = false ∧ parseFieldDescriptor (T j).2.2.1 = some ty ∧ narrow ty v = v ∧ fits ty v = true ∧
  Cond.fieldLink own i (T j).1 (T j).2.1 (T j).2.2.1 ∈ lw_tbl ∧ goodWord (Cond.fieldLink own i (T j).1 (T j).2.1 (T j).2.2.1) = true
section ROWS
variable {G : GT} {l : Launch} {D : va_G} {cI cB : ClassId} {cc : ByteArray} {own : String} {n0 : Nat} {rm : Room} {k n pc : Nat} {ls : List (Nat × Value)} {st : List Value} {w : va_W}
/-- the end of a row: opens the frame -/
theorem x_ls {ls2 : List (Nat × Value)} (ks : List Nat) (h : lv_pick ls ks = ls2) (kk : Wx G k n pc ls2 st w) : Wx G k n pc ls st w := by
  obtain ⟨p, l', e, R, s, m, args, below, meth, c, D', A, nL, Q⟩ := G
  intro H locs L hP hD hS hl
  exact kk H locs L hP hD hS (lv_sub hl ks h)
theorem x_iconst {v : Int} (X : Cx G l D cI cB cc own n0 rm) (hd : decode cc pc = .ok (.iconst v, 1)) (kk : Wx G k n (pc + 1) ls (.int (zi v) :: st) w) : Wx G k n pc ls st w := by
  obtain ⟨p, l', e, R, s, m, args, below, meth, c, D', A, nL, Q⟩ := G
  obtain ⟨rfl, rfl, rfl, rfl, hx, hb, hml, hown, hts, hN, hK, hA⟩ := X
  intro H locs L hP hD hS hl
  exact lv_iconst hx hb hd (zi_d v).symm (kk H locs L hP hD hS hl)
theorem x_bipush {v : Int} (X : Cx G l D cI cB cc own n0 rm) (hd : decode cc pc = .ok (.bipush v, 2)) (hv : (Int8.ofInt v).toInt32 = Int32.ofInt v) (kk : Wx G k n (pc + 2) ls (.int (zi v) :: st) w) : Wx G k n pc ls st w := by
  obtain ⟨p, l', e, R, s, m, args, below, meth, c, D', A, nL, Q⟩ := G
  obtain ⟨rfl, rfl, rfl, rfl, hx, hb, hml, hown, hts, hN, hK, hA⟩ := X
  intro H locs L hP hD hS hl
  exact lv_bipush hx hb hd (hv.trans (zi_d v).symm) (kk H locs L hP hD hS hl)
theorem x_sipush {v : Int} (X : Cx G l D cI cB cc own n0 rm) (hd : decode cc pc = .ok (.sipush v, 3)) (hv : (Int16.ofInt v).toInt32 = Int32.ofInt v) (kk : Wx G k n (pc + 3) ls (.int (zi v) :: st) w) : Wx G k n pc ls st w := by
  obtain ⟨p, l', e, R, s, m, args, below, meth, c, D', A, nL, Q⟩ := G
  obtain ⟨rfl, rfl, rfl, rfl, hx, hb, hml, hown, hts, hN, hK, hA⟩ := X
  intro H locs L hP hD hS hl
  exact lv_sipush hx hb hd (hv.trans (zi_d v).symm) (kk H locs L hP hD hS hl)
theorem x_lconst {v : Fin 2} {x : Int} (X : Cx G l D cI cB cc own n0 rm) (hd : decode cc pc = .ok (.lconst v, 1)) (hv : Int64.ofNat (v : Nat) = Int64.ofInt x) (kk : Wx G k n (pc + 1) ls (.long (zl x) :: st) w) : Wx G k n pc ls st w := by
  obtain ⟨p, l', e, R, s, m, args, below, meth, c, D', A, nL, Q⟩ := G
  obtain ⟨rfl, rfl, rfl, rfl, hx, hb, hml, hown, hts, hN, hK, hA⟩ := X
  intro H locs L hP hD hS hl
  exact lv_lconst hx hb hd (hv.trans (zl_d x).symm) (kk H locs L hP hD hS hl)
theorem x_ldc {v : Int} {i : Nat} (X : Cx G l D cI cB cc own n0 rm) (hd : decode cc pc = .ok (.ldc i, 2)) (hw : Cond.constant own i (Int32.ofInt v) ∈ lw_tbl) (hg : goodWord (Cond.constant own i (Int32.ofInt v)) = true) (kk : Wx G k n (pc + 2) ls (.int (zi v) :: st) w) : Wx G k n pc ls st w := by
  obtain ⟨p, l', e, R, s, m, args, below, meth, c, D', A, nL, Q⟩ := G
  obtain ⟨rfl, rfl, rfl, rfl, hx, hb, hml, hown, hts, hN, hK, hA⟩ := X
  intro H locs L hP hD hS hl
  exact lv_ldc hx hb hown (by rw [zi_d]; exact hts _ hw hg) hd (kk H locs L hP hD hS hl)
theorem x_ldcw {v : Int} {i : Nat} (X : Cx G l D cI cB cc own n0 rm) (hd : decode cc pc = .ok (.ldc_w i, 3)) (hw : Cond.constant own i (Int32.ofInt v) ∈ lw_tbl) (hg : goodWord (Cond.constant own i (Int32.ofInt v)) = true) (kk : Wx G k n (pc + 3) ls (.int (zi v) :: st) w) : Wx G k n pc ls st w := by
  obtain ⟨p, l', e, R, s, m, args, below, meth, c, D', A, nL, Q⟩ := G
  obtain ⟨rfl, rfl, rfl, rfl, hx, hb, hml, hown, hts, hN, hK, hA⟩ := X
  intro H locs L hP hD hS hl
  exact lv_ldcw hx hb hown (by rw [zi_d]; exact hts _ hw hg) hd (kk H locs L hP hD hS hl)
theorem x_ldc2 {v : Int} {i : Nat} (X : Cx G l D cI cB cc own n0 rm) (hd : decode cc pc = .ok (.ldc2_w i, 3)) (hw : Cond.constantLong own i (Int64.ofInt v) ∈ lw_tbl) (hg : goodWord (Cond.constantLong own i (Int64.ofInt v)) = true) (kk : Wx G k n (pc + 3) ls (.long (zl v) :: st) w) : Wx G k n pc ls st w := by
  obtain ⟨p, l', e, R, s, m, args, below, meth, c, D', A, nL, Q⟩ := G
  obtain ⟨rfl, rfl, rfl, rfl, hx, hb, hml, hown, hts, hN, hK, hA⟩ := X
  intro H locs L hP hD hS hl
  exact lv_ldc2 hx hb hown (by rw [zl_d]; exact hts _ hw hg) hd (kk H locs L hP hD hS hl)
theorem x_iload_n {j : Fin 4} {i : Nat} {x : Int32} (X : Cx G l D cI cB cc own n0 rm) (hd : decode cc pc = .ok (.iload_n j, 1)) (q : Nat) (hi : (j : Nat) = i) (hq : ls[q]? = some (i, .int x)) (kk : Wx G k n (pc + 1) ls (.int x :: st) w) : Wx G k n pc ls st w := by
  obtain ⟨p, l', e, R, s, m, args, below, meth, c, D', A, nL, Q⟩ := G
  obtain ⟨rfl, rfl, rfl, rfl, hx, hb, hml, hown, hts, hN, hK, hA⟩ := X
  intro H locs L hP hD hS hl
  exact lv_iload_n hx hb hd hi (lv_at hl q hq) (kk H locs L hP hD hS hl)
theorem x_iload {i : Nat} {x : Int32} (X : Cx G l D cI cB cc own n0 rm) (hd : decode cc pc = .ok (.iload i, 2)) (q : Nat) (hq : ls[q]? = some (i, .int x)) (kk : Wx G k n (pc + 2) ls (.int x :: st) w) : Wx G k n pc ls st w := by
  obtain ⟨p, l', e, R, s, m, args, below, meth, c, D', A, nL, Q⟩ := G
  obtain ⟨rfl, rfl, rfl, rfl, hx, hb, hml, hown, hts, hN, hK, hA⟩ := X
  intro H locs L hP hD hS hl
  exact lv_iload hx hb hd (lv_at hl q hq) (kk H locs L hP hD hS hl)
theorem x_lload_n {j : Fin 4} {i : Nat} {x : Int64} (X : Cx G l D cI cB cc own n0 rm) (hd : decode cc pc = .ok (.lload_n j, 1)) (q : Nat) (hi : (j : Nat) = i) (hq : ls[q]? = some (i, .long x)) (kk : Wx G k n (pc + 1) ls (.long x :: st) w) : Wx G k n pc ls st w := by
  obtain ⟨p, l', e, R, s, m, args, below, meth, c, D', A, nL, Q⟩ := G
  obtain ⟨rfl, rfl, rfl, rfl, hx, hb, hml, hown, hts, hN, hK, hA⟩ := X
  intro H locs L hP hD hS hl
  exact lv_lload_n hx hb hd hi (lv_at hl q hq) (kk H locs L hP hD hS hl)
theorem x_lload {i : Nat} {x : Int64} (X : Cx G l D cI cB cc own n0 rm) (hd : decode cc pc = .ok (.lload i, 2)) (q : Nat) (hq : ls[q]? = some (i, .long x)) (kk : Wx G k n (pc + 2) ls (.long x :: st) w) : Wx G k n pc ls st w := by
  obtain ⟨p, l', e, R, s, m, args, below, meth, c, D', A, nL, Q⟩ := G
  obtain ⟨rfl, rfl, rfl, rfl, hx, hb, hml, hown, hts, hN, hK, hA⟩ := X
  intro H locs L hP hD hS hl
  exact lv_lload hx hb hd (lv_at hl q hq) (kk H locs L hP hD hS hl)
theorem x_aload_n {j : Fin 4} {i : Nat} {x : Nat} (X : Cx G l D cI cB cc own n0 rm) (hd : decode cc pc = .ok (.aload_n j, 1)) (q : Nat) (hi : (j : Nat) = i) (hq : ls[q]? = some (i, .ref x)) (kk : Wx G k n (pc + 1) ls (.ref x :: st) w) : Wx G k n pc ls st w := by
  obtain ⟨p, l', e, R, s, m, args, below, meth, c, D', A, nL, Q⟩ := G
  obtain ⟨rfl, rfl, rfl, rfl, hx, hb, hml, hown, hts, hN, hK, hA⟩ := X
  intro H locs L hP hD hS hl
  exact lv_aload_n hx hb hd hi (lv_at hl q hq) (kk H locs L hP hD hS hl)
theorem x_aload {i : Nat} {x : Nat} (X : Cx G l D cI cB cc own n0 rm) (hd : decode cc pc = .ok (.aload i, 2)) (q : Nat) (hq : ls[q]? = some (i, .ref x)) (kk : Wx G k n (pc + 2) ls (.ref x :: st) w) : Wx G k n pc ls st w := by
  obtain ⟨p, l', e, R, s, m, args, below, meth, c, D', A, nL, Q⟩ := G
  obtain ⟨rfl, rfl, rfl, rfl, hx, hb, hml, hown, hts, hN, hK, hA⟩ := X
  intro H locs L hP hD hS hl
  exact lv_aload hx hb hd (lv_at hl q hq) (kk H locs L hP hD hS hl)
theorem x_istore_n {j : Fin 4} {i : Nat} {x : Int32} {ls2 : List (Nat × Value)} (X : Cx G l D cI cB cc own n0 rm) (hd : decode cc pc = .ok (.istore_n j, 1)) (hi : (j : Nat) = i) (hn : i < n0) (hq : (i, Value.int x) :: ls.filter (fun q => !(q.1 == i) && !(q.1 + 1 == i && q.2.category == 2)) = ls2) (kk : Wx G k n (pc + 1) ls2 st w) : Wx G k n pc ls (.int x :: st) w := by
  obtain ⟨p, l', e, R, s, m, args, below, meth, c, D', A, nL, Q⟩ := G
  obtain ⟨rfl, rfl, rfl, rfl, hx, hb, hml, hown, hts, hN, hK, hA⟩ := X
  intro H locs L hP hD hS hl
  exact lv_istore_n hx hb hd hi hl hn hq (fun L2 h2 => kk H locs L2 hP hD hS h2)
theorem x_istore {i : Nat} {x : Int32} {ls2 : List (Nat × Value)} (X : Cx G l D cI cB cc own n0 rm) (hd : decode cc pc = .ok (.istore i, 2)) (hn : i < n0) (hq : (i, Value.int x) :: ls.filter (fun q => !(q.1 == i) && !(q.1 + 1 == i && q.2.category == 2)) = ls2) (kk : Wx G k n (pc + 2) ls2 st w) : Wx G k n pc ls (.int x :: st) w := by
  obtain ⟨p, l', e, R, s, m, args, below, meth, c, D', A, nL, Q⟩ := G
  obtain ⟨rfl, rfl, rfl, rfl, hx, hb, hml, hown, hts, hN, hK, hA⟩ := X
  intro H locs L hP hD hS hl
  exact lv_istore hx hb hd hl hn hq (fun L2 h2 => kk H locs L2 hP hD hS h2)
theorem x_lstore_n {j : Fin 4} {i : Nat} {x : Int64} {ls2 : List (Nat × Value)} (X : Cx G l D cI cB cc own n0 rm) (hd : decode cc pc = .ok (.lstore_n j, 1)) (hi : (j : Nat) = i) (hn : i + 1 < n0) (hq : (i, Value.long x) :: ls.filter (fun q => !(q.1 == i) && (!(q.1 == i + 1) && !(q.1 + 1 == i && q.2.category == 2))) = ls2) (kk : Wx G k n (pc + 1) ls2 st w) : Wx G k n pc ls (.long x :: st) w := by
  obtain ⟨p, l', e, R, s, m, args, below, meth, c, D', A, nL, Q⟩ := G
  obtain ⟨rfl, rfl, rfl, rfl, hx, hb, hml, hown, hts, hN, hK, hA⟩ := X
  intro H locs L hP hD hS hl
  exact lv_lstore_n hx hb hd hi hl hn hq (fun L2 h2 => kk H locs L2 hP hD hS h2)
theorem x_lstore {i : Nat} {x : Int64} {ls2 : List (Nat × Value)} (X : Cx G l D cI cB cc own n0 rm) (hd : decode cc pc = .ok (.lstore i, 2)) (hn : i + 1 < n0) (hq : (i, Value.long x) :: ls.filter (fun q => !(q.1 == i) && (!(q.1 == i + 1) && !(q.1 + 1 == i && q.2.category == 2))) = ls2) (kk : Wx G k n (pc + 2) ls2 st w) : Wx G k n pc ls (.long x :: st) w := by
  obtain ⟨p, l', e, R, s, m, args, below, meth, c, D', A, nL, Q⟩ := G
  obtain ⟨rfl, rfl, rfl, rfl, hx, hb, hml, hown, hts, hN, hK, hA⟩ := X
  intro H locs L hP hD hS hl
  exact lv_lstore hx hb hd hl hn hq (fun L2 h2 => kk H locs L2 hP hD hS h2)
theorem x_astore_n {j : Fin 4} {i : Nat} {x : Nat} {ls2 : List (Nat × Value)} (X : Cx G l D cI cB cc own n0 rm) (hd : decode cc pc = .ok (.astore_n j, 1)) (hi : (j : Nat) = i) (hn : i < n0) (hq : (i, Value.ref x) :: ls.filter (fun q => !(q.1 == i) && !(q.1 + 1 == i && q.2.category == 2)) = ls2) (kk : Wx G k n (pc + 1) ls2 st w) : Wx G k n pc ls (.ref x :: st) w := by
  obtain ⟨p, l', e, R, s, m, args, below, meth, c, D', A, nL, Q⟩ := G
  obtain ⟨rfl, rfl, rfl, rfl, hx, hb, hml, hown, hts, hN, hK, hA⟩ := X
  intro H locs L hP hD hS hl
  exact lv_astore_n hx hb hd hi hl hn hq (fun L2 h2 => kk H locs L2 hP hD hS h2)
theorem x_astore {i : Nat} {x : Nat} {ls2 : List (Nat × Value)} (X : Cx G l D cI cB cc own n0 rm) (hd : decode cc pc = .ok (.astore i, 2)) (hn : i < n0) (hq : (i, Value.ref x) :: ls.filter (fun q => !(q.1 == i) && !(q.1 + 1 == i && q.2.category == 2)) = ls2) (kk : Wx G k n (pc + 2) ls2 st w) : Wx G k n pc ls (.ref x :: st) w := by
  obtain ⟨p, l', e, R, s, m, args, below, meth, c, D', A, nL, Q⟩ := G
  obtain ⟨rfl, rfl, rfl, rfl, hx, hb, hml, hown, hts, hN, hK, hA⟩ := X
  intro H locs L hP hD hS hl
  exact lv_astore hx hb hd hl hn hq (fun L2 h2 => kk H locs L2 hP hD hS h2)
theorem x_iinc {i : Nat} {v x : Int} {ls2 : List (Nat × Value)} (X : Cx G l D cI cB cc own n0 rm) (hd : decode cc pc = .ok (.iinc i v, 3)) (q : Nat) (hn : i < n0) (hl0 : ls[q]? = some (i, .int (zi x))) (hq : (i, Value.int (zi (x + v))) :: ls.filter (fun q => !(q.1 == i) && !(q.1 + 1 == i && q.2.category == 2)) = ls2) (kk : Wx G k n (pc + 3) ls2 st w) : Wx G k n pc ls st w := by
  obtain ⟨p, l', e, R, s, m, args, below, meth, c, D', A, nL, Q⟩ := G
  obtain ⟨rfl, rfl, rfl, rfl, hx, hb, hml, hown, hts, hN, hK, hA⟩ := X
  intro H locs L hP hD hS hl
  exact lv_iinc hx hb hd hl (k := q) hl0 (by rw [← zi_d]; exact zi_add x v) hn hq (fun L2 h2 => kk H locs L2 hP hD hS h2)
theorem x_iadd {x y : Int} (X : Cx G l D cI cB cc own n0 rm) (hd : decode cc pc = .ok (.iadd, 1)) (kk : Wx G k n (pc + 1) ls (.int (zi (x + y)) :: st) w) : Wx G k n pc ls (.int (zi y) :: .int (zi x) :: st) w := by
  obtain ⟨p, l', e, R, s, m, args, below, meth, c, D', A, nL, Q⟩ := G
  obtain ⟨rfl, rfl, rfl, rfl, hx, hb, hml, hown, hts, hN, hK, hA⟩ := X
  intro H locs L hP hD hS hl
  refine lv_iadd hx hb hd ?_
  rw [zi_add]
  exact kk H locs L hP hD hS hl
theorem x_isub {x y : Int} (X : Cx G l D cI cB cc own n0 rm) (hd : decode cc pc = .ok (.isub, 1)) (kk : Wx G k n (pc + 1) ls (.int (zi (x - y)) :: st) w) : Wx G k n pc ls (.int (zi y) :: .int (zi x) :: st) w := by
  obtain ⟨p, l', e, R, s, m, args, below, meth, c, D', A, nL, Q⟩ := G
  obtain ⟨rfl, rfl, rfl, rfl, hx, hb, hml, hown, hts, hN, hK, hA⟩ := X
  intro H locs L hP hD hS hl
  refine lv_isub hx hb hd ?_
  rw [zi_sub]
  exact kk H locs L hP hD hS hl
theorem x_imul {x y : Int} (X : Cx G l D cI cB cc own n0 rm) (hd : decode cc pc = .ok (.imul, 1)) (kk : Wx G k n (pc + 1) ls (.int (zi (x * y)) :: st) w) : Wx G k n pc ls (.int (zi y) :: .int (zi x) :: st) w := by
  obtain ⟨p, l', e, R, s, m, args, below, meth, c, D', A, nL, Q⟩ := G
  obtain ⟨rfl, rfl, rfl, rfl, hx, hb, hml, hown, hts, hN, hK, hA⟩ := X
  intro H locs L hP hD hS hl
  refine lv_imul hx hb hd ?_
  rw [zi_mul]
  exact kk H locs L hP hD hS hl
theorem x_ineg {x : Int} (X : Cx G l D cI cB cc own n0 rm) (hd : decode cc pc = .ok (.ineg, 1)) (kk : Wx G k n (pc + 1) ls (.int (zi (-x)) :: st) w) : Wx G k n pc ls (.int (zi x) :: st) w := by
  obtain ⟨p, l', e, R, s, m, args, below, meth, c, D', A, nL, Q⟩ := G
  obtain ⟨rfl, rfl, rfl, rfl, hx, hb, hml, hown, hts, hN, hK, hA⟩ := X
  intro H locs L hP hD hS hl
  refine lv_ineg hx hb hd ?_
  first
    | rw [zi_neg]; exact kk H locs L hP hD hS hl
    | rw [show (0 : Int32) - zi x = zi (-x) by rw [zi_0.symm, zi_sub]; congr 1; omega]; exact kk H locs L hP hD hS hl
theorem x_idiv {x y : Int} {α : Type} {A : Option α} {o : α} (X : Cx G l D cI cB cc own n0 rm) (hd : decode cc pc = .ok (.idiv, 1)) (h : gd (zx x 2147483648 ∧ zp y 2147483648) A = some o) (kk : A = some o → Wx G k n (pc + 1) ls (.int (zi (x / y)) :: st) w) : Wx G k n pc ls (.int (zi y) :: .int (zi x) :: st) w := by
  obtain ⟨hg, h⟩ := gd_e h
  obtain ⟨p, l', e, R, s, m, args, below, meth, c, D', A, nL, Q⟩ := G
  obtain ⟨rfl, rfl, rfl, rfl, hx, hb, hml, hown, hts, hN, hK, hA⟩ := X
  intro H locs L hP hD hS hl
  refine lv_idiv hx hb hd (zi_ne0 hg.2.1 hg.2.2) ?_
  rw [zi_div hg.1 hg.2]
  exact kk h H locs L hP hD hS hl
theorem x_irem {x y : Int} {α : Type} {A : Option α} {o : α} (X : Cx G l D cI cB cc own n0 rm) (hd : decode cc pc = .ok (.irem, 1)) (h : gd (zx x 2147483648 ∧ zp y 2147483648) A = some o) (kk : A = some o → Wx G k n (pc + 1) ls (.int (zi (x % y)) :: st) w) : Wx G k n pc ls (.int (zi y) :: .int (zi x) :: st) w := by
  obtain ⟨hg, h⟩ := gd_e h
  obtain ⟨p, l', e, R, s, m, args, below, meth, c, D', A, nL, Q⟩ := G
  obtain ⟨rfl, rfl, rfl, rfl, hx, hb, hml, hown, hts, hN, hK, hA⟩ := X
  intro H locs L hP hD hS hl
  refine lv_irem hx hb hd (zi_ne0 hg.2.1 hg.2.2) ?_
  rw [zi_rem hg.1 hg.2]
  exact kk h H locs L hP hD hS hl
theorem x_iand {x y : Int} (X : Cx G l D cI cB cc own n0 rm) (hd : decode cc pc = .ok (.iand, 1)) (kk : Wx G k n (pc + 1) ls (.int (zi (z_and x y)) :: st) w) : Wx G k n pc ls (.int (zi y) :: .int (zi x) :: st) w := by
  obtain ⟨p, l', e, R, s, m, args, below, meth, c, D', A, nL, Q⟩ := G
  obtain ⟨rfl, rfl, rfl, rfl, hx, hb, hml, hown, hts, hN, hK, hA⟩ := X
  intro H locs L hP hD hS hl
  refine lv_iand hx hb hd ?_
  rw [show zi x &&& zi y = zi (z_and x y) by rw [z_and, zi_of, zi_d, zi_d]]
  exact kk H locs L hP hD hS hl
theorem x_ior {x y : Int} (X : Cx G l D cI cB cc own n0 rm) (hd : decode cc pc = .ok (.ior, 1)) (kk : Wx G k n (pc + 1) ls (.int (zi (z_or x y)) :: st) w) : Wx G k n pc ls (.int (zi y) :: .int (zi x) :: st) w := by
  obtain ⟨p, l', e, R, s, m, args, below, meth, c, D', A, nL, Q⟩ := G
  obtain ⟨rfl, rfl, rfl, rfl, hx, hb, hml, hown, hts, hN, hK, hA⟩ := X
  intro H locs L hP hD hS hl
  refine lv_ior hx hb hd ?_
  rw [show zi x ||| zi y = zi (z_or x y) by rw [z_or, zi_of, zi_d, zi_d]]
  exact kk H locs L hP hD hS hl
theorem x_ixor {x y : Int} (X : Cx G l D cI cB cc own n0 rm) (hd : decode cc pc = .ok (.ixor, 1)) (kk : Wx G k n (pc + 1) ls (.int (zi (z_xor x y)) :: st) w) : Wx G k n pc ls (.int (zi y) :: .int (zi x) :: st) w := by
  obtain ⟨p, l', e, R, s, m, args, below, meth, c, D', A, nL, Q⟩ := G
  obtain ⟨rfl, rfl, rfl, rfl, hx, hb, hml, hown, hts, hN, hK, hA⟩ := X
  intro H locs L hP hD hS hl
  refine lv_ixor hx hb hd ?_
  rw [show zi x ^^^ zi y = zi (z_xor x y) by rw [z_xor, zi_of, zi_d, zi_d]]
  exact kk H locs L hP hD hS hl
theorem x_ishl {x y : Int} (X : Cx G l D cI cB cc own n0 rm) (hd : decode cc pc = .ok (.ishl, 1)) (kk : Wx G k n (pc + 1) ls (.int (zi (z_shl x y)) :: st) w) : Wx G k n pc ls (.int (zi y) :: .int (zi x) :: st) w := by
  obtain ⟨p, l', e, R, s, m, args, below, meth, c, D', A, nL, Q⟩ := G
  obtain ⟨rfl, rfl, rfl, rfl, hx, hb, hml, hown, hts, hN, hK, hA⟩ := X
  intro H locs L hP hD hS hl
  refine lv_ishl hx hb hd ?_
  rw [show zi x <<< (zi y &&& 31) = zi (z_shl x y) by rw [z_shl, zi_of, zi_d, zi_d]]
  exact kk H locs L hP hD hS hl
theorem x_ishr {x y : Int} (X : Cx G l D cI cB cc own n0 rm) (hd : decode cc pc = .ok (.ishr, 1)) (kk : Wx G k n (pc + 1) ls (.int (zi (z_shr x y)) :: st) w) : Wx G k n pc ls (.int (zi y) :: .int (zi x) :: st) w := by
  obtain ⟨p, l', e, R, s, m, args, below, meth, c, D', A, nL, Q⟩ := G
  obtain ⟨rfl, rfl, rfl, rfl, hx, hb, hml, hown, hts, hN, hK, hA⟩ := X
  intro H locs L hP hD hS hl
  refine lv_ishr hx hb hd ?_
  rw [show zi x >>> (zi y &&& 31) = zi (z_shr x y) by rw [z_shr, zi_of, zi_d, zi_d]]
  exact kk H locs L hP hD hS hl
theorem x_ladd {x y : Int} (X : Cx G l D cI cB cc own n0 rm) (hd : decode cc pc = .ok (.ladd, 1)) (kk : Wx G k n (pc + 1) ls (.long (zl (x + y)) :: st) w) : Wx G k n pc ls (.long (zl y) :: .long (zl x) :: st) w := by
  obtain ⟨p, l', e, R, s, m, args, below, meth, c, D', A, nL, Q⟩ := G
  obtain ⟨rfl, rfl, rfl, rfl, hx, hb, hml, hown, hts, hN, hK, hA⟩ := X
  intro H locs L hP hD hS hl
  refine lv_ladd hx hb hd ?_
  rw [zl_add]
  exact kk H locs L hP hD hS hl
theorem x_lsub {x y : Int} (X : Cx G l D cI cB cc own n0 rm) (hd : decode cc pc = .ok (.lsub, 1)) (kk : Wx G k n (pc + 1) ls (.long (zl (x - y)) :: st) w) : Wx G k n pc ls (.long (zl y) :: .long (zl x) :: st) w := by
  obtain ⟨p, l', e, R, s, m, args, below, meth, c, D', A, nL, Q⟩ := G
  obtain ⟨rfl, rfl, rfl, rfl, hx, hb, hml, hown, hts, hN, hK, hA⟩ := X
  intro H locs L hP hD hS hl
  refine lv_lsub hx hb hd ?_
  rw [zl_sub]
  exact kk H locs L hP hD hS hl
theorem x_lmul {x y : Int} (X : Cx G l D cI cB cc own n0 rm) (hd : decode cc pc = .ok (.lmul, 1)) (kk : Wx G k n (pc + 1) ls (.long (zl (x * y)) :: st) w) : Wx G k n pc ls (.long (zl y) :: .long (zl x) :: st) w := by
  obtain ⟨p, l', e, R, s, m, args, below, meth, c, D', A, nL, Q⟩ := G
  obtain ⟨rfl, rfl, rfl, rfl, hx, hb, hml, hown, hts, hN, hK, hA⟩ := X
  intro H locs L hP hD hS hl
  refine lv_lmul hx hb hd ?_
  rw [zl_mul]
  exact kk H locs L hP hD hS hl
theorem x_ldiv {x y : Int} {α : Type} {B : Option α} {o : α} (X : Cx G l D cI cB cc own n0 rm) (hd : decode cc pc = .ok (.ldiv, 1)) (h : gd (zx x 9223372036854775808 ∧ zp y 9223372036854775808) B = some o) (kk : B = some o → Wx G k n (pc + 1) ls (.long (zl (x / y)) :: st) w) : Wx G k n pc ls (.long (zl y) :: .long (zl x) :: st) w := by
  obtain ⟨hg, h⟩ := gd_e h
  obtain ⟨p, l', e, R, s, m, args, below, meth, c, D', A, nL, Q⟩ := G
  obtain ⟨rfl, rfl, rfl, rfl, hx, hb, hml, hown, hts, hN, hK, hA⟩ := X
  intro H locs L hP hD hS hl
  refine lv_ldiv hx hb hd (zl_ne0 hg.2.1 hg.2.2) ?_
  rw [zl_div hg.1 hg.2]
  exact kk h H locs L hP hD hS hl
theorem x_lrem {x y : Int} {α : Type} {B : Option α} {o : α} (X : Cx G l D cI cB cc own n0 rm) (hd : decode cc pc = .ok (.lrem, 1)) (h : gd (zx x 9223372036854775808 ∧ zp y 9223372036854775808) B = some o) (kk : B = some o → Wx G k n (pc + 1) ls (.long (zl (x % y)) :: st) w) : Wx G k n pc ls (.long (zl y) :: .long (zl x) :: st) w := by
  obtain ⟨hg, h⟩ := gd_e h
  obtain ⟨p, l', e, R, s, m, args, below, meth, c, D', A, nL, Q⟩ := G
  obtain ⟨rfl, rfl, rfl, rfl, hx, hb, hml, hown, hts, hN, hK, hA⟩ := X
  intro H locs L hP hD hS hl
  refine lv_lrem hx hb hd (zl_ne0 hg.2.1 hg.2.2) ?_
  rw [zl_rem hg.1 hg.2]
  exact kk h H locs L hP hD hS hl
theorem x_i2l {x : Int} {α : Type} {B : Option α} {o : α} (X : Cx G l D cI cB cc own n0 rm) (hd : decode cc pc = .ok (.i2l, 1)) (h : gd (zr x) B = some o) (kk : B = some o → Wx G k n (pc + 1) ls (.long (zl x) :: st) w) : Wx G k n pc ls (.int (zi x) :: st) w := by
  obtain ⟨hg, h⟩ := gd_e h
  obtain ⟨p, l', e, R, s, m, args, below, meth, c, D', A, nL, Q⟩ := G
  obtain ⟨rfl, rfl, rfl, rfl, hx, hb, hml, hown, hts, hN, hK, hA⟩ := X
  intro H locs L hP hD hS hl
  exact lv_i2l hx hb hd (zi_i2l hg) (kk h H locs L hP hD hS hl)
theorem x_lcmp {x y : Int} {α : Type} {B : Option α} {o : α} (X : Cx G l D cI cB cc own n0 rm) (hd : decode cc pc = .ok (.lcmp, 1)) (h : gd (zq x ∧ zq y) B = some o) (kk : B = some o → Wx G k n (pc + 1) ls (.int (zi (z_cmp x y)) :: st) w) : Wx G k n pc ls (.long (zl y) :: .long (zl x) :: st) w := by
  obtain ⟨hg, h⟩ := gd_e h
  obtain ⟨p, l', e, R, s, m, args, below, meth, c, D', A, nL, Q⟩ := G
  obtain ⟨rfl, rfl, rfl, rfl, hx, hb, hml, hown, hts, hN, hK, hA⟩ := X
  intro H locs L hP hD hS hl
  refine W.lcmp hx hb hd ?_
  rw [zl_cmp hg.1 hg.2]
  exact kk h H locs L hP hD hS hl
theorem x_dup {v : Value} (X : Cx G l D cI cB cc own n0 rm) (hd : decode cc pc = .ok (.dup, 1)) (hv : v.category = 1) (kk : Wx G k n (pc + 1) ls (v :: v :: st) w) : Wx G k n pc ls (v :: st) w := by
  obtain ⟨p, l', e, R, s, m, args, below, meth, c, D', A, nL, Q⟩ := G
  obtain ⟨rfl, rfl, rfl, rfl, hx, hb, hml, hown, hts, hN, hK, hA⟩ := X
  intro H locs L hP hD hS hl
  exact lv_dup hx hb hd hv (kk H locs L hP hD hS hl)
theorem x_pop {v : Value} (X : Cx G l D cI cB cc own n0 rm) (hd : decode cc pc = .ok (.pop, 1)) (hv : v.category = 1) (kk : Wx G k n (pc + 1) ls st w) : Wx G k n pc ls (v :: st) w := by
  obtain ⟨p, l', e, R, s, m, args, below, meth, c, D', A, nL, Q⟩ := G
  obtain ⟨rfl, rfl, rfl, rfl, hx, hb, hml, hown, hts, hN, hK, hA⟩ := X
  intro H locs L hP hD hS hl
  exact lv_pop hx hb hd hv (kk H locs L hP hD hS hl)
theorem x_dup2 {v u : Value} (X : Cx G l D cI cB cc own n0 rm) (hd : decode cc pc = .ok (.dup2, 1)) (hv : v.category = 1) (hu : u.category = 1) (kk : Wx G k n (pc + 1) ls (v :: u :: v :: u :: st) w) : Wx G k n pc ls (v :: u :: st) w := by
  obtain ⟨p, l', e, R, s, m, args, below, meth, c, D', A, nL, Q⟩ := G
  obtain ⟨rfl, rfl, rfl, rfl, hx, hb, hml, hown, hts, hN, hK, hA⟩ := X
  intro H locs L hP hD hS hl
  exact lv_dup2_11 hx hb hd hv hu (kk H locs L hP hD hS hl)
theorem x_goto {off : Int} {tgt : Nat} (X : Cx G l D cI cB cc own n0 rm) (hd : decode cc pc = .ok (.goto off, 3)) (ht : (pc : Int) + off = (tgt : Int)) (kk : Wx G k n tgt ls st w) : Wx G k n pc ls st w := by
  obtain ⟨p, l', e, R, s, m, args, below, meth, c, D', A, nL, Q⟩ := G
  obtain ⟨rfl, rfl, rfl, rfl, hx, hb, hml, hown, hts, hN, hK, hA⟩ := X
  intro H locs L hP hD hS hl
  exact lv_goto hx hb hd ht (kk H locs L hP hD hS hl)
theorem x_icmpeq {x y : Int} {off : Int} {tgt : Nat} {α : Type} {A1 A2 : Option α} {o : α} (X : Cx G l D cI cB cc own n0 rm) (hd : decode cc pc = .ok (.if_icmp .eq off, 3)) (ht : (pc : Int) + off = (tgt : Int)) (h : ceq x y A1 A2 = some o) (k1 : A1 = some o → Wx G k n tgt ls st w) (k2 : A2 = some o → Wx G k n (pc + 3) ls st w)  : Wx G k n pc ls (.int (zi y) :: .int (zi x) :: st) w := by
  obtain ⟨hz, h⟩ := ceq_e h
  obtain ⟨p, l', e, R, s, m, args, below, meth, c, D', A, nL, Q⟩ := G
  obtain ⟨rfl, rfl, rfl, rfl, hx, hb, hml, hown, hts, hN, hK, hA⟩ := X
  intro H locs L hP hD hS hl
  have hq := zi_eq hz.1 hz.2
  refine lv_icmp_eq hx hb hd ht (fun q => ?_) (fun q => ?_)
  · rcases h with ⟨_, h⟩ | ⟨g, _⟩
    · exact k1 h H locs L hP hD hS hl
    · exact absurd (hq.mp q) g
  · rcases h with ⟨g, _⟩ | ⟨_, h⟩
    · exact absurd (hq.mpr g) q
    · exact k2 h H locs L hP hD hS hl
theorem x_icmpne {x y : Int} {off : Int} {tgt : Nat} {α : Type} {A1 A2 : Option α} {o : α} (X : Cx G l D cI cB cc own n0 rm) (hd : decode cc pc = .ok (.if_icmp .ne off, 3)) (ht : (pc : Int) + off = (tgt : Int)) (h : ceq x y A1 A2 = some o) (k1 : A2 = some o → Wx G k n tgt ls st w) (k2 : A1 = some o → Wx G k n (pc + 3) ls st w)  : Wx G k n pc ls (.int (zi y) :: .int (zi x) :: st) w := by
  obtain ⟨hz, h⟩ := ceq_e h
  obtain ⟨p, l', e, R, s, m, args, below, meth, c, D', A, nL, Q⟩ := G
  obtain ⟨rfl, rfl, rfl, rfl, hx, hb, hml, hown, hts, hN, hK, hA⟩ := X
  intro H locs L hP hD hS hl
  have hq := zi_eq hz.1 hz.2
  refine lv_icmp_ne hx hb hd ht (fun q => ?_) (fun q => ?_)
  · rcases h with ⟨g, _⟩ | ⟨_, h⟩
    · exact absurd (hq.mpr g) q
    · exact k1 h H locs L hP hD hS hl
  · rcases h with ⟨_, h⟩ | ⟨g, _⟩
    · exact k2 h H locs L hP hD hS hl
    · exact absurd (hq.mp q) g
theorem x_icmplt {x y : Int} {off : Int} {tgt : Nat} {α : Type} {A1 A2 : Option α} {o : α} (X : Cx G l D cI cB cc own n0 rm) (hd : decode cc pc = .ok (.if_icmp .lt off, 3)) (ht : (pc : Int) + off = (tgt : Int)) (h : clt x y A1 A2 = some o) (k1 : A1 = some o → Wx G k n tgt ls st w) (k2 : A2 = some o → Wx G k n (pc + 3) ls st w)  : Wx G k n pc ls (.int (zi y) :: .int (zi x) :: st) w := by
  obtain ⟨hz, h⟩ := clt_e h
  obtain ⟨p, l', e, R, s, m, args, below, meth, c, D', A, nL, Q⟩ := G
  obtain ⟨rfl, rfl, rfl, rfl, hx, hb, hml, hown, hts, hN, hK, hA⟩ := X
  intro H locs L hP hD hS hl
  have hq := zi_lt hz.1 hz.2
  refine lv_icmp_lt hx hb hd ht (fun q => ?_) (fun q => ?_)
  · rcases h with ⟨_, h⟩ | ⟨g, _⟩
    · exact k1 h H locs L hP hD hS hl
    · exact absurd (hq.mp q) g
  · rcases h with ⟨g, _⟩ | ⟨_, h⟩
    · exact absurd (hq.mpr g) q
    · exact k2 h H locs L hP hD hS hl
theorem x_icmpge {x y : Int} {off : Int} {tgt : Nat} {α : Type} {A1 A2 : Option α} {o : α} (X : Cx G l D cI cB cc own n0 rm) (hd : decode cc pc = .ok (.if_icmp .ge off, 3)) (ht : (pc : Int) + off = (tgt : Int)) (h : clt x y A1 A2 = some o) (k1 : A2 = some o → Wx G k n tgt ls st w) (k2 : A1 = some o → Wx G k n (pc + 3) ls st w)  : Wx G k n pc ls (.int (zi y) :: .int (zi x) :: st) w := by
  obtain ⟨hz, h⟩ := clt_e h
  obtain ⟨p, l', e, R, s, m, args, below, meth, c, D', A, nL, Q⟩ := G
  obtain ⟨rfl, rfl, rfl, rfl, hx, hb, hml, hown, hts, hN, hK, hA⟩ := X
  intro H locs L hP hD hS hl
  have hq := zi_lt hz.1 hz.2
  refine lv_icmp_ge hx hb hd ht (fun q => ?_) (fun q => ?_)
  · rcases h with ⟨g, _⟩ | ⟨_, h⟩
    · exact absurd (hq.mpr g) (Int32.not_lt.mpr q)
    · exact k1 h H locs L hP hD hS hl
  · rcases h with ⟨_, h⟩ | ⟨g, _⟩
    · exact k2 h H locs L hP hD hS hl
    · exact absurd (hq.mp (Int32.not_le.mp q)) g
theorem x_icmple {x y : Int} {off : Int} {tgt : Nat} {α : Type} {A1 A2 : Option α} {o : α} (X : Cx G l D cI cB cc own n0 rm) (hd : decode cc pc = .ok (.if_icmp .le off, 3)) (ht : (pc : Int) + off = (tgt : Int)) (h : cle x y A1 A2 = some o) (k1 : A1 = some o → Wx G k n tgt ls st w) (k2 : A2 = some o → Wx G k n (pc + 3) ls st w)  : Wx G k n pc ls (.int (zi y) :: .int (zi x) :: st) w := by
  obtain ⟨hz, h⟩ := cle_e h
  obtain ⟨p, l', e, R, s, m, args, below, meth, c, D', A, nL, Q⟩ := G
  obtain ⟨rfl, rfl, rfl, rfl, hx, hb, hml, hown, hts, hN, hK, hA⟩ := X
  intro H locs L hP hD hS hl
  have hq := zi_le hz.1 hz.2
  refine lv_icmp_le hx hb hd ht (fun q => ?_) (fun q => ?_)
  · rcases h with ⟨_, h⟩ | ⟨g, _⟩
    · exact k1 h H locs L hP hD hS hl
    · exact absurd (hq.mp q) g
  · rcases h with ⟨g, _⟩ | ⟨_, h⟩
    · exact absurd (hq.mpr g) q
    · exact k2 h H locs L hP hD hS hl
theorem x_icmpgt {x y : Int} {off : Int} {tgt : Nat} {α : Type} {A1 A2 : Option α} {o : α} (X : Cx G l D cI cB cc own n0 rm) (hd : decode cc pc = .ok (.if_icmp .gt off, 3)) (ht : (pc : Int) + off = (tgt : Int)) (h : cle x y A1 A2 = some o) (k1 : A2 = some o → Wx G k n tgt ls st w) (k2 : A1 = some o → Wx G k n (pc + 3) ls st w)  : Wx G k n pc ls (.int (zi y) :: .int (zi x) :: st) w := by
  obtain ⟨hz, h⟩ := cle_e h
  obtain ⟨p, l', e, R, s, m, args, below, meth, c, D', A, nL, Q⟩ := G
  obtain ⟨rfl, rfl, rfl, rfl, hx, hb, hml, hown, hts, hN, hK, hA⟩ := X
  intro H locs L hP hD hS hl
  have hq := zi_le hz.1 hz.2
  refine lv_icmp_gt hx hb hd ht (fun q => ?_) (fun q => ?_)
  · rcases h with ⟨g, _⟩ | ⟨_, h⟩
    · exact absurd q (Int32.not_lt.mpr (hq.mpr g))
    · exact k1 h H locs L hP hD hS hl
  · rcases h with ⟨_, h⟩ | ⟨g, _⟩
    · exact k2 h H locs L hP hD hS hl
    · exact absurd (hq.mp (Int32.not_lt.mp q)) g
theorem x_ifeq {x : Int} {off : Int} {tgt : Nat} {α : Type} {A1 A2 : Option α} {o : α} (X : Cx G l D cI cB cc own n0 rm) (hd : decode cc pc = .ok (.ifCond .eq off, 3)) (ht : (pc : Int) + off = (tgt : Int)) (h : ceq x 0 A1 A2 = some o) (k1 : A1 = some o → Wx G k n tgt ls st w) (k2 : A2 = some o → Wx G k n (pc + 3) ls st w)  : Wx G k n pc ls (.int (zi x) :: st) w := by
  obtain ⟨hz, h⟩ := ceq_e h
  obtain ⟨p, l', e, R, s, m, args, below, meth, c, D', A, nL, Q⟩ := G
  obtain ⟨rfl, rfl, rfl, rfl, hx, hb, hml, hown, hts, hN, hK, hA⟩ := X
  intro H locs L hP hD hS hl
  have hq := zi_eq hz.1 hz.2
  rw [zi_0] at hq
  refine lv_if_eq hx hb hd ht (fun q => ?_) (fun q => ?_)
  · rcases h with ⟨_, h⟩ | ⟨g, _⟩
    · exact k1 h H locs L hP hD hS hl
    · exact absurd (hq.mp q) g
  · rcases h with ⟨g, _⟩ | ⟨_, h⟩
    · exact absurd (hq.mpr g) q
    · exact k2 h H locs L hP hD hS hl
theorem x_ifne {x : Int} {off : Int} {tgt : Nat} {α : Type} {A1 A2 : Option α} {o : α} (X : Cx G l D cI cB cc own n0 rm) (hd : decode cc pc = .ok (.ifCond .ne off, 3)) (ht : (pc : Int) + off = (tgt : Int)) (h : ceq x 0 A1 A2 = some o) (k1 : A2 = some o → Wx G k n tgt ls st w) (k2 : A1 = some o → Wx G k n (pc + 3) ls st w)  : Wx G k n pc ls (.int (zi x) :: st) w := by
  obtain ⟨hz, h⟩ := ceq_e h
  obtain ⟨p, l', e, R, s, m, args, below, meth, c, D', A, nL, Q⟩ := G
  obtain ⟨rfl, rfl, rfl, rfl, hx, hb, hml, hown, hts, hN, hK, hA⟩ := X
  intro H locs L hP hD hS hl
  have hq := zi_eq hz.1 hz.2
  rw [zi_0] at hq
  refine lv_if_ne hx hb hd ht (fun q => ?_) (fun q => ?_)
  · rcases h with ⟨g, _⟩ | ⟨_, h⟩
    · exact absurd (hq.mpr g) q
    · exact k1 h H locs L hP hD hS hl
  · rcases h with ⟨_, h⟩ | ⟨g, _⟩
    · exact k2 h H locs L hP hD hS hl
    · exact absurd (hq.mp q) g
theorem x_iflt {x : Int} {off : Int} {tgt : Nat} {α : Type} {A1 A2 : Option α} {o : α} (X : Cx G l D cI cB cc own n0 rm) (hd : decode cc pc = .ok (.ifCond .lt off, 3)) (ht : (pc : Int) + off = (tgt : Int)) (h : clt x 0 A1 A2 = some o) (k1 : A1 = some o → Wx G k n tgt ls st w) (k2 : A2 = some o → Wx G k n (pc + 3) ls st w)  : Wx G k n pc ls (.int (zi x) :: st) w := by
  obtain ⟨hz, h⟩ := clt_e h
  obtain ⟨p, l', e, R, s, m, args, below, meth, c, D', A, nL, Q⟩ := G
  obtain ⟨rfl, rfl, rfl, rfl, hx, hb, hml, hown, hts, hN, hK, hA⟩ := X
  intro H locs L hP hD hS hl
  have hq := zi_lt hz.1 hz.2
  rw [zi_0] at hq
  refine lv_if_lt hx hb hd ht (fun q => ?_) (fun q => ?_)
  · rcases h with ⟨_, h⟩ | ⟨g, _⟩
    · exact k1 h H locs L hP hD hS hl
    · exact absurd (hq.mp q) g
  · rcases h with ⟨g, _⟩ | ⟨_, h⟩
    · exact absurd (hq.mpr g) q
    · exact k2 h H locs L hP hD hS hl
theorem x_ifge {x : Int} {off : Int} {tgt : Nat} {α : Type} {A1 A2 : Option α} {o : α} (X : Cx G l D cI cB cc own n0 rm) (hd : decode cc pc = .ok (.ifCond .ge off, 3)) (ht : (pc : Int) + off = (tgt : Int)) (h : clt x 0 A1 A2 = some o) (k1 : A2 = some o → Wx G k n tgt ls st w) (k2 : A1 = some o → Wx G k n (pc + 3) ls st w)  : Wx G k n pc ls (.int (zi x) :: st) w := by
  obtain ⟨hz, h⟩ := clt_e h
  obtain ⟨p, l', e, R, s, m, args, below, meth, c, D', A, nL, Q⟩ := G
  obtain ⟨rfl, rfl, rfl, rfl, hx, hb, hml, hown, hts, hN, hK, hA⟩ := X
  intro H locs L hP hD hS hl
  have hq := zi_lt hz.1 hz.2
  rw [zi_0] at hq
  refine lv_if_ge hx hb hd ht (fun q => ?_) (fun q => ?_)
  · rcases h with ⟨g, _⟩ | ⟨_, h⟩
    · exact absurd (hq.mpr g) (Int32.not_lt.mpr q)
    · exact k1 h H locs L hP hD hS hl
  · rcases h with ⟨_, h⟩ | ⟨g, _⟩
    · exact k2 h H locs L hP hD hS hl
    · exact absurd (hq.mp (Int32.not_le.mp q)) g
theorem x_ifle {x : Int} {off : Int} {tgt : Nat} {α : Type} {A1 A2 : Option α} {o : α} (X : Cx G l D cI cB cc own n0 rm) (hd : decode cc pc = .ok (.ifCond .le off, 3)) (ht : (pc : Int) + off = (tgt : Int)) (h : cle x 0 A1 A2 = some o) (k1 : A1 = some o → Wx G k n tgt ls st w) (k2 : A2 = some o → Wx G k n (pc + 3) ls st w)  : Wx G k n pc ls (.int (zi x) :: st) w := by
  obtain ⟨hz, h⟩ := cle_e h
  obtain ⟨p, l', e, R, s, m, args, below, meth, c, D', A, nL, Q⟩ := G
  obtain ⟨rfl, rfl, rfl, rfl, hx, hb, hml, hown, hts, hN, hK, hA⟩ := X
  intro H locs L hP hD hS hl
  have hq := zi_le hz.1 hz.2
  rw [zi_0] at hq
  refine lv_if_le hx hb hd ht (fun q => ?_) (fun q => ?_)
  · rcases h with ⟨_, h⟩ | ⟨g, _⟩
    · exact k1 h H locs L hP hD hS hl
    · exact absurd (hq.mp q) g
  · rcases h with ⟨g, _⟩ | ⟨_, h⟩
    · exact absurd (hq.mpr g) q
    · exact k2 h H locs L hP hD hS hl
theorem x_ifgt {x : Int} {off : Int} {tgt : Nat} {α : Type} {A1 A2 : Option α} {o : α} (X : Cx G l D cI cB cc own n0 rm) (hd : decode cc pc = .ok (.ifCond .gt off, 3)) (ht : (pc : Int) + off = (tgt : Int)) (h : cle x 0 A1 A2 = some o) (k1 : A2 = some o → Wx G k n tgt ls st w) (k2 : A1 = some o → Wx G k n (pc + 3) ls st w)  : Wx G k n pc ls (.int (zi x) :: st) w := by
  obtain ⟨hz, h⟩ := cle_e h
  obtain ⟨p, l', e, R, s, m, args, below, meth, c, D', A, nL, Q⟩ := G
  obtain ⟨rfl, rfl, rfl, rfl, hx, hb, hml, hown, hts, hN, hK, hA⟩ := X
  intro H locs L hP hD hS hl
  have hq := zi_le hz.1 hz.2
  rw [zi_0] at hq
  refine lv_if_gt hx hb hd ht (fun q => ?_) (fun q => ?_)
  · rcases h with ⟨g, _⟩ | ⟨_, h⟩
    · exact absurd q (Int32.not_lt.mpr (hq.mpr g))
    · exact k1 h H locs L hP hD hS hl
  · rcases h with ⟨_, h⟩ | ⟨g, _⟩
    · exact k2 h H locs L hP hD hS hl
    · exact absurd (hq.mp (Int32.not_lt.mp q)) g
theorem x_tsIn {dflt lo hi : Int} {offs : Array Int} {len : Nat} {x v off : Int} {tgt : Nat} (X : Cx G l D cI cB cc own n0 rm) (hd : decode cc pc = .ok (.tableswitch dflt lo hi offs, len)) (exv : x = v) (hv : zr v) (h1 : ¬ v < lo) (h2 : ¬ hi < v) (ho : offs[(v - lo).toNat]? = some off) (ht : (pc : Int) + off = (tgt : Int)) (kk : Wx G k n tgt ls st w) : Wx G k n pc ls (.int (zi x) :: st) w := by
  obtain ⟨p, l', e, R, s, m, args, below, meth, c, D', A, nL, Q⟩ := G
  obtain ⟨rfl, rfl, rfl, rfl, hx, hb, hml, hown, hts, hN, hK, hA⟩ := X
  intro H locs L hP hD hS hl
  subst exv
  exact lv_tableIn hx hb hd (by rw [zi_toInt hv]; exact h1) (by rw [zi_toInt hv]; exact h2) (by rw [zi_toInt hv]; exact ho) ht (kk H locs L hP hD hS hl)
theorem x_tsOut {dflt lo hi : Int} {offs : Array Int} {len : Nat} {x : Int} {tgt : Nat} (X : Cx G l D cI cB cc own n0 rm) (hd : decode cc pc = .ok (.tableswitch dflt lo hi offs, len)) (hz : zr x) (h1 : x < lo ∨ hi < x) (ht : (pc : Int) + dflt = (tgt : Int)) (kk : Wx G k n tgt ls st w) : Wx G k n pc ls (.int (zi x) :: st) w := by
  obtain ⟨p, l', e, R, s, m, args, below, meth, c, D', A, nL, Q⟩ := G
  obtain ⟨rfl, rfl, rfl, rfl, hx, hb, hml, hown, hts, hN, hK, hA⟩ := X
  intro H locs L hP hD hS hl
  exact lv_tableOut hx hb hd (by rw [zi_toInt hz]; exact h1) ht (kk H locs L hP hD hS hl)
theorem x_lk {dflt : Int} {ps : Array (Int × Int)} {len : Nat} {x off : Int} {tgt : Nat} (X : Cx G l D cI cB cc own n0 rm) (hd : decode cc pc = .ok (.lookupswitch dflt ps, len)) (hz : zr x) (hp : (ps.toList.zip (ps.toList.drop 1)).all (fun (a, next) => a.1 < next.1) = true) (ho : Op.lookupswitch.offset ps.toList dflt x = off) (ht : (pc : Int) + off = (tgt : Int)) (kk : Wx G k n tgt ls st w) : Wx G k n pc ls (.int (zi x) :: st) w := by
  obtain ⟨p, l', e, R, s, m, args, below, meth, c, D', A, nL, Q⟩ := G
  obtain ⟨rfl, rfl, rfl, rfl, hx, hb, hml, hown, hts, hN, hK, hA⟩ := X
  intro H locs L hP hD hS hl
  exact lv_lookup hx hb hd hp (by rw [zi_toInt hz]; exact ho) ht (kk H locs L hP hD hS hl)
theorem x_iald {a : Nat} {N : Nat} {M : Int} {f : Int → Int} {x : Int} {α : Type} {B : Option α} {o : α} (X : Cx G l D cI cB cc own n0 rm) (hd : decode cc pc = .ok (.iaload, 1)) (q : Nat) (hq : w[q]? = some (a, zA cI N f)) (hN0 : N < 2147483648) (hM : (N : Int) = M) (h : gd (zx x M) B = some o) (kk : B = some o → Wx G k n (pc + 1) ls (.int (zi (f x)) :: st) w) : Wx G k n pc ls (.int (zi x) :: .ref a :: st) w := by
  subst hM
  obtain ⟨hg, h⟩ := gd_e h
  obtain ⟨p, l', e, R, s, m, args, below, meth, c, D', A, nL, Q⟩ := G
  obtain ⟨rfl, rfl, rfl, rfl, hx, hb, hml, hown, hts, hN, hK, hA⟩ := X
  intro H locs L hP hD hS hl
  refine va_iald hx hb hK hP q 0 hq rfl (zi_in hN0 hg) hd ?_
  have e1 : (((zi x).toNatClampNeg : Nat) : Int) = x := by
    rw [zi_nat hg.1 (by omega)]
    omega
  rw [e1]
  exact kk h H locs L hP hD hS hl
theorem x_zald {a : Nat} {N : Nat} {M : Int} {f : Int → Int} {x : Int} {α : Type} {B : Option α} {o : α} (X : Cx G l D cI cB cc own n0 rm) (hd : decode cc pc = .ok (.baload, 1)) (q : Nat) (hq : w[q]? = some (a, zA cB N f)) (hN0 : N < 2147483648) (hM : (N : Int) = M) (h : gd (zx x M) B = some o) (kk : B = some o → Wx G k n (pc + 1) ls (.int (zi (f x)) :: st) w) : Wx G k n pc ls (.int (zi x) :: .ref a :: st) w := by
  subst hM
  obtain ⟨hg, h⟩ := gd_e h
  obtain ⟨p, l', e, R, s, m, args, below, meth, c, D', A, nL, Q⟩ := G
  obtain ⟨rfl, rfl, rfl, rfl, hx, hb, hml, hown, hts, hN, hK, hA⟩ := X
  intro H locs L hP hD hS hl
  refine va_zald hx hb hK hP q 1 hq rfl (zi_in hN0 hg) hd ?_
  have e1 : (((zi x).toNatClampNeg : Nat) : Int) = x := by
    rw [zi_nat hg.1 (by omega)]
    omega
  rw [e1]
  exact kk h H locs L hP hD hS hl
theorem x_iast {a : Nat} {N : Nat} {M : Int} {f : Int → Int} {x v : Int} {w2 : va_W} {α : Type} {B : Option α} {o : α} (X : Cx G l D cI cB cc own n0 rm) (hd : decode cc pc = .ok (.iastore, 1)) (q : Nat) (hq : w[q]? = some (a, zA cI N f)) (hN0 : N < 2147483648) (hM : (N : Int) = M) (hw : w.set q (a, zA cI N (uf f x v)) = w2) (h : gd (zx x M) B = some o) (kk : B = some o → Wx G k n (pc + 1) ls st w2) : Wx G k n pc ls (.int (zi v) :: .int (zi x) :: .ref a :: st) w := by
  subst hM
  obtain ⟨hg, h⟩ := gd_e h
  obtain ⟨p, l', e, R, s, m, args, below, meth, c, D', A, nL, Q⟩ := G
  obtain ⟨rfl, rfl, rfl, rfl, hx, hb, hml, hown, hts, hN, hK, hA⟩ := X
  intro H locs L hP hD hS hl
  subst hw
  refine va_iast hx hb hK hP hD hS q 0 hq rfl (zi_in hN0 hg) hd (fun H1 locs1 hP1 hD1 hS1 => ?_)
  rw [zu_fun hg hN0] at hP1 hD1
  exact kk h H1 locs1 L hP1 hD1 hS1 hl
theorem x_zast {a : Nat} {N : Nat} {M : Int} {f : Int → Int} {x v : Int} {w2 : va_W} {α : Type} {B : Option α} {o : α} (X : Cx G l D cI cB cc own n0 rm) (hd : decode cc pc = .ok (.bastore, 1)) (q : Nat) (hq : w[q]? = some (a, zA cB N f)) (hN0 : N < 2147483648) (hM : (N : Int) = M) (hw : w.set q (a, zA cB N (uf f x v)) = w2) (h : gd (zx x M ∧ zb v) B = some o) (kk : B = some o → Wx G k n (pc + 1) ls st w2) : Wx G k n pc ls (.int (zi v) :: .int (zi x) :: .ref a :: st) w := by
  subst hM
  obtain ⟨hg, h⟩ := gd_e h
  obtain ⟨p, l', e, R, s, m, args, below, meth, c, D', A, nL, Q⟩ := G
  obtain ⟨rfl, rfl, rfl, rfl, hx, hb, hml, hown, hts, hN, hK, hA⟩ := X
  intro H locs L hP hD hS hl
  subst hw
  have hv : vp_nar .boolean (zi v) = zi v := by
    rcases hg.2 with rfl | rfl
    · rw [zi_0]; rfl
    · rw [zi_1]; rfl
  refine va_zast hx hb hK hP hD hS q 1 hq rfl (zi_in hN0 hg.1) hd (fun H1 locs1 hP1 hD1 hS1 => ?_)
  rw [hv, zu_fun hg.1 hN0] at hP1 hD1
  exact kk h H1 locs1 L hP1 hD1 hS1 hl
theorem x_alen {a N : Nat} {M : Int} {f : Int → Int} (X : Cx G l D cI cB cc own n0 rm) (hd : decode cc pc = .ok (.arraylength, 1)) (q : Nat) (hq : w[q]? = some (a, zA cI N f)) (hM : (N : Int) = M) (kk : Wx G k n (pc + 1) ls (.int (zi M) :: st) w) : Wx G k n pc ls (.ref a :: st) w := by
  obtain ⟨p, l', e, R, s, m, args, below, meth, c, D', A, nL, Q⟩ := G
  obtain ⟨rfl, rfl, rfl, rfl, hx, hb, hml, hown, hts, hN, hK, hA⟩ := X
  intro H locs L hP hD hS hl
  subst hM
  exact va_alen hx hb hK hP q 0 hq rfl (by rw [zi_d]; rfl) hd (kk H locs L hP hD hS hl)
theorem x_zlen {a N : Nat} {M : Int} {f : Int → Int} (X : Cx G l D cI cB cc own n0 rm) (hd : decode cc pc = .ok (.arraylength, 1)) (q : Nat) (hq : w[q]? = some (a, zA cB N f)) (hM : (N : Int) = M) (kk : Wx G k n (pc + 1) ls (.int (zi M) :: st) w) : Wx G k n pc ls (.ref a :: st) w := by
  obtain ⟨p, l', e, R, s, m, args, below, meth, c, D', A, nL, Q⟩ := G
  obtain ⟨rfl, rfl, rfl, rfl, hx, hb, hml, hown, hts, hN, hK, hA⟩ := X
  intro H locs L hP hD hS hl
  subst hM
  exact va_alen hx hb hK hP q 1 hq rfl (by rw [zi_d]; rfl) hd (kk H locs L hP hD hS hl)
theorem x_copy {a b N i : Nat} {f g : Int → Int} {M : Int} {w2 : va_W} (X : Cx G l D cI cB cc own n0 rm) (hd : decode cc pc = .ok (.invokestatic i, 3)) (hl0 : Cond.methodLink own i arraycopyName ∈ lw_tbl) (q r : Nat) (hq : w[q]? = some (a, zA cI N f)) (hr : w[r]? = some (b, zA cI N g)) (hM : (N : Int) = M) (hN0 : N < 2147483648) (hrm : 1 ≤ rm.frames ∧ (st.map fun v => v.category).sum + (nativeFrameWords "java/lang/System" "arraycopy" 5 + 11) ≤ rm.locals) (hw : w.set r (b, zA cI N f) = w2) (kk : Wx G k n (pc + 3) ls st w2) : Wx G k n pc ls (.int (zi M) :: .int (zi 0) :: .ref b :: .int (zi 0) :: .ref a :: st) w := by
  obtain ⟨p, l', e, R, s, m, args, below, meth, c, D', A, nL, Q⟩ := G
  obtain ⟨rfl, rfl, rfl, rfl, hx, hb, hml, hown, hts, hN, hK, hA⟩ := X
  intro H locs L hP hD hS hl
  subst hM
  subst hw
  obtain ⟨hc1, hc2, hc3⟩ := zcopy_ok
  have e0 : (zi 0).toNatClampNeg = 0 := by rw [zi_0]; rfl
  have eN : (zi (N : Int)).toNatClampNeg = N := by rw [zi_nat (by omega) (by omega)]; omega
  have n0 : ¬ zi 0 < 0 := by
    intro h
    rw [show (0 : Int32) = zi 0 from zi_0.symm, zi_lt ⟨by omega, by omega⟩ ⟨by omega, by omega⟩] at h
    omega
  have nN : ¬ zi (N : Int) < 0 := by
    intro h
    rw [show (0 : Int32) = zi 0 from zi_0.symm, zi_lt ⟨by omega, by omega⟩ ⟨by omega, by omega⟩] at h
    omega
  refine va_copyi hx hb (hml.trans hl.1.symm) hown (hts _ hl0 rfl) (hts _ hc1 rfl) (hts _ hc2 rfl) (hts _ hc3 rfl) hK hP hD hS q r 0 0 hq hr rfl rfl rfl n0 n0 nN (by rw [e0, eN]; omega) (by rw [e0, eN]; omega) (fun i _ => rfl) hrm.1 hrm.2 hd (fun H1 locs1 hP1 hD1 hS1 => ?_)
  rw [e0, eN] at hP1 hD1
  refine kk H1 locs1 L ?_ ?_ hS1 hl
  · intro k1 q1 hk1
    by_cases hkr : k1 = r
    · subst hkr
      have hlen := (List.getElem?_eq_some_iff.mp hr).1
      rw [List.getElem?_set_self hlen] at hk1
      cases hk1
      have h5 := hP1 k1 _ (List.getElem?_set_self hlen)
      exact zA_ext (fun j hj => pk_cpy_in (Nat.zero_le _) (by omega) |>.trans (by rw [Nat.sub_zero, Nat.zero_add])) h5
    · rw [List.getElem?_set_ne (Ne.symm hkr)] at hk1
      exact hP1 k1 q1 (by rw [List.getElem?_set_ne (Ne.symm hkr)]; exact hk1)
  · exact hD.set hr
theorem x_get {a ci j i : Nat} {fs : List Value} {v : Value} (X : Cx G l D cI cB cc own n0 rm) (hd : decode cc pc = .ok (.getfield i, 3)) (q : Nat) (hq : w[q]? = some (a, .inr (ci, fs))) (hf : Fl own i ci j) (hv : fs[j]? = some v) (kk : Wx G k n (pc + 3) ls (v :: st) w) : Wx G k n pc ls (.ref a :: st) w := by
  obtain ⟨p, l', e, R, s, m, args, below, meth, c, D', A, nL, Q⟩ := G
  obtain ⟨rfl, rfl, rfl, rfl, hx, hb, hml, hown, hts, hN, hK, hA⟩ := X
  intro H locs L hP hD hS hl
  obtain ⟨C, T, N, hc, hj, hin, hlk⟩ := hf
  rcases hlk with ⟨hw, hg⟩ | ⟨h0, hw⟩
  · exact va_get (Ts := lw_tbl.filter goodWord) hx hb (fun w hw => hts w (List.mem_filter.mp hw).1 (List.mem_filter.mp hw).2) hin hown hK hP q hq hc j hj (hts _ hw hg) (fun _ h9 => h9) hv hd (kk H locs L hP hD hS hl)
  · exact va_getN (Ts := lw_tbl.filter goodWord) hx hb (fun w hw => hts w (List.mem_filter.mp hw).1 (List.mem_filter.mp hw).2) hin hown hK hP q hq hc j hj (va_Nw.use rfl (hN _ hw rfl)) (fun _ h9 => h9) hv hd (kk H locs L hP hD hS hl)
theorem x_put {a ci j i : Nat} {fs : List Value} {v : Value} {w2 : va_W} (X : Cx G l D cI cB cc own n0 rm) (hd : decode cc pc = .ok (.putfield i, 3)) (q : Nat) (hq : w[q]? = some (a, .inr (ci, fs))) (hf : Fp own i ci j v) (hl0 : j < fs.length) (hw2 : w.set q (a, .inr (ci, fs.set j v)) = w2) (kk : Wx G k n (pc + 3) ls st w2) : Wx G k n pc ls (v :: .ref a :: st) w := by
  obtain ⟨p, l', e, R, s, m, args, below, meth, c, D', A, nL, Q⟩ := G
  obtain ⟨rfl, rfl, rfl, rfl, hx, hb, hml, hown, hts, hN, hK, hA⟩ := X
  intro H locs L hP hD hS hl
  subst hw2
  obtain ⟨C, T, N, ty0, ty, hc, hj, hin, hty, hnm, hfin, hpd, hn, hfit, hw, hg⟩ := hf
  exact va_put (Ts := lw_tbl.filter goodWord) hx hb (fun w hw => hts w (List.mem_filter.mp hw).1 (List.mem_filter.mp hw).2) hin ty0 hty hnm hown hK hP hD hS q hq hc j hj (hts _ hw hg) (fun _ h9 => h9) hfin hpd hn hfit hl0 hd (fun H1 locs1 hP1 hD1 hS1 => kk H1 locs1 L hP1 hD1 hS1 hl)
end ROWS
