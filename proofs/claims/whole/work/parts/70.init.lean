/-! making: rows for new cells, first writes, and calls that make cells -/
def zIn (G : GT) : Prop := match G with
  | (p, l, e, R, s, m, args, below, meth, c, D, A, nL, Q) => meth.name = "<init>"
def zQi (D : va_G) (b : Nat) (e0 : va_E) (post : va_E → va_W → Prop) (sz : Nat) : Array Value → State → Outcome → State → Prop := fun _ st o t => (o = .returned none ∧ ∃ (e1 : va_E) (ns : va_W), post e1 ns ∧ va_P D zk ((b, e1) :: ns) t.heap ∧ va_D (va_A [(b, e0)] sz) ((b, e1) :: ns)) ∧ va_F (va_A [(b, e0)] sz) st t
def Ci (l : Launch) (D : va_G) (cI cB : ClassId) (y : MethodName) (cc : ByteArray) (maxL fr lo mc ms : Nat) (As : List Value) (b : Nat) (e0 : va_E) (post : va_E → va_W → Prop) : Prop :=
  ∀ sz : Nat, Met l y (zWS y cc maxL none) { frames := fr, cells := mc, slots := ms, locals := lo } (va_Pc (.ref b :: As) (zPr D cI cB [(b, e0)] sz)) (zQi D b e0 post sz) mc ms (va_A [(b, e0)] sz)
def Ri (G : GT) (b k n : Nat) (post : va_E → va_W → Prop) : Prop := match G with
  | (p, l, e, R, s, m, args, below, meth, c, D, A, nL, Q) => ∃ e0 : va_E, A = va_A [(b, e0)] s.heap.size ∧ Q = MQ below (zQi D b e0 post s.heap.size) args s k n A ∧ meth.locks = false ∧ meth.sig.returnType = none
theorem Ci.start {l : Launch} {D : va_G} {cI cB : ClassId} {y : MethodName} {cc : ByteArray} {maxL fr lo mc ms b : Nat} {As : List Value} {e0 : va_E} {post : va_E → va_W → Prop} (hy : plainName y.cls = true) (hy2 : y.name = "<init>") (hsl : (lg_sl (.ref b :: As)).length ≤ maxL)
    (body : ∀ G : GT, Cx G l D cI cB cc y.cls maxL { frames := fr, cells := mc, slots := ms, locals := lo } → zIn G → Ri G b mc ms post → Wx G 0 0 0 (lv_args 0 (.ref b :: As)) [] [(b, e0)]) : Ci l D cI cB y cc maxL fr lo mc ms As b e0 post := by
  intro sz
  refine Met.ofW (cc := cc) (maxL := maxL) (ret := none) hy rfl ?_
  intro p e s m a below meth c s₁ B hml hv
  obtain ⟨rfl, hsz, hP, hK, hD0, hN⟩ := hv
  subst hsz
  have hts := atoms_spec (ws := zWS y cc maxL none) B.pre
  have hl := lv_entry (.ref b :: As) (n := maxL) hsl
  rw [lg_entry_eq]
  exact body (p, l, e, { frames := fr, cells := mc, slots := ms, locals := lo }, s, m, (Value.ref b :: As).toArray, below, meth, c, D, va_A [(b, e0)] s.heap.size, maxL, MQ below (zQi D b e0 post s.heap.size) (Value.ref b :: As).toArray s mc ms (va_A [(b, e0)] s.heap.size))
    ⟨rfl, rfl, rfl, rfl, B.exec, B.bytes, hml, findClass_of_methodNamed B.named, fun w hw hg => hts w (List.mem_cons_of_mem _ (List.mem_filter.mpr ⟨hw, hg⟩)), hN, hK, fun q h => Or.inr h⟩
    ((name_of_methodNamed B.named B.method).1.trans hy2) ⟨e0, rfl, rfl, B.notSynchronized, B.returns⟩ _ _ _ hP hD0.self va_S.rf hl
/-- a kind whose objects can be made -/
def Nw (own : String) (i ci N : Nat) (fs : List Value) : Prop := ∃ (C : String) (T : u_T) (ty0 : Nat → FieldType), zk[ci]? = some (C, T, N) ∧ (∀ w ∈ u_ws C T N, w ∈ lw_tbl.filter goodWord) ∧ (∀ k, k < N → parseFieldDescriptor (T k).2.2.1 = some (ty0 k)) ∧ (∀ j, j < N → defaultValue (ty0 j) = vp_V fs j) ∧
  Cond.classLink own i C ∈ lw_tbl ∧ goodWord (Cond.classLink own i C) = true ∧ Cond.instantiable C N ∈ lw_tbl ∧ goodWord (Cond.instantiable C N) = true ∧ Cond.initialized C ∈ lw_tbl
/-- a field that is written once, by its own kind's beginning -/
def Ff (own : String) (i ci j : Nat) (v : Value) : Prop := ∃ (C : String) (T : u_T) (N : Nat) (ty0 : Nat → FieldType) (ty : FieldType), zk[ci]? = some (C, T, N) ∧ j < N ∧ (∀ w ∈ u_ws C T N, w ∈ lw_tbl.filter goodWord) ∧ (∀ k, k < N → parseFieldDescriptor (T k).2.2.1 = some (ty0 k)) ∧ (∀ a, a < N → ∀ b, b < N → a ≠ b → (T a).2.1 ≠ (T b).2.1) ∧ (T j).2.2.2 = true ∧ (T j).1 = own ∧ parseFieldDescriptor (T j).2.2.1 = some ty ∧ narrow ty v = v ∧ fits ty v = true ∧
  Cond.fieldLink own i (T j).1 (T j).2.1 (T j).2.2.1 ∈ lw_tbl ∧ goodWord (Cond.fieldLink own i (T j).1 (T j).2.1 (T j).2.2.1) = true
def Mi (y : MethodName) (cc : ByteArray) (maxL np : Nat) : Prop :=
  Cond.instanceMethod y ∈ lw_tbl ∧ Cond.initialized y.cls ∈ lw_tbl ∧ Cond.code y cc maxL none ∈ lw_tbl ∧ (y.cls ≠ "java/lang/invoke/MethodHandle" ∧ y.cls ≠ "java/lang/invoke/VarHandle") ∧ (parseMethodDescriptor y.desc).map (fun d => d.parameters.length) = some np ∧ y.name = "<init>"
theorem zo_ok : Cond.instanceMethod objectInit ∈ lw_tbl ∧ Cond.code objectInit ⟨#[0xb1]⟩ 1 none ∈ lw_tbl ∧ Cond.arrayClass .int ∈ lw_tbl ∧ Cond.arrayClass .boolean ∈ lw_tbl := by decide +kernel
theorem zi_def0 : defaultValue .int = .int (zi 0) := by rw [zi_0]; rfl
theorem zi_defb : defaultValue .boolean = .int (zi 0) := by rw [zi_0]; rfl
section ROWS
variable {G : GT} {l : Launch} {D : va_G} {cI cB : ClassId} {cc : ByteArray} {own : String} {n0 : Nat} {rm : Room} {k n pc : Nat} {ls : List (Nat × Value)} {st : List Value} {w : va_W}
theorem x_objInit {i a : Nat} (X : Cx G l D cI cB cc own n0 rm) (hd : decode cc pc = .ok (.invokespecial i, 3)) (hl0 : Cond.methodLink own i objectInit ∈ lw_tbl) (hrm : 1 ≤ rm.frames ∧ (st.map fun v => v.category).sum + 12 ≤ rm.locals) (kk : Wx G k n (pc + 3) ls st w) : Wx G k n pc ls (.ref a :: st) w := by
  obtain ⟨p, l', e, R, s, m, args, below, meth, c, D', A, nL, Q⟩ := G
  obtain ⟨rfl, rfl, rfl, rfl, hx, hb, hml, hown, hts, hN, hK, hA⟩ := X
  intro H locs L hP hD hS hl
  exact W.objInit hx hb hown (hts _ hl0 zg_ml) (hts _ zo_ok.1 zg_inst) (hts _ zo_ok.2.1 zg_code) (g := F0 m pc L (.ref a :: st)) rfl (by rw [hml]; exact hl.1) rfl hd hrm.1 (by show 2 * 0 + _ + 12 ≤ _; omega) (kk H locs L hP hD hS hl)
theorem x_new {i ci N : Nat} {fs : List Value} (X : Cx G l D cI cB cc own n0 rm) (hd : decode cc pc = .ok (.new i, 3)) (hw : Nw own i ci N fs) (hrm : k + 1 ≤ rm.cells ∧ n + N ≤ rm.slots) (kk : ∀ q : Nat, Wx G (k + 1) (n + N) (pc + 3) ls (.ref q :: st) (w ++ [(q, .inr (ci, fs))])) : Wx G k n pc ls st w := by
  obtain ⟨p, l', e, R, s, m, args, below, meth, c, D', A, nL, Q⟩ := G
  obtain ⟨rfl, rfl, rfl, rfl, hx, hb, hml, hown, hts, hN, hK, hA⟩ := X
  obtain ⟨C, T, ty0, hc, hin, hty, hfs, w1, g1, w2, g2, w3⟩ := hw
  intro H locs L hP hD hS hl
  exact va_new (Ts := lw_tbl.filter goodWord) hx hb (fun w hw => hts w (List.mem_filter.mp hw).1 (List.mem_filter.mp hw).2) hin ty0 hty hown (hts _ w1 g1) (hts _ w2 g2) (hts _ w3 zg_ini) hK hP hD hS hA hc hfs hrm.1 hrm.2 hd (fun q H1 hP1 hD1 hS1 => kk q H1 locs L hP1 hD1 hS1 hl)
theorem x_newa {M : Int} {N : Nat} (X : Cx G l D cI cB cc own n0 rm) (hd : decode cc pc = .ok (.newarray .int, 2)) (hM : (N : Int) = M) (hN0 : N < 100000) (hrm : k + 1 ≤ rm.cells ∧ n + N ≤ rm.slots) (kk : ∀ q : Nat, Wx G (k + 1) (n + N) (pc + 2) ls (.ref q :: st) (w ++ [(q, zA cI N (fun _ => 0))])) : Wx G k n pc ls (.int (zi M) :: st) w := by
  subst hM
  obtain ⟨p, l', e, R, s, m, args, below, meth, c, D', A, nL, Q⟩ := G
  obtain ⟨rfl, rfl, rfl, rfl, hx, hb, hml, hown, hts, hN, hK, hA⟩ := X
  intro H locs L hP hD hS hl
  have nN : ¬ zi (N : Int) < 0 := by
    intro h
    rw [zi_0.symm, zi_lt ⟨by omega, by omega⟩ ⟨by omega, by omega⟩] at h
    omega
  have eN : (zi (N : Int)).toNatClampNeg = N := by rw [zi_nat (by omega) (by omega)]; omega
  refine va_newa (atype := .int) (ty := .int) (a0 := (N, .inl (fun _ => zi 0))) hx hb (hts _ zo_ok.2.2.1 rfl) rfl hK hP hD hS hA (fun cA => ?_) nN eN (by show N * 4 ≤ _; omega) hrm.1 hrm.2 hd (fun q cA H1 hK1 hP1 hD1 hS1 => ?_)
  · rw [vp_cell_i, zi_def0]
  · have h1 : s.vm.findClass ("[" ++ FieldType.int.toString) = some cA := (hK1.2 2 (cA, .int) rfl).2
    have h2 : s.vm.findClass ("[" ++ FieldType.int.toString) = some cI := (hK.2 0 (cI, .int) rfl).2
    have h3 : cA = cI := Option.some.inj (h1.symm.trans h2)
    subst h3
    exact kk q H1 locs L hP1 hD1 hS1 hl
theorem x_newz {M : Int} {N : Nat} (X : Cx G l D cI cB cc own n0 rm) (hd : decode cc pc = .ok (.newarray .boolean, 2)) (hM : (N : Int) = M) (hN0 : N < 100000) (hrm : k + 1 ≤ rm.cells ∧ n + N ≤ rm.slots) (kk : ∀ q : Nat, Wx G (k + 1) (n + N) (pc + 2) ls (.ref q :: st) (w ++ [(q, zA cB N (fun _ => 0))])) : Wx G k n pc ls (.int (zi M) :: st) w := by
  subst hM
  obtain ⟨p, l', e, R, s, m, args, below, meth, c, D', A, nL, Q⟩ := G
  obtain ⟨rfl, rfl, rfl, rfl, hx, hb, hml, hown, hts, hN, hK, hA⟩ := X
  intro H locs L hP hD hS hl
  have nN : ¬ zi (N : Int) < 0 := by
    intro h
    rw [zi_0.symm, zi_lt ⟨by omega, by omega⟩ ⟨by omega, by omega⟩] at h
    omega
  have eN : (zi (N : Int)).toNatClampNeg = N := by rw [zi_nat (by omega) (by omega)]; omega
  refine va_newa (atype := .boolean) (ty := .boolean) (a0 := (N, .inl (fun _ => zi 0))) hx hb (hts _ zo_ok.2.2.2 rfl) rfl hK hP hD hS hA (fun cA => ?_) nN eN (by show N * 1 ≤ _; omega) hrm.1 hrm.2 hd (fun q cA H1 hK1 hP1 hD1 hS1 => ?_)
  · rw [vp_cell_i, zi_defb]
  · have h1 : s.vm.findClass ("[" ++ FieldType.boolean.toString) = some cA := (hK1.2 2 (cA, .boolean) rfl).2
    have h2 : s.vm.findClass ("[" ++ FieldType.boolean.toString) = some cB := (hK.2 1 (cB, .boolean) rfl).2
    have h3 : cA = cB := Option.some.inj (h1.symm.trans h2)
    subst h3
    exact kk q H1 locs L hP1 hD1 hS1 hl
theorem x_putF {a ci j i : Nat} {fs : List Value} {v : Value} {w2 : va_W} (X : Cx G l D cI cB cc own n0 rm) (hI : zIn G) (hd : decode cc pc = .ok (.putfield i, 3)) (q : Nat) (hq : w[q]? = some (a, .inr (ci, fs))) (hf : Ff own i ci j v) (hl0 : j < fs.length) (hw2 : w.set q (a, .inr (ci, fs.set j v)) = w2) (kk : Wx G k n (pc + 3) ls st w2) : Wx G k n pc ls (v :: .ref a :: st) w := by
  obtain ⟨p, l', e, R, s, m, args, below, meth, c, D', A, nL, Q⟩ := G
  obtain ⟨rfl, rfl, rfl, rfl, hx, hb, hml, hown, hts, hN, hK, hA⟩ := X
  obtain ⟨C, T, N, ty0, ty, hc, hj, hin, hty, hnm, hfin, hdc, hpd, hn, hfit, hw, hg⟩ := hf
  intro H locs L hP hD hS hl
  subst hw2
  exact va_putF (Ts := lw_tbl.filter goodWord) hx hb (fun w hw => hts w (List.mem_filter.mp hw).1 (List.mem_filter.mp hw).2) hin ty0 hty hnm hown hK hP hD hS q hq hc j hj (hts _ hw hg) (fun _ h9 => h9) hfin hI hdc hpd hn hfit hl0 hd (fun H1 locs1 hP1 hD1 hS1 => kk H1 locs1 L hP1 hD1 hS1 hl)
theorem x_iniret {b : Nat} {e1 : va_E} {ns : va_W} {post : va_E → va_W → Prop} (X : Cx G l D cI cB cc own n0 rm) (hR : Ri G b k n post) (hd : decode cc pc = .ok (.return_, 1)) (hp : post e1 ns) : Wx G k n pc ls [] ((b, e1) :: ns) := by
  obtain ⟨p, l', e, R, s, m, args, below, meth, c, D', A, nL, Q⟩ := G
  obtain ⟨rfl, rfl, rfl, rfl, hx, hb, hml, hown, hts, hN, hK, hA⟩ := X
  obtain ⟨e0, rfl, rfl, hlk, hret⟩ := hR
  intro H locs L hP hD hS hl
  exact W.vret hx hb hret (fun t ht hW => ⟨⟨rfl, e1, ns, hp, by rw [ht]; exact hP, hD⟩, hS.F ht⟩) hS.2.2 hd hlk
/-- the world in another order, or less of it -/
theorem x_sub {w2 : va_W} (is : List Nat) (hnd : va_nd is = true) (h : is.map (fun i => w[i]?) = w2.map some) (kk : Wx G k n pc ls st w2) : Wx G k n pc ls st w := by
  obtain ⟨p, l', e, R, s, m, args, below, meth, c, D', A, nL, Q⟩ := G
  intro H locs L hP hD hS hl
  exact kk H locs L (fun k1 q1 hk1 => by obtain ⟨i, -, h2⟩ := wb_at h hk1; exact hP i q1 h2) (hD.sub is hnd h) hS hl
theorem x_w {w2 : va_W} (h : w = w2) (kk : Wx G k n pc ls st w2) : Wx G k n pc ls st w := h ▸ kk
theorem x_callI {i b fr lo mc ms maxL np : Nat} {y : MethodName} {bytes : ByteArray} {As rest stk : List Value} {e0 : va_E} {post : va_E → va_W → Prop} (X : Cx G l D cI cB cc own n0 rm) (hd : decode cc pc = .ok (.invokespecial i, 3)) (hl0 : Lk own i y) (hm : Mi y bytes maxL np)
    (ct : Ci l D cI cB y bytes maxL fr lo mc ms As b e0 post) (hR : fr + 1 ≤ rm.frames ∧ 8 + (maxL + 11) + lo ≤ rm.locals ∧ k + mc ≤ rm.cells ∧ n + ms ≤ rm.slots) (q : Nat) (hq : w[q]? = some (b, e0)) (hst : stk = As.reverse ++ .ref b :: rest) (hnp : As.length = np) (hrm : (rest.map fun v => v.category).sum ≤ 8)
    (kk : ∀ (e1 : va_E) (ns : va_W), post e1 ns → Wx G (k + mc) (n + ms) (pc + 3) ls rest (w.set q (b, e1) ++ ns)) : Wx G k n pc ls stk w := by
  obtain ⟨p, l', e, R, s, m, args, below, meth, c, D', A, nL, Q⟩ := G
  obtain ⟨rfl, rfl, rfl, rfl, hx, hb, hml, hown, hts, hN, hK, hA⟩ := X
  intro H locs L hP hD hS hl
  obtain ⟨m1, m3, m4, m5, m6, m7⟩ := hm
  have hlen : ∀ sig, parseMethodDescriptor y.desc = some sig → np = sig.parameters.length := fun sig h => by
    rw [h] at m6
    exact (Option.some.inj m6).symm
  have hps : ([q] : List Nat).map (fun i => w[i]?) = ([(b, e0)] : va_W).map some := by
    simp [hq]
  have hpre := zpre (args := .ref b :: As) hps rfl hP hD hK hN
  have hFA := wb_A (wc := [(b, e0)]) hps hD hS hA
  have hr : va_Run p l' e R s m args below meth c H locs k n mc ms (F0 m pc L stk) rest (zQi D' b e0 post H.size (Value.ref b :: As).toArray) (va_A [(b, e0)] H.size) := by
    rcases hl0 with h0 | h0
    · exact va_runI (bytes := bytes) (maxL := maxL) (n := np) (Ts := lw_tbl.filter goodWord) ⟨hx, hb, hml, hown, fun w hw => hts w (List.mem_filter.mp hw).1 (List.mem_filter.mp hw).2⟩ (ct H.size)
        ⟨⟨rfl, rfl, hR.1, hR.2.1, zpay hts m4, List.mem_cons_self, hts _ m4 zg_code, hts _ m3 zg_ini, m5, hlen, hts _ h0 zg_ml⟩, m7, hts _ m1 zg_inst⟩ ⟨zblind, hpre⟩ rfl hnp hl.1 hst (lv_room hrm) hd ⟨hR.2.2.1, hR.2.2.2⟩
    · exact va_runIN (bytes := bytes) (maxL := maxL) (n := np) (Ts := lw_tbl.filter goodWord) ⟨hx, hb, hml, hown, fun w hw => hts w (List.mem_filter.mp hw).1 (List.mem_filter.mp hw).2⟩ (ct H.size)
        ⟨⟨⟨rfl, rfl, hR.1, hR.2.1, zpay hts m4, List.mem_cons_self⟩, hts _ m4 zg_code, hts _ m3 zg_ini, m5, hlen, va_Nw.use rfl (hN _ h0 rfl)⟩, m7, hts _ m1 zg_inst⟩ ⟨zblind, hpre⟩ rfl hnp hl.1 hst (lv_room hrm) hd ⟨hR.2.2.1, hR.2.2.2⟩
  intro T hT X
  obtain ⟨v, st₀, t, T', L2, h0, X', hL, e1, e2, ⟨⟨hv, e9, ns, hpost, hp, hd9⟩, hz, hk⟩, stp⟩ := hr T hT X
  cases hv
  rw [h0] at hz hk
  have hlen := (List.getElem?_eq_some_iff.mp hq).1
  have hnew : ∀ (j : Nat) (c9 : Nat × va_E), ns[j]? = some c9 → H.size ≤ c9.1 := by
    intro j c9 hj
    have h1 : ((b, e9) :: ns)[j + 1]? = some c9 := hj
    rcases hd9.2 (j + 1) c9 h1 with ⟨j2, e7, h2⟩ | h2
    · cases j2 with
      | zero =>
        have h3 : c9.1 = b := by
          have h4 := Option.some.inj h2
          exact (congrArg Prod.fst h4).symm
        have h5 := hd9.1 (j + 1) 0 c9 (b, e9) h1 rfl h3
        omega
      | succ j2 => cases h2
    · exact h2
  have hP1 : va_P D' zk (w.set q (b, e9) ++ ns) T'.heap := by
    refine va_P.app (fun k1 q1 hk1 => ?_) (fun k1 q1 hk1 => ?_)
    · rw [e1]
      by_cases hkq : k1 = q
      · subst hkq
        rw [List.getElem?_set_self hlen] at hk1
        cases hk1
        exact hp 0 _ rfl
      · rw [List.getElem?_set_ne (Ne.symm hkq)] at hk1
        refine (hP k1 q1 hk1).kept (hk q1.1 (hP k1 q1 hk1).lt ?_)
        rintro (⟨j, e7, h3⟩ | h3)
        · cases j with
          | zero =>
            have h4 : b = q1.1 := congrArg Prod.fst (Option.some.inj h3)
            exact hkq (hD.1 k1 q q1 (b, e0) hk1 hq h4.symm)
          | succ j => cases h3
        · have := (hP k1 q1 hk1).lt
          omega
    · rw [e1]
      exact hp (k1 + 1) q1 hk1
  have hD1 : va_D A (w.set q (b, e9) ++ ns) := by
    refine va_D.app (hD.set hq) ⟨fun i j x y hi hj hxy => ?_, fun k1 q1 hk1 => hFA q1.1 (hd9.2 (k1 + 1) q1 hk1)⟩ (fun i j x y hi hj hxy => ?_)
    · have := hd9.1 (i + 1) (j + 1) x y hi hj hxy
      omega
    · have h1 := hnew j y hj
      have h2 : x.1 < H.size := by
        by_cases hiq : i = q
        · subst hiq
          rw [List.getElem?_set_self hlen] at hi
          cases hi
          exact (hP i _ hq).lt
        · rw [List.getElem?_set_ne (Ne.symm hiq)] at hi
          exact (hP i _ hi).lt
      omega
  obtain ⟨t2, a1, b1⟩ := kk e9 ns hpost T'.heap (locs ++ L2) L hP1 hD1
    ⟨Nat.le_trans hS.1 (by rw [e1]; exact hz), fun q h1 h2 => by rw [e1, hk q (Nat.lt_of_lt_of_le h1 hS.1) (fun z => h2 (hFA q z))]; exact hS.2.1 q h1 h2, fun q hq => by
      rcases List.mem_append.mp hq with h | h
      · exact hS.2.2 q h
      · exact hFA _ (hL q h)⟩ hl T' rfl X'
  exact ⟨t2, stp t2 a1, b1⟩
end ROWS
