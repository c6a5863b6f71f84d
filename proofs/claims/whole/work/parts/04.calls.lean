/-! calls: a callee's cells stand at places of the caller's world; they come back at the same places -/
/-- w2 is w but at the places ps, where cs stand -/
def Up (w : va_W) (ps : List Nat) (cs w2 : va_W) : Prop := ∀ (k : Nat) (q : Nat × va_E), w2[k]? = some q → (∃ j : Nat, ps[j]? = some k ∧ cs[j]? = some q) ∨ ((∀ j : Nat, ps[j]? = some k → False) ∧ w[k]? = some q)
theorem Up.at {w : va_W} {ps : List Nat} {cs : va_W} (h : ps.map (fun i => w[i]?) = cs.map some) {j k : Nat} (hj : ps[j]? = some k) : w[k]? = cs[j]? := by
  have h1 : (ps.map (fun i => w[i]?))[j]? = (cs.map some)[j]? := by rw [h]
  rw [List.getElem?_map, List.getElem?_map, hj] at h1
  cases hc : cs[j]? with
  | none => rw [hc] at h1; cases h1
  | some c => rw [hc] at h1; exact Option.some.inj h1
theorem Up.same {w : va_W} {ps : List Nat} {cs : va_W} (h : ps.map (fun i => w[i]?) = cs.map some) : Up w ps cs w := by
  intro k q hk
  by_cases hp : ∃ j : Nat, ps[j]? = some k
  · obtain ⟨j, hj⟩ := hp
    exact Or.inl ⟨j, hj, by rw [← Up.at h hj]; exact hk⟩
  · exact Or.inr ⟨fun j hj => hp ⟨j, hj⟩, hk⟩
theorem Up.of {w : va_W} {ps : List Nat} {cs w2 : va_W} (rs : List Nat) (wr : va_W) (h : ps.map (fun i => w2[i]?) = cs.map some) (hr2 : rs.map (fun i => w2[i]?) = wr.map some) (hr1 : rs.map (fun i => w[i]?) = wr.map some) (n : Nat) (hn : w2.length = n) (ha : (List.range n).all (fun i => ps.contains i || rs.contains i) = true) : Up w ps cs w2 := by
  intro k q hk
  by_cases hp : ∃ j : Nat, ps[j]? = some k
  · obtain ⟨j, hj⟩ := hp
    exact Or.inl ⟨j, hj, by rw [← Up.at h hj]; exact hk⟩
  · refine Or.inr ⟨fun j hj => hp ⟨j, hj⟩, ?_⟩
    have hlt := (List.getElem?_eq_some_iff.mp hk).1
    have h1 := List.all_eq_true.mp ha k (List.mem_range.mpr (by omega))
    simp only [Bool.or_eq_true, List.contains_iff_mem] at h1
    rcases h1 with h1 | h1
    · exact absurd (List.getElem?_of_mem h1) hp
    · obtain ⟨j, hj⟩ := List.getElem?_of_mem h1
      have h2 : (rs.map (fun i => w2[i]?))[j]? = (rs.map (fun i => w[i]?))[j]? := by rw [hr2, hr1]
      rw [List.getElem?_map, List.getElem?_map, hj] at h2
      have h3 : w2[k]? = w[k]? := Option.some.inj h2
      rw [← h3]
      exact hk
theorem wb_at {w wc : va_W} {ps : List Nat} (hps : ps.map (fun i => w[i]?) = wc.map some) {j : Nat} {c : Nat × va_E} (hc : wc[j]? = some c) : ∃ i : Nat, ps[j]? = some i ∧ w[i]? = some c := by
  have h1 : (ps.map (fun i => w[i]?))[j]? = some (some c) := by rw [hps, List.getElem?_map, hc]; rfl
  rw [List.getElem?_map] at h1
  cases hi : ps[j]? with
  | none => rw [hi] at h1; cases h1
  | some i => rw [hi] at h1; exact ⟨i, rfl, Option.some.inj h1⟩
theorem wb_len {w wc wc' : va_W} {ps : List Nat} (hps : ps.map (fun i => w[i]?) = wc.map some) (hf : wc'.map (fun q => q.1) = wc.map (fun q => q.1)) {j : Nat} {c : Nat × va_E} (hc : wc'[j]? = some c) : ∃ (i : Nat) (c0 : Nat × va_E), ps[j]? = some i ∧ wc[j]? = some c0 ∧ w[i]? = some c0 ∧ c0.1 = c.1 := by
  have h1 : (wc'.map (fun q => q.1))[j]? = some c.1 := by rw [List.getElem?_map, hc]; rfl
  rw [hf, List.getElem?_map] at h1
  cases h0 : wc[j]? with
  | none => rw [h0] at h1; cases h1
  | some c0 =>
    rw [h0] at h1
    obtain ⟨i, h2, h3⟩ := wb_at hps h0
    exact ⟨i, c0, h2, rfl, h3, Option.some.inj h1⟩
theorem wb_adr {w wc wc' : va_W} {ps : List Nat} {w2 : va_W} (hU : Up w ps wc' w2) (hps : ps.map (fun i => w[i]?) = wc.map some) (hf : wc'.map (fun q => q.1) = wc.map (fun q => q.1)) {k : Nat} {q : Nat × va_E} (h : w2[k]? = some q) : ∃ q0, w[k]? = some q0 ∧ q0.1 = q.1 := by
  rcases hU k q h with ⟨j, h1, h2⟩ | ⟨-, h2⟩
  · obtain ⟨i, c0, h3, -, h5, h6⟩ := wb_len hps hf h2
    rw [h1] at h3
    cases h3
    exact ⟨c0, h5, h6⟩
  · exact ⟨q, h2, rfl⟩
theorem wb_D {A : Nat → Prop} {w wc wc' w2 : va_W} {ps : List Nat} (hU : Up w ps wc' w2) (hps : ps.map (fun i => w[i]?) = wc.map some) (hf : wc'.map (fun q => q.1) = wc.map (fun q => q.1)) (hD : va_D A w) : va_D A w2 := by
  refine ⟨fun i j p q hi hj hpq => ?_, fun k q hk => ?_⟩
  · obtain ⟨p0, h1, h2⟩ := wb_adr hU hps hf hi
    obtain ⟨q0, h3, h4⟩ := wb_adr hU hps hf hj
    exact hD.1 i j p0 q0 h1 h3 (h2.trans (hpq.trans h4.symm))
  · obtain ⟨q0, h1, h2⟩ := wb_adr hU hps hf hk
    rw [← h2]
    exact hD.2 k q0 h1
theorem wb_P {D : va_G} {A : Nat → Prop} {w wc wc' w2 : va_W} {ps : List Nat} {H H1 : Heap} (hU : Up w ps wc' w2) (hps : ps.map (fun i => w[i]?) = wc.map some) (hf : wc'.map (fun q => q.1) = wc.map (fun q => q.1)) (hD : va_D A w) (hP : va_P D zk w H) (hP1 : va_P D zk wc' H1) (hk : ∀ q : Nat, q < H.size → ¬ va_A wc H.size q → H1[q]? = H[q]?) : va_P D zk w2 H1 := by
  intro k q h
  rcases hU k q h with ⟨j, h1, h2⟩ | ⟨h1, h2⟩
  · exact hP1 j q h2
  · refine (hP k q h2).kept (hk q.1 (hP k q h2).lt ?_)
    rintro (⟨j, e, h3⟩ | h3)
    · obtain ⟨i, h4, h5⟩ := wb_at hps h3
      have hik := hD.1 i k _ _ h5 h2 rfl
      subst hik
      exact h1 j h4
    · have := (hP k q h2).lt
      omega
theorem wb_A {A : Nat → Prop} {w wc : va_W} {ps : List Nat} {H H0 : Heap} {locs : List Loc} (hps : ps.map (fun i => w[i]?) = wc.map some) (hD : va_D A w) (hS : va_S A H0 H locs) (hA : ∀ q, H0.size ≤ q → A q) : ∀ q, va_A wc H.size q → A q := by
  rintro q (⟨j, e, h3⟩ | h3)
  · obtain ⟨i, -, h5⟩ := wb_at hps h3
    exact hD.2 i _ h5
  · exact hA q (Nat.le_trans hS.1 h3)
/-- a method that an object's call reaches, and one of its own kind alone -/
def Mv (y : MethodName) (cc : ByteArray) (maxL : Nat) (ret : Option FieldType) (np : Nat) : Prop :=
  Cond.instanceMethod y ∈ lw_tbl ∧ Cond.selects y.cls y y ∈ lw_tbl ∧ Cond.initialized y.cls ∈ lw_tbl ∧ Cond.code y cc maxL ret ∈ lw_tbl ∧ (y.cls ≠ "java/lang/invoke/MethodHandle" ∧ y.cls ≠ "java/lang/invoke/VarHandle") ∧ (parseMethodDescriptor y.desc).map (fun d => d.parameters.length) = some np
def Ms (y : MethodName) (cc : ByteArray) (maxL : Nat) (ret : Option FieldType) (np : Nat) : Prop :=
  Cond.static y ∈ lw_tbl ∧ Cond.initialized y.cls ∈ lw_tbl ∧ Cond.code y cc maxL ret ∈ lw_tbl ∧ (y.cls ≠ "java/lang/invoke/MethodHandle" ∧ y.cls ≠ "java/lang/invoke/VarHandle") ∧ (parseMethodDescriptor y.desc).map (fun d => d.parameters.length) = some np
def Lk (own : String) (i : Nat) (y : MethodName) : Prop := Cond.methodLink own i y ∈ lw_tbl ∨ Cond.methodLinkNest own i y "TwinTreeVolume" ∈ lw_tbl
theorem zg_code {y : MethodName} {cc : ByteArray} {maxL : Nat} {ret : Option FieldType} : goodWord (Cond.code y cc maxL ret) = true := by first | rfl | simp [goodWord, Cond.onTables, Cond.keeps, Cond.steady]
theorem zg_inst {y : MethodName} : goodWord (Cond.instanceMethod y) = true := by first | rfl | simp [goodWord, Cond.onTables, Cond.keeps, Cond.steady]
theorem zg_stat {y : MethodName} : goodWord (Cond.static y) = true := by first | rfl | simp [goodWord, Cond.onTables, Cond.keeps, Cond.steady]
theorem zg_sel {C : String} {x y : MethodName} : goodWord (Cond.selects C x y) = true := by first | rfl | simp [goodWord, Cond.onTables, Cond.keeps, Cond.steady]
theorem zg_ini {C : String} : goodWord (Cond.initialized C) = true := by first | rfl | simp [goodWord, Cond.onTables, Cond.keeps, Cond.steady]
theorem zg_ml {C : String} {i : Nat} {y : MethodName} : goodWord (Cond.methodLink C i y) = true := by first | rfl | simp [goodWord, Cond.onTables, Cond.keeps, Cond.steady]
theorem zpay {s : State} {args : Array Value} {y : MethodName} {cc : ByteArray} {maxL : Nat} {ret : Option FieldType} (hts : ∀ w ∈ lw_tbl, goodWord w = true → w.before args s = true) (hc : Cond.code y cc maxL ret ∈ lw_tbl) : ∀ w ∈ zWS y cc maxL ret, ∀ (a' : Array Value) (U : State), s.WarmedH U.vm → w.before a' U = true := by
  intro w hw a' U hW
  rcases List.mem_cons.mp hw with rfl | hw
  · exact word_at hW (good_of_word zg_code) (hts _ hc zg_code)
  · have h1 := List.mem_filter.mp hw
    exact word_at hW (good_of_word h1.2) (hts _ h1.1 h1.2)
theorem zblind {D : va_G} {cI cB : ClassId} {args : List Value} {w : va_W} {sz : Nat} : FrameBlind (va_Pc args (zPr D cI cB w sz)) := fun a U g mk q => by
  obtain ⟨q0, q1, qP, qK, qD, qN⟩ := q
  exact ⟨q0, q1, qP, va_K.moved (u := U) (U := U.calling g mk a) (Vm.Alike.refl U.vm) qK, qD, zNW.same (u := U) (U := U.calling g mk a) rfl qN⟩
theorem zpre {D : va_G} {cI cB : ClassId} {args : List Value} {w wc : va_W} {H : Heap} {s : State} {A : Nat → Prop} {ps : List Nat} (hps : ps.map (fun i => w[i]?) = wc.map some) (hnd : va_nd ps = true) (hP : va_P D zk w H) (hD : va_D A w) (hK : va_K D zk (zTy cI cB) s) (hN : zNW s) : ∀ U : State, U.heap = H → s.WarmedH U.vm → va_Pc args (zPr D cI cB wc H.size) args.toArray U := by
  intro U hU hW
  refine ⟨rfl, by rw [hU], ?_, va_K.moved hW.alike hK, ⟨fun i j x y hi hj hxy => ?_, fun _ _ _ => trivial⟩, hN.warm hW⟩
  · rw [hU]
    intro k q hk
    obtain ⟨i, -, h2⟩ := wb_at hps hk
    exact hP i q h2
  · obtain ⟨a, h1, h2⟩ := wb_at hps hi
    obtain ⟨b, h3, h4⟩ := wb_at hps hj
    have hab := hD.1 a b x y h2 h4 hxy
    subst hab
    exact va_nd_inj ps hnd i j a h1 h3
theorem zcall {p : Program} {l : Launch} {e : Env} {R : Room} {s : State} {m : MethodId} {args a : Array Value} {below : List Frame} {meth : Method} {c : Code} {H : Heap} {locs : List Loc} {k n : Nat} {Q : State → Prop} {pc : Nat} {L : Array Slot} {st0 rest : List Value} {A : Nat → Prop} {D : va_G} {w wc wc' w2 : va_W} {rv : Option Value} {ps : List Nat} (hU : Up w ps wc' w2)
    (hr : va_Run p l e R s m args below meth c H locs k n 0 0 (F0 m pc L st0) rest (zQr D rv wc wc' H.size a) (va_A wc H.size)) (hps : ps.map (fun i => w[i]?) = wc.map some) (hf : wc'.map (fun q => q.1) = wc.map (fun q => q.1)) (hP : va_P D zk w H) (hD : va_D A w) (hS : va_S A s.heap H locs) (hA : ∀ q, s.heap.size ≤ q → A q)
    (kk : ∀ (H1 : Heap) (locs1 : List Loc), va_P D zk w2 H1 → va_D A w2 → va_S A s.heap H1 locs1 → W p l e R s m args below meth c H1 locs1 k n Q (F0 m (pc + 3) L (rv.toList ++ rest))) : W p l e R s m args below meth c H locs k n Q (F0 m pc L st0) := by
  intro T hT X
  obtain ⟨v, st₀, t, T', L2, h0, X', hL, e1, e2, ⟨hv, hp, hz, hk⟩, st⟩ := hr T hT X
  cases hv
  rw [h0] at hz hk
  have hFA := wb_A (wc := wc) hps hD hS hA
  obtain ⟨t2, a1, b1⟩ := kk T'.heap (locs ++ L2) (wb_P hU hps hf hD hP (by rw [e1]; exact hp) (fun q h1 h2 => by rw [e1]; exact hk q h1 h2)) (wb_D hU hps hf hD)
    ⟨Nat.le_trans hS.1 (by rw [e1]; exact hz), fun q h1 h2 => by rw [e1, hk q (Nat.lt_of_lt_of_le h1 hS.1) (fun z => h2 (hFA q z))]; exact hS.2.1 q h1 h2, fun q hq => by
      rcases List.mem_append.mp hq with h | h
      · exact hS.2.2 q h
      · exact hFA _ (hL q h)⟩ T' rfl X'
  exact ⟨t2, st t2 a1, b1⟩
section ROWS
variable {G : GT} {l : Launch} {D : va_G} {cI cB : ClassId} {cc : ByteArray} {own : String} {n0 : Nat} {rm : Room} {k n pc : Nat} {ls : List (Nat × Value)} {st : List Value} {w : va_W}
theorem x_callV {i b ci fr lo maxL np : Nat} {y : MethodName} {bytes : ByteArray} {ret : Option FieldType} {As rest stk : List Value} {wc wc' w2 : va_W} {rv : Option Value} {fs : List Value} {T : u_T} {N : Nat} (X : Cx G l D cI cB cc own n0 rm) (hd : decode cc pc = .ok (.invokevirtual i, 3)) (hl0 : Lk own i y) (hm : Mv y bytes maxL ret np)
    (ct : Ct l D cI cB y bytes maxL ret { frames := fr, cells := 0, slots := 0, locals := lo } (.ref b :: As) wc wc' rv) (hR : fr + 1 ≤ rm.frames ∧ 8 + (maxL + 11) + lo ≤ rm.locals ∧ k ≤ rm.cells ∧ n ≤ rm.slots) (q : Nat) (hq : w[q]? = some (b, .inr (ci, fs))) (hc : zk[ci]? = some (y.cls, T, N))
    (ps : List Nat) (hps : ps.map (fun i => w[i]?) = wc.map some) (hnd : va_nd ps = true) (hf : wc'.map (fun q => q.1) = wc.map (fun q => q.1)) (hU : Up w ps wc' w2) (hst : stk = As.reverse ++ .ref b :: rest) (hnp : As.length = np) (hrm : (rest.map fun v => v.category).sum ≤ 8)
    (kk : Wx G k n (pc + 3) ls (rv.toList ++ rest) w2) : Wx G k n pc ls stk w := by
  obtain ⟨p, l', e, R, s, m, args, below, meth, c, D', A, nL, Q⟩ := G
  obtain ⟨rfl, rfl, rfl, rfl, hx, hb, hml, hown, hts, hN, hK, hA⟩ := X
  intro H locs L hP hD hS hl
  obtain ⟨m1, m2, m3, m4, m5, m6⟩ := hm
  have hlen : ∀ sig, parseMethodDescriptor y.desc = some sig → np = sig.parameters.length := fun sig h => by
    rw [h] at m6
    exact (Option.some.inj m6).symm
  have hpre := zpre (args := .ref b :: As) hps hnd hP hD hK hN
  have hrecv := va_recv hK hP hc hq
  refine zcall hU (wc := wc) (rest := rest) (a := (Value.ref b :: As).toArray) ?_ hps hf hP hD hS hA (fun H1 locs1 hP1 hD1 hS1 => kk H1 locs1 L hP1 hD1 hS1 hl)
  rcases hl0 with h0 | h0
  · exact va_runV (C := y.cls) (bytes := bytes) (maxL := maxL) (n := np) (ret := ret) (Ts := lw_tbl.filter goodWord) ⟨hx, hb, hml, hown, fun w hw => hts w (List.mem_filter.mp hw).1 (List.mem_filter.mp hw).2⟩ (ct H.size)
      ⟨⟨rfl, rfl, hR.1, hR.2.1, zpay hts m4, List.mem_cons_self, hts _ m4 zg_code, hts _ m3 zg_ini, m5, hlen, hts _ h0 zg_ml⟩, hts _ m1 zg_inst, hts _ m2 zg_sel⟩ ⟨zblind, hrecv, hpre⟩ rfl hnp hl.1 hst (lv_room hrm) hd ⟨hR.2.2.1, hR.2.2.2⟩
  · exact va_runVN (C := y.cls) (bytes := bytes) (maxL := maxL) (n := np) (ret := ret) (Ts := lw_tbl.filter goodWord) ⟨hx, hb, hml, hown, fun w hw => hts w (List.mem_filter.mp hw).1 (List.mem_filter.mp hw).2⟩ (ct H.size)
      ⟨⟨⟨rfl, rfl, hR.1, hR.2.1, zpay hts m4, List.mem_cons_self⟩, hts _ m4 zg_code, hts _ m3 zg_ini, m5, hlen, va_Nw.use rfl (hN _ h0 rfl)⟩, hts _ m1 zg_inst, hts _ m2 zg_sel⟩ ⟨zblind, hrecv, hpre⟩ rfl hnp hl.1 hst (lv_room hrm) hd ⟨hR.2.2.1, hR.2.2.2⟩
theorem x_callS {i fr lo maxL np : Nat} {y : MethodName} {bytes : ByteArray} {ret : Option FieldType} {As rest stk : List Value} {wc wc' w2 : va_W} {rv : Option Value} (X : Cx G l D cI cB cc own n0 rm) (hd : decode cc pc = .ok (.invokestatic i, 3)) (hl0 : Lk own i y) (hm : Ms y bytes maxL ret np)
    (ct : Ct l D cI cB y bytes maxL ret { frames := fr, cells := 0, slots := 0, locals := lo } As wc wc' rv) (hR : fr + 1 ≤ rm.frames ∧ 8 + (maxL + 11) + lo ≤ rm.locals ∧ k ≤ rm.cells ∧ n ≤ rm.slots)
    (ps : List Nat) (hps : ps.map (fun i => w[i]?) = wc.map some) (hnd : va_nd ps = true) (hf : wc'.map (fun q => q.1) = wc.map (fun q => q.1)) (hU : Up w ps wc' w2) (hst : stk = As.reverse ++ rest) (hnp : As.length = np) (hrm : (rest.map fun v => v.category).sum ≤ 8)
    (kk : Wx G k n (pc + 3) ls (rv.toList ++ rest) w2) : Wx G k n pc ls stk w := by
  obtain ⟨p, l', e, R, s, m, args, below, meth, c, D', A, nL, Q⟩ := G
  obtain ⟨rfl, rfl, rfl, rfl, hx, hb, hml, hown, hts, hN, hK, hA⟩ := X
  intro H locs L hP hD hS hl
  obtain ⟨m1, m3, m4, m5, m6⟩ := hm
  have hlen : ∀ sig, parseMethodDescriptor y.desc = some sig → np = sig.parameters.length := fun sig h => by
    rw [h] at m6
    exact (Option.some.inj m6).symm
  have hpre := zpre (args := As) hps hnd hP hD hK hN
  refine zcall hU (wc := wc) (rest := rest) (a := As.toArray) ?_ hps hf hP hD hS hA (fun H1 locs1 hP1 hD1 hS1 => kk H1 locs1 L hP1 hD1 hS1 hl)
  rcases hl0 with h0 | h0
  · exact va_runS (bytes := bytes) (maxL := maxL) (n := np) (ret := ret) (Ts := lw_tbl.filter goodWord) ⟨hx, hb, hml, hown, fun w hw => hts w (List.mem_filter.mp hw).1 (List.mem_filter.mp hw).2⟩ (ct H.size)
      ⟨⟨rfl, rfl, hR.1, hR.2.1, zpay hts m4, List.mem_cons_self, hts _ m4 zg_code, hts _ m3 zg_ini, m5, hlen, hts _ h0 zg_ml⟩, hts _ m1 zg_stat⟩ ⟨zblind, hpre⟩ rfl hnp hl.1 hst (lv_room hrm) hd ⟨hR.2.2.1, hR.2.2.2⟩
  · exact va_runSN (bytes := bytes) (maxL := maxL) (n := np) (ret := ret) (Ts := lw_tbl.filter goodWord) ⟨hx, hb, hml, hown, fun w hw => hts w (List.mem_filter.mp hw).1 (List.mem_filter.mp hw).2⟩ (ct H.size)
      ⟨⟨⟨rfl, rfl, hR.1, hR.2.1, zpay hts m4, List.mem_cons_self⟩, hts _ m4 zg_code, hts _ m3 zg_ini, m5, hlen, va_Nw.use rfl (hN _ h0 rfl)⟩, hts _ m1 zg_stat, trivial⟩ ⟨zblind, hpre⟩ rfl hnp hl.1 hst (lv_room hrm) hd ⟨hR.2.2.1, hR.2.2.2⟩
theorem x_iret {v : Int32} (X : Cx G l D cI cB cc own n0 rm) (hR : Rt G (some .int) (some (.int v)) w) (hd : decode cc pc = .ok (.ireturn, 1)) : Wx G 0 0 pc ls [.int v] w := by
  obtain ⟨p, l', e, R, s, m, args, below, meth, c, D', A, nL, Q⟩ := G
  obtain ⟨rfl, rfl, rfl, rfl, hx, hb, hml, hown, hts, hN, hK, hA⟩ := X
  obtain ⟨w0, rfl, rfl, hlk, hret⟩ := hR
  intro H locs L hP hD hS hl
  exact W.iret hx hb hret (fun t ht hW => ⟨rfl, by rw [ht]; exact hP, hS.F ht⟩) hS.2.2 hd hlk
theorem x_zret {v : Int} (X : Cx G l D cI cB cc own n0 rm) (hR : Rt G (some .boolean) (some (.int (zi v))) w) (hd : decode cc pc = .ok (.ireturn, 1)) (hv : v = 0 ∨ v = 1) : Wx G 0 0 pc ls [.int (zi v)] w := by
  obtain ⟨p, l', e, R, s, m, args, below, meth, c, D', A, nL, Q⟩ := G
  obtain ⟨rfl, rfl, rfl, rfl, hx, hb, hml, hown, hts, hN, hK, hA⟩ := X
  obtain ⟨w0, rfl, rfl, hlk, hret⟩ := hR
  intro H locs L hP hD hS hl
  have hn : narrow .boolean (.int (zi v)) = .int (zi v) := by
    rcases hv with rfl | rfl
    · rw [zi_0]; rfl
    · rw [zi_1]; rfl
  exact W.zret hx hb hret hn (fun t ht hW => ⟨rfl, by rw [ht]; exact hP, hS.F ht⟩) hS.2.2 hd hlk
theorem x_lret {v : Int64} (X : Cx G l D cI cB cc own n0 rm) (hR : Rt G (some .long) (some (.long v)) w) (hd : decode cc pc = .ok (.lreturn, 1)) : Wx G 0 0 pc ls [.long v] w := by
  obtain ⟨p, l', e, R, s, m, args, below, meth, c, D', A, nL, Q⟩ := G
  obtain ⟨rfl, rfl, rfl, rfl, hx, hb, hml, hown, hts, hN, hK, hA⟩ := X
  obtain ⟨w0, rfl, rfl, hlk, hret⟩ := hR
  intro H locs L hP hD hS hl
  exact W.lret hx hb hret (fun t ht hW => ⟨rfl, by rw [ht]; exact hP, hS.F ht⟩) hS.2.2 hd hlk
theorem x_vret (X : Cx G l D cI cB cc own n0 rm) (hR : Rt G none none w) (hd : decode cc pc = .ok (.return_, 1)) : Wx G 0 0 pc ls [] w := by
  obtain ⟨p, l', e, R, s, m, args, below, meth, c, D', A, nL, Q⟩ := G
  obtain ⟨rfl, rfl, rfl, rfl, hx, hb, hml, hown, hts, hN, hK, hA⟩ := X
  obtain ⟨w0, rfl, rfl, hlk, hret⟩ := hR
  intro H locs L hP hD hS hl
  exact W.vret hx hb hret (fun t ht hW => ⟨rfl, by rw [ht]; exact hP, hS.F ht⟩) hS.2.2 hd hlk
theorem x_aret {v : Nat} {C : String} (X : Cx G l D cI cB cc own n0 rm) (hR : Rt G (some (.object C)) (some (.ref v)) w) (hd : decode cc pc = .ok (.areturn, 1)) : Wx G 0 0 pc ls [.ref v] w := by
  obtain ⟨p, l', e, R, s, m, args, below, meth, c, D', A, nL, Q⟩ := G
  obtain ⟨rfl, rfl, rfl, rfl, hx, hb, hml, hown, hts, hN, hK, hA⟩ := X
  obtain ⟨w0, rfl, rfl, hlk, hret⟩ := hR
  intro H locs L hP hD hS hl
  exact W.aret hx hb hret (Or.inl ⟨_, rfl⟩) (Or.inr ⟨_, rfl⟩) (fun t ht hW => ⟨rfl, by rw [ht]; exact hP, hS.F ht⟩) hS.2.2 hd hlk
def Mm (y : MethodName) (cc : ByteArray) : Prop := Cond.static y ∈ lw_tbl ∧ Cond.initialized "java/lang/Math" ∈ lw_tbl ∧ Cond.code y cc 2 (some .int) ∈ lw_tbl
theorem x_mmax {i : Nat} {x y : Int} {α : Type} {B : Option α} {o : α} (X : Cx G l D cI cB cc own n0 rm) (hd : decode cc pc = .ok (.invokestatic i, 3)) (hl0 : Cond.methodLink own i Lib.Math.max.name ∈ lw_tbl) (hm : Mm Lib.Math.max.name Lib.Math.max.code) (hrm : 1 ≤ rm.frames ∧ (st.map fun v => v.category).sum + 13 ≤ rm.locals ∧ k ≤ rm.cells ∧ n ≤ rm.slots) (h : gd (zr x ∧ zr y) B = some o) (kk : B = some o → Wx G k n (pc + 3) ls (.int (zi (max x y)) :: st) w) : Wx G k n pc ls (.int (zi y) :: .int (zi x) :: st) w := by
  obtain ⟨hg, h⟩ := gd_e h
  obtain ⟨p, l', e, R, s, m, args, below, meth, c, D', A, nL, Q⟩ := G
  obtain ⟨rfl, rfl, rfl, rfl, hx, hb, hml, hown, hts, hN, hK, hA⟩ := X
  intro H locs L hP hD hS hl
  refine va_mmax hx hb (hml.trans hl.1.symm) hown (hts _ hl0 zg_ml) (hts _ hm.1 zg_stat) (hts _ hm.2.1 zg_ini) (hts _ hm.2.2 zg_code) hrm.1 hrm.2.1 hrm.2.2.1 hrm.2.2.2 hd ?_
  have e1 : (if zi x < zi y then zi y else zi x) = zi (max x y) := by
    by_cases hxy : x < y
    · rw [if_pos ((zi_lt hg.1 hg.2).mpr hxy), show max x y = y by omega]
    · rw [if_neg (fun q => hxy ((zi_lt hg.1 hg.2).mp q)), show max x y = x by omega]
  rw [e1]
  exact kk h H locs L hP hD hS hl
theorem x_mmin {i : Nat} {x y : Int} {α : Type} {B : Option α} {o : α} (X : Cx G l D cI cB cc own n0 rm) (hd : decode cc pc = .ok (.invokestatic i, 3)) (hl0 : Cond.methodLink own i Lib.Math.min.name ∈ lw_tbl) (hm : Mm Lib.Math.min.name Lib.Math.min.code) (hrm : 1 ≤ rm.frames ∧ (st.map fun v => v.category).sum + 13 ≤ rm.locals ∧ k ≤ rm.cells ∧ n ≤ rm.slots) (h : gd (zr x ∧ zr y) B = some o) (kk : B = some o → Wx G k n (pc + 3) ls (.int (zi (min x y)) :: st) w) : Wx G k n pc ls (.int (zi y) :: .int (zi x) :: st) w := by
  obtain ⟨hg, h⟩ := gd_e h
  obtain ⟨p, l', e, R, s, m, args, below, meth, c, D', A, nL, Q⟩ := G
  obtain ⟨rfl, rfl, rfl, rfl, hx, hb, hml, hown, hts, hN, hK, hA⟩ := X
  intro H locs L hP hD hS hl
  refine va_mmin hx hb (hml.trans hl.1.symm) hown (hts _ hl0 zg_ml) (hts _ hm.1 zg_stat) (hts _ hm.2.1 zg_ini) (hts _ hm.2.2 zg_code) hrm.1 hrm.2.1 hrm.2.2.1 hrm.2.2.2 hd ?_
  have e1 : (if zi y < zi x then zi y else zi x) = zi (min x y) := by
    by_cases hxy : y < x
    · rw [if_pos ((zi_lt hg.2 hg.1).mpr hxy), show min x y = y by omega]
    · rw [if_neg (fun q => hxy ((zi_lt hg.2 hg.1).mp q)), show min x y = x by omega]
  rw [e1]
  exact kk h H locs L hP hD hS hl
end ROWS
theorem jn_e {α β : Type} {f : α} {g : α → β} {r : β} (h : jn f g = r) : ∃ j, j = f ∧ g j = r := ⟨f, rfl, h⟩
theorem mm_max : Mm Lib.Math.max.name Lib.Math.max.code := by unfold Mm; decide +kernel
theorem mm_min : Mm Lib.Math.min.name Lib.Math.min.code := by unfold Mm; decide +kernel
