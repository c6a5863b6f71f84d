/-! rows for the law: its script, its comparisons, its end -/
def R_law : String := "TwinTreeVolumeLaw"
theorem zr_i (x : Int32) : zr x.toInt := ⟨by have := Int32.le_toInt x; omega, by have := Int32.toInt_lt x; omega⟩
theorem zr_and (x y : Int) : zr (z_and x y) := zr_i _
def LX (G : GT) (b L : Nat) (xs : Nat → Int32) : Prop := match G with
  | (p, l, e, R, s, m, args, below, meth, c, D, A, nL, Q) => va_X b L xs s s.heap ∧ b < s.heap.size ∧ ¬ A b
def lw_P (b : Addr) (xs : List Int32) (args : Array Value) (s : State) : Prop := args = #[.ref b] ∧ s.IntsAt b xs ∧ xs.length ≤ 2048 ∧ (Jvm.Cond.and given_1 narrow_1).before args s = true
def lw_Q (_ : Array Value) (s : State) (o : Outcome) (t : State) : Prop := o = .returned (some (.int 1)) ∧ Framed s o t [] 600000 7302250
def lw_Z (below : List Frame) (a : Array Value) (s : State) : State → Prop := fun t => ∃ o, t.status = .running ∧ Ended t below o ∧ lw_Q a s o t
/-- the law's own end, with 1 on the stack, nothing written that was there before, its room as the claim has it -/
theorem lw_ret {p : Program} {l : Launch} {e : Env} {s : State} {m : MethodId} {below : List Frame} {meth : Method} {c : Code} {b : Nat} (hx : p.tables.exec = Jvm.exec) (hb : c.code = code) (hr : meth.sig.returnType = ret) (hlocks : meth.locks = false) {pc : Nat} {H : Heap} {ls : Array Slot} (hdg : decode code pc = .ok (.ireturn, 1)) : W p l e room_1 s m #[Value.ref b] below meth c H [] 600000 7302250 (lw_Z below #[Value.ref b] s) (F0 m pc ls [.int 1]) := by
  intro T hT X
  obtain ⟨fs, hret, hrun, hended, hW, hframe⟩ := X.leave (v := some (.int 1)) (hlocks := hlocks) (fun h => by rw [hr] at h; cases h)
  have hmeth' : T.vm.method? m = some meth := X.method'
  refine ⟨T.setFrames fs, ?_, .returned (some (.int 1)), hrun, hended, rfl, ⟨_, rfl⟩, hW, hframe⟩
  jvm_step X.here [X.here.top, hx, hb, hdg, hmeth', hr, ret, narrow_b1]
  (try refine ⟨rfl, ?_⟩); (try refine ⟨rfl, ?_⟩)
  first | (intro acts; rw [hret _ acts rfl rfl rfl]) | rw [hret _ _ rfl rfl rfl]
  exact Steps.refl _
/-- what holds at the law's entry: the machine, the code, the tables' words (any of lw_tbl by 'hts w (by decide +kernel)'), the script of L ints xs at the cell b, what the Statement gives of the start (any of its parts by flat_of_before) -/
def lw_At (p : Program) (s : State) (m : MethodId) (meth : Method) (c : Code) (b L : Nat) (xs : Nat → Int32) : Prop :=
  p.tables.exec = Jvm.exec ∧ c.code = code ∧ meth.sig.returnType = ret ∧ c.maxLocals = 4 ∧ s.vm.findClass R_law = some m.cls ∧ (∀ w ∈ lw_tbl, w.before #[Value.ref b] s = true) ∧ va_X b L xs s s.heap ∧ b < s.heap.size ∧ meth.locks = false ∧ (Jvm.Cond.and given_1 narrow_1).before #[Value.ref b] s = true
def LG (G : GT) (b : Nat) : Prop := match G with
  | (p, l, e, R, s, m, args, below, meth, c, D, A, nL, Q) => args = #[Value.ref b] ∧ Q = lw_Z below #[Value.ref b] s ∧ meth.sig.returnType = ret ∧ meth.locks = false ∧ A = (fun q : Nat => s.heap.size ≤ q)
section ROWS
variable {G : GT} {l : Launch} {D : va_G} {cI cB : ClassId} {cc : ByteArray} {own : String} {n0 : Nat} {rm : Room} {k n pc : Nat} {ls : List (Nat × Value)} {st : List Value} {w : va_W} {b L : Nat} {xs : Nat → Int32}
theorem x_sld {i : Int} (X : Cx G l D cI cB cc own n0 rm) (hxs : LX G b L xs) (hd : decode cc pc = .ok (.iaload, 1)) (hL : L < 2147483648) (hi : zx i L) (kk : Wx G k n (pc + 1) ls (.int (zi (xs i.toNat).toInt) :: st) w) : Wx G k n pc ls (.int (zi i) :: .ref b :: st) w := by
  obtain ⟨p, l', e, R, s, m, args, below, meth, c, D', A, nL, Q⟩ := G
  obtain ⟨rfl, rfl, rfl, rfl, hx, hb, hml, hown, hts, hN, hK, hA⟩ := X
  obtain ⟨h1, h2, h3⟩ := hxs
  intro H locs L' hP hD hS hl
  refine va_sld hx hb h1 h2 h3 hS (zi_in hL hi) hd ?_
  rw [zi_nat hi.1 (by omega), ← zi_of (xs i.toNat)]
  exact kk H locs L' hP hD hS hl
theorem x_slen (X : Cx G l D cI cB cc own n0 rm) (hxs : LX G b L xs) (hd : decode cc pc = .ok (.arraylength, 1)) (kk : Wx G k n (pc + 1) ls (.int (zi (L : Int)) :: st) w) : Wx G k n pc ls (.ref b :: st) w := by
  obtain ⟨p, l', e, R, s, m, args, below, meth, c, D', A, nL, Q⟩ := G
  obtain ⟨rfl, rfl, rfl, rfl, hx, hb, hml, hown, hts, hN, hK, hA⟩ := X
  obtain ⟨h1, h2, h3⟩ := hxs
  intro H locs L' hP hD hS hl
  refine va_slen hx hb h1 h2 h3 hS hd ?_
  rw [show Int32.ofNat L = zi (L : Int) by rw [zi_d]; rfl]
  exact kk H locs L' hP hD hS hl
theorem x_icmpgt1 {x y : Int} {off : Int} {tgt : Nat} (X : Cx G l D cI cB cc own n0 rm) (hd : decode cc pc = .ok (.if_icmp .gt off, 3)) (ht : (pc : Int) + off = (tgt : Int)) (hx0 : zr x) (hy0 : zr y) (k1 : y < x → Wx G k n tgt ls st w) (k2 : x ≤ y → Wx G k n (pc + 3) ls st w) : Wx G k n pc ls (.int (zi y) :: .int (zi x) :: st) w := by
  obtain ⟨p, l', e, R, s, m, args, below, meth, c, D', A, nL, Q⟩ := G
  obtain ⟨rfl, rfl, rfl, rfl, hx, hb, hml, hown, hts, hN, hK, hA⟩ := X
  intro H locs L' hP hD hS hl
  have hq := zi_le hx0 hy0
  refine lv_icmp_gt hx hb hd ht (fun q => ?_) (fun q => ?_)
  · exact k1 (by
      rcases Int.lt_or_le y x with g | g
      · exact g
      · exact absurd q (Int32.not_lt.mpr (hq.mpr g))) H locs L' hP hD hS hl
  · exact k2 (hq.mp (Int32.not_lt.mp q)) H locs L' hP hD hS hl
theorem x_icmpeq1 {x y : Int} {off : Int} {tgt : Nat} (X : Cx G l D cI cB cc own n0 rm) (hd : decode cc pc = .ok (.if_icmp .eq off, 3)) (ht : (pc : Int) + off = (tgt : Int)) (e : x = y) (kk : Wx G k n tgt ls st w) : Wx G k n pc ls (.int (zi y) :: .int (zi x) :: st) w := by
  subst e
  obtain ⟨p, l', e, R, s, m, args, below, meth, c, D', A, nL, Q⟩ := G
  obtain ⟨rfl, rfl, rfl, rfl, hx, hb, hml, hown, hts, hN, hK, hA⟩ := X
  intro H locs L' hP hD hS hl
  exact lv_icmp_eq hx hb hd ht (fun _ => kk H locs L' hP hD hS hl) (fun q => absurd rfl q)
theorem x_ifeq1 {off : Int} {tgt : Nat} (X : Cx G l D cI cB cc own n0 rm) (hd : decode cc pc = .ok (.ifCond .eq off, 3)) (ht : (pc : Int) + off = (tgt : Int)) (kk : Wx G k n tgt ls st w) : Wx G k n pc ls (.int (zi 0) :: st) w := by
  obtain ⟨p, l', e, R, s, m, args, below, meth, c, D', A, nL, Q⟩ := G
  obtain ⟨rfl, rfl, rfl, rfl, hx, hb, hml, hown, hts, hN, hK, hA⟩ := X
  intro H locs L' hP hD hS hl
  exact lv_if_eq hx hb hd ht (fun _ => kk H locs L' hP hD hS hl) (fun q => absurd zi_0 q)
theorem x_lcmpeq {x y : Int} (X : Cx G l D cI cB cc own n0 rm) (hd : decode cc pc = .ok (.lcmp, 1)) (e : x = y) (kk : Wx G k n (pc + 1) ls (.int (zi 0) :: st) w) : Wx G k n pc ls (.long (zl y) :: .long (zl x) :: st) w := by
  subst e
  obtain ⟨p, l', e, R, s, m, args, below, meth, c, D', A, nL, Q⟩ := G
  obtain ⟨rfl, rfl, rfl, rfl, hx, hb, hml, hown, hts, hN, hK, hA⟩ := X
  intro H locs L' hP hD hS hl
  refine W.lcmp hx hb hd ?_
  rw [show lg_cmp (zl x) (zl x) = zi 0 by rw [zi_0]; simp [lg_cmp]]
  exact kk H locs L' hP hD hS hl
theorem x_lawret (X : Cx G l D cI cB code zc_Law 4 room_1) (hG : LG G b) (hd : decode code pc = .ok (.ireturn, 1)) (hk : k ≤ 600000) (hn : n ≤ 7302250) : Wx G k n pc ls [.int (zi 1)] w := by
  obtain ⟨p, l', e, R, s, m, args, below, meth, c, D', A, nL, Q⟩ := G
  obtain ⟨rfl, rfl, rfl, rfl, hx, hb, hml, hown, hts, hN, hK, hA⟩ := X
  obtain ⟨rfl, rfl, hr, hlk, rfl⟩ := hG
  intro H locs L' hP hD hS hl
  rw [zi_1]
  refine va_forget (fun q hq => hS.2.2 q hq) ?_
  exact W.widen hk hn (lw_ret hx hb hr hlk hd)
end ROWS
