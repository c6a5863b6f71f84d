theorem d_Vol_partOf_0 : decode b_Vol_partOf 0 = .ok (.iload_n 0, 1) := by decide +kernel
theorem d_Vol_partOf_1 : decode b_Vol_partOf 1 = .ok (.iload_n 1, 1) := by decide +kernel
theorem d_Vol_partOf_2 : decode b_Vol_partOf 2 = .ok (.invokestatic 297, 3) := by decide +kernel
theorem d_Vol_partOf_5 : decode b_Vol_partOf 5 = .ok (.istore_n 3, 1) := by decide +kernel
theorem d_Vol_partOf_6 : decode b_Vol_partOf 6 = .ok (.iload_n 0, 1) := by decide +kernel
theorem d_Vol_partOf_7 : decode b_Vol_partOf 7 = .ok (.ifCond .eq 7, 3) := by decide +kernel
theorem d_Vol_partOf_10 : decode b_Vol_partOf 10 = .ok (.iload_n 3, 1) := by decide +kernel
theorem d_Vol_partOf_11 : decode b_Vol_partOf 11 = .ok (.ifCond .ne 6, 3) := by decide +kernel
theorem d_Vol_partOf_14 : decode b_Vol_partOf 14 = .ok (.iload_n 2, 1) := by decide +kernel
theorem d_Vol_partOf_15 : decode b_Vol_partOf 15 = .ok (.i2l, 1) := by decide +kernel
theorem d_Vol_partOf_16 : decode b_Vol_partOf 16 = .ok (.lreturn, 1) := by decide +kernel
theorem d_Vol_partOf_17 : decode b_Vol_partOf 17 = .ok (.iload_n 2, 1) := by decide +kernel
theorem d_Vol_partOf_18 : decode b_Vol_partOf 18 = .ok (.ifCond .ne 7, 3) := by decide +kernel
theorem d_Vol_partOf_21 : decode b_Vol_partOf 21 = .ok (.iload_n 0, 1) := by decide +kernel
theorem d_Vol_partOf_22 : decode b_Vol_partOf 22 = .ok (.goto 4, 3) := by decide +kernel
theorem d_Vol_partOf_25 : decode b_Vol_partOf 25 = .ok (.iload_n 1, 1) := by decide +kernel
theorem d_Vol_partOf_26 : decode b_Vol_partOf 26 = .ok (.iload_n 3, 1) := by decide +kernel
theorem d_Vol_partOf_27 : decode b_Vol_partOf 27 = .ok (.idiv, 1) := by decide +kernel
theorem d_Vol_partOf_28 : decode b_Vol_partOf 28 = .ok (.i2l, 1) := by decide +kernel
theorem d_Vol_partOf_29 : decode b_Vol_partOf 29 = .ok (.lreturn, 1) := by decide +kernel
def m_Vol_partOf (x0 : Int) (x1 : Int) (x2 : Int)  : Option (Int) :=
  bnd (m_Vol_greatestDivisor x0 x1) (fun r1 => ceq x0 0 (gd (zr x2) (some (x2))) (ceq r1 0 (gd (zr x2) (some (x2))) (ceq x2 0 (gd (zx x0 2147483648 ∧ zp r1 2147483648) (gd (zr (x0 / r1)) (some ((x0 / r1))))) (gd (zx x1 2147483648 ∧ zp r1 2147483648) (gd (zr (x1 / r1)) (some ((x1 / r1))))))))
set_option maxHeartbeats 4000000 in
set_option maxRecDepth 100000 in
theorem c_Vol_partOf (l : Launch) (D : va_G) (cI cB : ClassId)   (x0 : Int) (x1 : Int) (x2 : Int) {o : Int} (h : m_Vol_partOf x0 x1 x2 = some o) : Ct l D cI cB y_Vol_partOf b_Vol_partOf 4 (some .long) { frames := 1, cells := 0, slots := 0, locals := 25 } [.int (zi x0), .int (zi x1), .int (zi x2)] [] [] (some (.long (zl o))) := by
  refine Ct.start (by decide) (Nat.le_of_ble_eq_true rfl) (fun G X hR => ?_)
  refine x_ls (ls2 := [(0, .int (zi x0)), (1, .int (zi x1)), (2, .int (zi x2))]) [0, 1, 2] rfl ?_
  unfold m_Vol_partOf at h
  refine x_iload_n (pc := 0) X d_Vol_partOf_0 0 rfl rfl ?_
  refine x_iload_n (pc := 1) X d_Vol_partOf_1 1 rfl rfl ?_
  obtain ⟨r1, h2, h⟩ := bnd_e h
  refine x_callS (pc := 2) (As := [.int (zi x0), .int (zi x1)]) (rest := []) (w2 := []) X d_Vol_partOf_2 lk_Vol_297 mv_Vol_greatestDivisor (c_Vol_greatestDivisor l D cI cB x0 x1 h2) ⟨(Nat.le_of_ble_eq_true rfl), (Nat.le_of_ble_eq_true rfl), (Nat.le_of_ble_eq_true rfl), (Nat.le_of_ble_eq_true rfl)⟩ [] rfl rfl rfl (Up.same rfl) rfl rfl (Nat.le_of_ble_eq_true rfl) ?_
  refine x_istore_n (pc := 5) (ls2 := [(3, .int (zi r1)), (0, .int (zi x0)), (1, .int (zi x1)), (2, .int (zi x2))]) X d_Vol_partOf_5 rfl (Nat.le_of_ble_eq_true rfl) rfl ?_
  refine x_iload_n (pc := 6) X d_Vol_partOf_6 1 rfl rfl ?_
  refine x_ifeq (pc := 7) (tgt := 14) X d_Vol_partOf_7 rfl h (fun h => ?_) (fun h => ?_)
  · skip
    refine x_iload_n (pc := 14) X d_Vol_partOf_14 3 rfl rfl ?_
    refine x_i2l (pc := 15) X d_Vol_partOf_15 h (fun h => ?_)
    cases h
    exact x_lret (pc := 16) X hR d_Vol_partOf_16
  · skip
    refine x_iload_n (pc := 10) X d_Vol_partOf_10 0 rfl rfl ?_
    refine x_ifne (pc := 11) (tgt := 17) X d_Vol_partOf_11 rfl h (fun h => ?_) (fun h => ?_)
    · skip
      refine x_iload_n (pc := 17) X d_Vol_partOf_17 3 rfl rfl ?_
      refine x_ifne (pc := 18) (tgt := 25) X d_Vol_partOf_18 rfl h (fun h => ?_) (fun h => ?_)
      · skip
        refine x_iload_n (pc := 25) X d_Vol_partOf_25 2 rfl rfl ?_
        refine x_iload_n (pc := 26) X d_Vol_partOf_26 0 rfl rfl ?_
        refine x_idiv (pc := 27) X d_Vol_partOf_27 h (fun h => ?_)
        refine x_i2l (pc := 28) X d_Vol_partOf_28 h (fun h => ?_)
        cases h
        exact x_lret (pc := 29) X hR d_Vol_partOf_29
      · skip
        refine x_iload_n (pc := 21) X d_Vol_partOf_21 1 rfl rfl ?_
        refine x_goto (pc := 22) (tgt := 26) X d_Vol_partOf_22 rfl ?_
        refine x_iload_n (pc := 26) X d_Vol_partOf_26 0 rfl rfl ?_
        refine x_idiv (pc := 27) X d_Vol_partOf_27 h (fun h => ?_)
        refine x_i2l (pc := 28) X d_Vol_partOf_28 h (fun h => ?_)
        cases h
        exact x_lret (pc := 29) X hR d_Vol_partOf_29
    · skip
      refine x_iload_n (pc := 14) X d_Vol_partOf_14 3 rfl rfl ?_
      refine x_i2l (pc := 15) X d_Vol_partOf_15 h (fun h => ?_)
      cases h
      exact x_lret (pc := 16) X hR d_Vol_partOf_16
noncomputable abbrev w_W32 (cI cB : ClassId) (a0 a1 : Nat) (mn : Int) (nu : Int → Int) : va_W := [(a0, .inr (2, [.ref a1, .int (zi mn)])), (a1, zA cI 32 nu)]
def m_Row_numberAt_W32 (x1 : Int) (mn : Int) (nu : Int → Int) : Option (Int) :=
  clt x1 0 (some ((-1))) (clt x1 mn (clt x1 32 (gd (zx x1 32) (some ((nu x1)))) (some ((-1)))) (some ((-1))))
set_option maxHeartbeats 4000000 in
set_option maxRecDepth 100000 in
theorem c_Row_numberAt_W32 (l : Launch) (D : va_G) (cI cB : ClassId) (a0 a1 : Nat) (mn : Int) (nu : Int → Int) (x1 : Int) {o : Int} (h : m_Row_numberAt_W32 x1 mn nu = some o) : Ct l D cI cB y_Row_numberAt b_Row_numberAt 2 (some .int) { frames := 0, cells := 0, slots := 0, locals := 0 } [.ref a0, .int (zi x1)] (w_W32 cI cB a0 a1 mn nu) (w_W32 cI cB a0 a1 mn nu) (some (.int (zi o))) := by
  refine Ct.start (by decide) (Nat.le_of_ble_eq_true rfl) (fun G X hR => ?_)
  refine x_ls (ls2 := [(0, .ref a0), (1, .int (zi x1))]) [0, 1] rfl ?_
  unfold m_Row_numberAt_W32 at h
  refine x_iload_n (pc := 0) X d_Row_numberAt_0 1 rfl rfl ?_
  refine x_iflt (pc := 1) (tgt := 30) X d_Row_numberAt_1 rfl h (fun h => ?_) (fun h => ?_)
  · skip
    refine x_iconst (pc := 30) X d_Row_numberAt_30  ?_
    cases h
    exact x_iret (pc := 31) X hR d_Row_numberAt_31
  · skip
    refine x_iload_n (pc := 4) X d_Row_numberAt_4 1 rfl rfl ?_
    refine x_aload_n (pc := 5) X d_Row_numberAt_5 0 rfl rfl ?_
    refine x_get (pc := 6) X d_Row_numberAt_6 0 rfl fl_Row_21 rfl ?_
    refine x_icmpge (pc := 9) (tgt := 30) X d_Row_numberAt_9 rfl h (fun h => ?_) (fun h => ?_)
    · skip
      refine x_iconst (pc := 30) X d_Row_numberAt_30  ?_
      cases h
      exact x_iret (pc := 31) X hR d_Row_numberAt_31
    · skip
      refine x_iload_n (pc := 12) X d_Row_numberAt_12 1 rfl rfl ?_
      refine x_aload_n (pc := 13) X d_Row_numberAt_13 0 rfl rfl ?_
      refine x_get (pc := 14) X d_Row_numberAt_14 0 rfl fl_Row_15 rfl ?_
      refine x_alen (pc := 17) (M := 32) X d_Row_numberAt_17 1 rfl rfl ?_
      refine x_icmpge (pc := 18) (tgt := 30) X d_Row_numberAt_18 rfl h (fun h => ?_) (fun h => ?_)
      · skip
        refine x_iconst (pc := 30) X d_Row_numberAt_30  ?_
        cases h
        exact x_iret (pc := 31) X hR d_Row_numberAt_31
      · skip
        refine x_aload_n (pc := 21) X d_Row_numberAt_21 0 rfl rfl ?_
        refine x_get (pc := 22) X d_Row_numberAt_22 0 rfl fl_Row_15 rfl ?_
        refine x_iload_n (pc := 25) X d_Row_numberAt_25 1 rfl rfl ?_
        refine x_iald (pc := 26) X d_Row_numberAt_26 1 rfl (Nat.le_of_ble_eq_true rfl) rfl h (fun h => ?_)
        refine x_goto (pc := 27) (tgt := 31) X d_Row_numberAt_27 rfl ?_
        cases h
        exact x_iret (pc := 31) X hR d_Row_numberAt_31
def m_Row_isFull_W32  (mn : Int) : Option (Int) :=
  clt mn 32 (some (0)) (some (1))
set_option maxHeartbeats 4000000 in
set_option maxRecDepth 100000 in
theorem c_Row_isFull_W32 (l : Launch) (D : va_G) (cI cB : ClassId) (a0 a1 : Nat) (mn : Int) (nu : Int → Int)  {o : Int} (h : m_Row_isFull_W32 mn = some o) : Ct l D cI cB y_Row_isFull b_Row_isFull 1 (some .boolean) { frames := 0, cells := 0, slots := 0, locals := 0 } [.ref a0] (w_W32 cI cB a0 a1 mn nu) (w_W32 cI cB a0 a1 mn nu) (some (.int (zi o))) := by
  refine Ct.start (by decide) (Nat.le_of_ble_eq_true rfl) (fun G X hR => ?_)
  refine x_ls (ls2 := [(0, .ref a0)]) [0] rfl ?_
  unfold m_Row_isFull_W32 at h
  refine x_aload_n (pc := 0) X d_Row_isFull_0 0 rfl rfl ?_
  refine x_get (pc := 1) X d_Row_isFull_1 0 rfl fl_Row_21 rfl ?_
  refine x_aload_n (pc := 4) X d_Row_isFull_4 0 rfl rfl ?_
  refine x_get (pc := 5) X d_Row_isFull_5 0 rfl fl_Row_15 rfl ?_
  refine x_alen (pc := 8) (M := 32) X d_Row_isFull_8 1 rfl rfl ?_
  refine x_icmplt (pc := 9) (tgt := 16) X d_Row_isFull_9 rfl h (fun h => ?_) (fun h => ?_)
  · skip
    refine x_iconst (pc := 16) X d_Row_isFull_16  ?_
    cases h
    exact x_zret (pc := 17) X hR d_Row_isFull_17 (Or.inl rfl)
  · skip
    refine x_iconst (pc := 12) X d_Row_isFull_12  ?_
    refine x_goto (pc := 13) (tgt := 17) X d_Row_isFull_13 rfl ?_
    cases h
    exact x_zret (pc := 17) X hR d_Row_isFull_17 (Or.inr rfl)
def m_Row_add_W32 (x1 : Int) (mn : Int) (nu : Int → Int) : Option (Int × Int × (Int → Int)) :=
  clt mn 0 (some (mn, mn, nu)) (clt mn 32 (gd (zx mn 32) (some ((mn + 1), (mn + 1), (uf nu mn x1)))) (some (mn, mn, nu)))
set_option maxHeartbeats 4000000 in
set_option maxRecDepth 100000 in
theorem c_Row_add_W32 (l : Launch) (D : va_G) (cI cB : ClassId) (a0 a1 : Nat) (mn : Int) (nu : Int → Int) (x1 : Int) {o : Int × Int × (Int → Int)} (h : m_Row_add_W32 x1 mn nu = some o) : Ct l D cI cB y_Row_add b_Row_add 2 (some .int) { frames := 0, cells := 0, slots := 0, locals := 0 } [.ref a0, .int (zi x1)] (w_W32 cI cB a0 a1 mn nu) (w_W32 cI cB a0 a1 o.2.1 o.2.2) (some (.int (zi o.1))) := by
  refine Ct.start (by decide) (Nat.le_of_ble_eq_true rfl) (fun G X hR => ?_)
  refine x_ls (ls2 := [(0, .ref a0), (1, .int (zi x1))]) [0, 1] rfl ?_
  unfold m_Row_add_W32 at h
  refine x_aload_n (pc := 0) X d_Row_add_0 0 rfl rfl ?_
  refine x_get (pc := 1) X d_Row_add_1 0 rfl fl_Row_21 rfl ?_
  refine x_iflt (pc := 4) (tgt := 39) X d_Row_add_4 rfl h (fun h => ?_) (fun h => ?_)
  · skip
    refine x_aload_n (pc := 39) X d_Row_add_39 0 rfl rfl ?_
    refine x_get (pc := 40) X d_Row_add_40 0 rfl fl_Row_21 rfl ?_
    cases h
    exact x_iret (pc := 43) X hR d_Row_add_43
  · skip
    refine x_aload_n (pc := 7) X d_Row_add_7 0 rfl rfl ?_
    refine x_get (pc := 8) X d_Row_add_8 0 rfl fl_Row_21 rfl ?_
    refine x_aload_n (pc := 11) X d_Row_add_11 0 rfl rfl ?_
    refine x_get (pc := 12) X d_Row_add_12 0 rfl fl_Row_15 rfl ?_
    refine x_alen (pc := 15) (M := 32) X d_Row_add_15 1 rfl rfl ?_
    refine x_icmpge (pc := 16) (tgt := 39) X d_Row_add_16 rfl h (fun h => ?_) (fun h => ?_)
    · skip
      refine x_aload_n (pc := 39) X d_Row_add_39 0 rfl rfl ?_
      refine x_get (pc := 40) X d_Row_add_40 0 rfl fl_Row_21 rfl ?_
      cases h
      exact x_iret (pc := 43) X hR d_Row_add_43
    · skip
      refine x_aload_n (pc := 19) X d_Row_add_19 0 rfl rfl ?_
      refine x_get (pc := 20) X d_Row_add_20 0 rfl fl_Row_15 rfl ?_
      refine x_aload_n (pc := 23) X d_Row_add_23 0 rfl rfl ?_
      refine x_get (pc := 24) X d_Row_add_24 0 rfl fl_Row_21 rfl ?_
      refine x_iload_n (pc := 27) X d_Row_add_27 1 rfl rfl ?_
      refine x_iast (pc := 28) (w2 := (w_W32 cI cB a0 a1 mn (uf nu mn x1))) X d_Row_add_28 1 rfl (Nat.le_of_ble_eq_true rfl) rfl rfl h (fun h => ?_)
      refine x_aload_n (pc := 29) X d_Row_add_29 0 rfl rfl ?_
      refine x_dup (pc := 30) X d_Row_add_30 rfl ?_
      refine x_get (pc := 31) X d_Row_add_31 0 rfl fl_Row_21 rfl ?_
      refine x_iconst (pc := 34) X d_Row_add_34  ?_
      refine x_iadd (pc := 35) X d_Row_add_35  ?_
      refine x_put (pc := 36) (w2 := (w_W32 cI cB a0 a1 (mn + 1) (uf nu mn x1))) X d_Row_add_36 0 rfl (fp_Row_21 _) (Nat.le_of_ble_eq_true rfl) rfl ?_
      refine x_aload_n (pc := 39) X d_Row_add_39 0 rfl rfl ?_
      refine x_get (pc := 40) X d_Row_add_40 0 rfl fl_Row_21 rfl ?_
      cases h
      exact x_iret (pc := 43) X hR d_Row_add_43
def m_Row_empty_W32  (mn : Int) : Option (Int) :=
  some (0)
set_option maxHeartbeats 4000000 in
set_option maxRecDepth 100000 in
theorem c_Row_empty_W32 (l : Launch) (D : va_G) (cI cB : ClassId) (a0 a1 : Nat) (mn : Int) (nu : Int → Int)  {o : Int} (h : m_Row_empty_W32 mn = some o) : Ct l D cI cB y_Row_empty b_Row_empty 1 none { frames := 0, cells := 0, slots := 0, locals := 0 } [.ref a0] (w_W32 cI cB a0 a1 mn nu) (w_W32 cI cB a0 a1 o nu) none := by
  refine Ct.start (by decide) (Nat.le_of_ble_eq_true rfl) (fun G X hR => ?_)
  refine x_ls (ls2 := [(0, .ref a0)]) [0] rfl ?_
  unfold m_Row_empty_W32 at h
  refine x_aload_n (pc := 0) X d_Row_empty_0 0 rfl rfl ?_
  refine x_iconst (pc := 1) X d_Row_empty_1  ?_
  refine x_put (pc := 2) (w2 := (w_W32 cI cB a0 a1 0 nu)) X d_Row_empty_2 0 rfl (fp_Row_21 _) (Nat.le_of_ble_eq_true rfl) rfl ?_
  cases h
  exact x_vret (pc := 5) X hR d_Row_empty_5
theorem d_Mod_bound_0 : decode b_Mod_bound 0 = .ok (.iload_n 0, 1) := by decide +kernel
theorem d_Mod_bound_1 : decode b_Mod_bound 1 = .ok (.iload_n 1, 1) := by decide +kernel
theorem d_Mod_bound_2 : decode b_Mod_bound 2 = .ok (.if_icmp .ge 8, 3) := by decide +kernel
theorem d_Mod_bound_5 : decode b_Mod_bound 5 = .ok (.bipush (-4), 2) := by decide +kernel
theorem d_Mod_bound_7 : decode b_Mod_bound 7 = .ok (.goto 14, 3) := by decide +kernel
theorem d_Mod_bound_10 : decode b_Mod_bound 10 = .ok (.iload_n 0, 1) := by decide +kernel
theorem d_Mod_bound_11 : decode b_Mod_bound 11 = .ok (.iload_n 2, 1) := by decide +kernel
theorem d_Mod_bound_12 : decode b_Mod_bound 12 = .ok (.if_icmp .le 8, 3) := by decide +kernel
theorem d_Mod_bound_15 : decode b_Mod_bound 15 = .ok (.bipush (-6), 2) := by decide +kernel
theorem d_Mod_bound_17 : decode b_Mod_bound 17 = .ok (.goto 4, 3) := by decide +kernel
theorem d_Mod_bound_20 : decode b_Mod_bound 20 = .ok (.iconst 0, 1) := by decide +kernel
theorem d_Mod_bound_21 : decode b_Mod_bound 21 = .ok (.ireturn, 1) := by decide +kernel
def m_Mod_bound (x0 : Int) (x1 : Int) (x2 : Int)  : Option (Int) :=
  clt x0 x1 (some ((-4))) (cle x0 x2 (some (0)) (some ((-6))))
set_option maxHeartbeats 4000000 in
set_option maxRecDepth 100000 in
theorem c_Mod_bound (l : Launch) (D : va_G) (cI cB : ClassId)   (x0 : Int) (x1 : Int) (x2 : Int) {o : Int} (h : m_Mod_bound x0 x1 x2 = some o) : Ct l D cI cB y_Mod_bound b_Mod_bound 3 (some .int) { frames := 0, cells := 0, slots := 0, locals := 0 } [.int (zi x0), .int (zi x1), .int (zi x2)] [] [] (some (.int (zi o))) := by
  refine Ct.start (by decide) (Nat.le_of_ble_eq_true rfl) (fun G X hR => ?_)
  refine x_ls (ls2 := [(0, .int (zi x0)), (1, .int (zi x1)), (2, .int (zi x2))]) [0, 1, 2] rfl ?_
  unfold m_Mod_bound at h
  refine x_iload_n (pc := 0) X d_Mod_bound_0 0 rfl rfl ?_
  refine x_iload_n (pc := 1) X d_Mod_bound_1 1 rfl rfl ?_
  refine x_icmpge (pc := 2) (tgt := 10) X d_Mod_bound_2 rfl h (fun h => ?_) (fun h => ?_)
  · skip
    refine x_iload_n (pc := 10) X d_Mod_bound_10 0 rfl rfl ?_
    refine x_iload_n (pc := 11) X d_Mod_bound_11 2 rfl rfl ?_
    refine x_icmple (pc := 12) (tgt := 20) X d_Mod_bound_12 rfl h (fun h => ?_) (fun h => ?_)
    · skip
      refine x_iconst (pc := 20) X d_Mod_bound_20  ?_
      cases h
      exact x_iret (pc := 21) X hR d_Mod_bound_21
    · skip
      refine x_bipush (pc := 15) (v := -6) X d_Mod_bound_15 rfl ?_
      refine x_goto (pc := 17) (tgt := 21) X d_Mod_bound_17 rfl ?_
      cases h
      exact x_iret (pc := 21) X hR d_Mod_bound_21
  · skip
    refine x_bipush (pc := 5) (v := -4) X d_Mod_bound_5 rfl ?_
    refine x_goto (pc := 7) (tgt := 21) X d_Mod_bound_7 rfl ?_
    cases h
    exact x_iret (pc := 21) X hR d_Mod_bound_21
theorem d_Mod_isIn_0 : decode b_Mod_isIn 0 = .ok (.iload_n 0, 1) := by decide +kernel
theorem d_Mod_isIn_1 : decode b_Mod_isIn 1 = .ok (.iload_n 1, 1) := by decide +kernel
theorem d_Mod_isIn_2 : decode b_Mod_isIn 2 = .ok (.if_icmp .lt 12, 3) := by decide +kernel
theorem d_Mod_isIn_5 : decode b_Mod_isIn 5 = .ok (.iload_n 0, 1) := by decide +kernel
theorem d_Mod_isIn_6 : decode b_Mod_isIn 6 = .ok (.iload_n 2, 1) := by decide +kernel
theorem d_Mod_isIn_7 : decode b_Mod_isIn 7 = .ok (.if_icmp .gt 7, 3) := by decide +kernel
theorem d_Mod_isIn_10 : decode b_Mod_isIn 10 = .ok (.iconst 1, 1) := by decide +kernel
theorem d_Mod_isIn_11 : decode b_Mod_isIn 11 = .ok (.goto 4, 3) := by decide +kernel
theorem d_Mod_isIn_14 : decode b_Mod_isIn 14 = .ok (.iconst 0, 1) := by decide +kernel
theorem d_Mod_isIn_15 : decode b_Mod_isIn 15 = .ok (.ireturn, 1) := by decide +kernel
def m_Mod_isIn (x0 : Int) (x1 : Int) (x2 : Int)  : Option (Int) :=
  clt x0 x1 (some (0)) (cle x0 x2 (some (1)) (some (0)))
set_option maxHeartbeats 4000000 in
set_option maxRecDepth 100000 in
theorem c_Mod_isIn (l : Launch) (D : va_G) (cI cB : ClassId)   (x0 : Int) (x1 : Int) (x2 : Int) {o : Int} (h : m_Mod_isIn x0 x1 x2 = some o) : Ct l D cI cB y_Mod_isIn b_Mod_isIn 3 (some .boolean) { frames := 0, cells := 0, slots := 0, locals := 0 } [.int (zi x0), .int (zi x1), .int (zi x2)] [] [] (some (.int (zi o))) := by
  refine Ct.start (by decide) (Nat.le_of_ble_eq_true rfl) (fun G X hR => ?_)
  refine x_ls (ls2 := [(0, .int (zi x0)), (1, .int (zi x1)), (2, .int (zi x2))]) [0, 1, 2] rfl ?_
  unfold m_Mod_isIn at h
  refine x_iload_n (pc := 0) X d_Mod_isIn_0 0 rfl rfl ?_
  refine x_iload_n (pc := 1) X d_Mod_isIn_1 1 rfl rfl ?_
  refine x_icmplt (pc := 2) (tgt := 14) X d_Mod_isIn_2 rfl h (fun h => ?_) (fun h => ?_)
  · skip
    refine x_iconst (pc := 14) X d_Mod_isIn_14  ?_
    cases h
    exact x_zret (pc := 15) X hR d_Mod_isIn_15 (Or.inl rfl)
  · skip
    refine x_iload_n (pc := 5) X d_Mod_isIn_5 0 rfl rfl ?_
    refine x_iload_n (pc := 6) X d_Mod_isIn_6 2 rfl rfl ?_
    refine x_icmpgt (pc := 7) (tgt := 14) X d_Mod_isIn_7 rfl h (fun h => ?_) (fun h => ?_)
    · skip
      refine x_iconst (pc := 14) X d_Mod_isIn_14  ?_
      cases h
      exact x_zret (pc := 15) X hR d_Mod_isIn_15 (Or.inl rfl)
    · skip
      refine x_iconst (pc := 10) X d_Mod_isIn_10  ?_
      refine x_goto (pc := 11) (tgt := 15) X d_Mod_isIn_11 rfl ?_
      cases h
      exact x_zret (pc := 15) X hR d_Mod_isIn_15 (Or.inr rfl)
theorem d_Mod_kindTold_0 : decode b_Mod_kindTold 0 = .ok (.iload_n 0, 1) := by decide +kernel
theorem d_Mod_kindTold_1 : decode b_Mod_kindTold 1 = .ok (.tableswitch 95 99 115 #[93, 95, 95, 95, 89, 91, 95, 95, 95, 95, 95, 85, 95, 83, 95, 95, 87], 83) := by decide +kernel
theorem d_Mod_kindTold_84 : decode b_Mod_kindTold 84 = .ok (.iconst 0, 1) := by decide +kernel
theorem d_Mod_kindTold_85 : decode b_Mod_kindTold 85 = .ok (.ireturn, 1) := by decide +kernel
theorem d_Mod_kindTold_86 : decode b_Mod_kindTold 86 = .ok (.iconst 1, 1) := by decide +kernel
theorem d_Mod_kindTold_87 : decode b_Mod_kindTold 87 = .ok (.ireturn, 1) := by decide +kernel
theorem d_Mod_kindTold_88 : decode b_Mod_kindTold 88 = .ok (.iconst 2, 1) := by decide +kernel
theorem d_Mod_kindTold_89 : decode b_Mod_kindTold 89 = .ok (.ireturn, 1) := by decide +kernel
theorem d_Mod_kindTold_90 : decode b_Mod_kindTold 90 = .ok (.iconst 3, 1) := by decide +kernel
theorem d_Mod_kindTold_91 : decode b_Mod_kindTold 91 = .ok (.ireturn, 1) := by decide +kernel
theorem d_Mod_kindTold_92 : decode b_Mod_kindTold 92 = .ok (.iconst 4, 1) := by decide +kernel
theorem d_Mod_kindTold_93 : decode b_Mod_kindTold 93 = .ok (.ireturn, 1) := by decide +kernel
theorem d_Mod_kindTold_94 : decode b_Mod_kindTold 94 = .ok (.iconst 5, 1) := by decide +kernel
theorem d_Mod_kindTold_95 : decode b_Mod_kindTold 95 = .ok (.ireturn, 1) := by decide +kernel
theorem d_Mod_kindTold_96 : decode b_Mod_kindTold 96 = .ok (.bipush (-9), 2) := by decide +kernel
theorem d_Mod_kindTold_98 : decode b_Mod_kindTold 98 = .ok (.ireturn, 1) := by decide +kernel
def m_Mod_kindTold (x0 : Int)  : Option (Int) :=
  ceq x0 99 (some (5)) (ceq x0 103 (some (3)) (ceq x0 104 (some (4)) (ceq x0 110 (some (1)) (ceq x0 112 (some (0)) (ceq x0 115 (some (2)) (some ((-9))))))))
set_option maxHeartbeats 4000000 in
set_option maxRecDepth 100000 in
theorem c_Mod_kindTold (l : Launch) (D : va_G) (cI cB : ClassId)   (x0 : Int) {o : Int} (h : m_Mod_kindTold x0 = some o) : Ct l D cI cB y_Mod_kindTold b_Mod_kindTold 1 (some .int) { frames := 0, cells := 0, slots := 0, locals := 0 } [.int (zi x0)] [] [] (some (.int (zi o))) := by
  refine Ct.start (by decide) (Nat.le_of_ble_eq_true rfl) (fun G X hR => ?_)
  refine x_ls (ls2 := [(0, .int (zi x0))]) [0] rfl ?_
  unfold m_Mod_kindTold at h
  refine x_iload_n (pc := 0) X d_Mod_kindTold_0 0 rfl rfl ?_
  obtain ⟨hz, h⟩ := ceq_e h
  rcases h with ⟨e0, h⟩ | ⟨n0, h⟩
  · refine x_tsIn (pc := 1) (v := 99) (tgt := 94) X d_Mod_kindTold_1 e0 ⟨by decide, by decide⟩ (by decide) (by decide) rfl rfl ?_
    refine x_iconst (pc := 94) X d_Mod_kindTold_94  ?_
    cases h
    exact x_iret (pc := 95) X hR d_Mod_kindTold_95
  obtain ⟨hz, h⟩ := ceq_e h
  rcases h with ⟨e1, h⟩ | ⟨n1, h⟩
  · refine x_tsIn (pc := 1) (v := 103) (tgt := 90) X d_Mod_kindTold_1 e1 ⟨by decide, by decide⟩ (by decide) (by decide) rfl rfl ?_
    refine x_iconst (pc := 90) X d_Mod_kindTold_90  ?_
    cases h
    exact x_iret (pc := 91) X hR d_Mod_kindTold_91
  obtain ⟨hz, h⟩ := ceq_e h
  rcases h with ⟨e2, h⟩ | ⟨n2, h⟩
  · refine x_tsIn (pc := 1) (v := 104) (tgt := 92) X d_Mod_kindTold_1 e2 ⟨by decide, by decide⟩ (by decide) (by decide) rfl rfl ?_
    refine x_iconst (pc := 92) X d_Mod_kindTold_92  ?_
    cases h
    exact x_iret (pc := 93) X hR d_Mod_kindTold_93
  obtain ⟨hz, h⟩ := ceq_e h
  rcases h with ⟨e3, h⟩ | ⟨n3, h⟩
  · refine x_tsIn (pc := 1) (v := 110) (tgt := 86) X d_Mod_kindTold_1 e3 ⟨by decide, by decide⟩ (by decide) (by decide) rfl rfl ?_
    refine x_iconst (pc := 86) X d_Mod_kindTold_86  ?_
    cases h
    exact x_iret (pc := 87) X hR d_Mod_kindTold_87
  obtain ⟨hz, h⟩ := ceq_e h
  rcases h with ⟨e4, h⟩ | ⟨n4, h⟩
  · refine x_tsIn (pc := 1) (v := 112) (tgt := 84) X d_Mod_kindTold_1 e4 ⟨by decide, by decide⟩ (by decide) (by decide) rfl rfl ?_
    refine x_iconst (pc := 84) X d_Mod_kindTold_84  ?_
    cases h
    exact x_iret (pc := 85) X hR d_Mod_kindTold_85
  obtain ⟨hz, h⟩ := ceq_e h
  rcases h with ⟨e5, h⟩ | ⟨n5, h⟩
  · refine x_tsIn (pc := 1) (v := 115) (tgt := 88) X d_Mod_kindTold_1 e5 ⟨by decide, by decide⟩ (by decide) (by decide) rfl rfl ?_
    refine x_iconst (pc := 88) X d_Mod_kindTold_88  ?_
    cases h
    exact x_iret (pc := 89) X hR d_Mod_kindTold_89
  have hd0 : Wx G 0 0 96 [(0, .int (zi x0))] [] [] := by
    refine x_bipush (pc := 96) (v := -9) X d_Mod_kindTold_96 rfl ?_
    cases h
    exact x_iret (pc := 98) X hR d_Mod_kindTold_98
  rcases (by omega : (x0 < 99 ∨ 115 < x0) ∨ x0 = 100 ∨ x0 = 101 ∨ x0 = 102 ∨ x0 = 105 ∨ x0 = 106 ∨ x0 = 107 ∨ x0 = 108 ∨ x0 = 109 ∨ x0 = 111 ∨ x0 = 113 ∨ x0 = 114) with hh | e100 | e101 | e102 | e105 | e106 | e107 | e108 | e109 | e111 | e113 | e114
  · exact x_tsOut (pc := 1) (tgt := 96) X d_Mod_kindTold_1 hz.1 hh rfl hd0
  · exact x_tsIn (pc := 1) (v := 100) (tgt := 96) X d_Mod_kindTold_1 e100 ⟨by decide, by decide⟩ (by decide) (by decide) rfl rfl hd0
  · exact x_tsIn (pc := 1) (v := 101) (tgt := 96) X d_Mod_kindTold_1 e101 ⟨by decide, by decide⟩ (by decide) (by decide) rfl rfl hd0
  · exact x_tsIn (pc := 1) (v := 102) (tgt := 96) X d_Mod_kindTold_1 e102 ⟨by decide, by decide⟩ (by decide) (by decide) rfl rfl hd0
  · exact x_tsIn (pc := 1) (v := 105) (tgt := 96) X d_Mod_kindTold_1 e105 ⟨by decide, by decide⟩ (by decide) (by decide) rfl rfl hd0
  · exact x_tsIn (pc := 1) (v := 106) (tgt := 96) X d_Mod_kindTold_1 e106 ⟨by decide, by decide⟩ (by decide) (by decide) rfl rfl hd0
  · exact x_tsIn (pc := 1) (v := 107) (tgt := 96) X d_Mod_kindTold_1 e107 ⟨by decide, by decide⟩ (by decide) (by decide) rfl rfl hd0
  · exact x_tsIn (pc := 1) (v := 108) (tgt := 96) X d_Mod_kindTold_1 e108 ⟨by decide, by decide⟩ (by decide) (by decide) rfl rfl hd0
  · exact x_tsIn (pc := 1) (v := 109) (tgt := 96) X d_Mod_kindTold_1 e109 ⟨by decide, by decide⟩ (by decide) (by decide) rfl rfl hd0
  · exact x_tsIn (pc := 1) (v := 111) (tgt := 96) X d_Mod_kindTold_1 e111 ⟨by decide, by decide⟩ (by decide) (by decide) rfl rfl hd0
  · exact x_tsIn (pc := 1) (v := 113) (tgt := 96) X d_Mod_kindTold_1 e113 ⟨by decide, by decide⟩ (by decide) (by decide) rfl rfl hd0
  · exact x_tsIn (pc := 1) (v := 114) (tgt := 96) X d_Mod_kindTold_1 e114 ⟨by decide, by decide⟩ (by decide) (by decide) rfl rfl hd0
theorem d_Mod_isFile_0 : decode b_Mod_isFile 0 = .ok (.iload_n 0, 1) := by decide +kernel
theorem d_Mod_isFile_1 : decode b_Mod_isFile 1 = .ok (.iconst 0, 1) := by decide +kernel
theorem d_Mod_isFile_2 : decode b_Mod_isFile 2 = .ok (.iconst 3, 1) := by decide +kernel
theorem d_Mod_isFile_3 : decode b_Mod_isFile 3 = .ok (.invokestatic 58, 3) := by decide +kernel
theorem d_Mod_isFile_6 : decode b_Mod_isFile 6 = .ok (.ireturn, 1) := by decide +kernel
def m_Mod_isFile (x0 : Int)  : Option (Int) :=
  bnd (m_Mod_isIn x0 0 3) (fun r1 => gd (zb r1) (some (r1)))
set_option maxHeartbeats 4000000 in
set_option maxRecDepth 100000 in
theorem c_Mod_isFile (l : Launch) (D : va_G) (cI cB : ClassId)   (x0 : Int) {o : Int} (h : m_Mod_isFile x0 = some o) : Ct l D cI cB y_Mod_isFile b_Mod_isFile 1 (some .boolean) { frames := 1, cells := 0, slots := 0, locals := 22 } [.int (zi x0)] [] [] (some (.int (zi o))) := by
  refine Ct.start (by decide) (Nat.le_of_ble_eq_true rfl) (fun G X hR => ?_)
  refine x_ls (ls2 := [(0, .int (zi x0))]) [0] rfl ?_
  unfold m_Mod_isFile at h
  refine x_iload_n (pc := 0) X d_Mod_isFile_0 0 rfl rfl ?_
  refine x_iconst (pc := 1) X d_Mod_isFile_1  ?_
  refine x_iconst (pc := 2) X d_Mod_isFile_2  ?_
  obtain ⟨r1, h2, h⟩ := bnd_e h
  refine x_callS (pc := 3) (As := [.int (zi x0), .int (zi 0), .int (zi 3)]) (rest := []) (w2 := []) X d_Mod_isFile_3 lk_Mod_58 mv_Mod_isIn (c_Mod_isIn l D cI cB x0 0 3 h2) ⟨(Nat.le_of_ble_eq_true rfl), (Nat.le_of_ble_eq_true rfl), (Nat.le_of_ble_eq_true rfl), (Nat.le_of_ble_eq_true rfl)⟩ [] rfl rfl rfl (Up.same rfl) rfl rfl (Nat.le_of_ble_eq_true rfl) ?_
  obtain ⟨hz0, h⟩ := gd_e h
  cases h
  exact x_zret (pc := 6) X hR d_Mod_isFile_6 hz0
theorem d_Mod_apart_0 : decode b_Mod_apart 0 = .ok (.iload_n 0, 1) := by decide +kernel
theorem d_Mod_apart_1 : decode b_Mod_apart 1 = .ok (.iload_n 1, 1) := by decide +kernel
theorem d_Mod_apart_2 : decode b_Mod_apart 2 = .ok (.if_icmp .ge 9, 3) := by decide +kernel
theorem d_Mod_apart_5 : decode b_Mod_apart 5 = .ok (.iload_n 1, 1) := by decide +kernel
theorem d_Mod_apart_6 : decode b_Mod_apart 6 = .ok (.iload_n 0, 1) := by decide +kernel
theorem d_Mod_apart_7 : decode b_Mod_apart 7 = .ok (.isub, 1) := by decide +kernel
theorem d_Mod_apart_8 : decode b_Mod_apart 8 = .ok (.goto 6, 3) := by decide +kernel
theorem d_Mod_apart_11 : decode b_Mod_apart 11 = .ok (.iload_n 0, 1) := by decide +kernel
theorem d_Mod_apart_12 : decode b_Mod_apart 12 = .ok (.iload_n 1, 1) := by decide +kernel
theorem d_Mod_apart_13 : decode b_Mod_apart 13 = .ok (.isub, 1) := by decide +kernel
theorem d_Mod_apart_14 : decode b_Mod_apart 14 = .ok (.ireturn, 1) := by decide +kernel
def m_Mod_apart (x0 : Int) (x1 : Int)  : Option (Int) :=
  clt x0 x1 (some ((x1 - x0))) (some ((x0 - x1)))
set_option maxHeartbeats 4000000 in
set_option maxRecDepth 100000 in
theorem c_Mod_apart (l : Launch) (D : va_G) (cI cB : ClassId)   (x0 : Int) (x1 : Int) {o : Int} (h : m_Mod_apart x0 x1 = some o) : Ct l D cI cB y_Mod_apart b_Mod_apart 2 (some .int) { frames := 0, cells := 0, slots := 0, locals := 0 } [.int (zi x0), .int (zi x1)] [] [] (some (.int (zi o))) := by
  refine Ct.start (by decide) (Nat.le_of_ble_eq_true rfl) (fun G X hR => ?_)
  refine x_ls (ls2 := [(0, .int (zi x0)), (1, .int (zi x1))]) [0, 1] rfl ?_
  unfold m_Mod_apart at h
  refine x_iload_n (pc := 0) X d_Mod_apart_0 0 rfl rfl ?_
  refine x_iload_n (pc := 1) X d_Mod_apart_1 1 rfl rfl ?_
  refine x_icmpge (pc := 2) (tgt := 11) X d_Mod_apart_2 rfl h (fun h => ?_) (fun h => ?_)
  · skip
    refine x_iload_n (pc := 11) X d_Mod_apart_11 0 rfl rfl ?_
    refine x_iload_n (pc := 12) X d_Mod_apart_12 1 rfl rfl ?_
    refine x_isub (pc := 13) X d_Mod_apart_13  ?_
    cases h
    exact x_iret (pc := 14) X hR d_Mod_apart_14
  · skip
    refine x_iload_n (pc := 5) X d_Mod_apart_5 1 rfl rfl ?_
    refine x_iload_n (pc := 6) X d_Mod_apart_6 0 rfl rfl ?_
    refine x_isub (pc := 7) X d_Mod_apart_7  ?_
    refine x_goto (pc := 8) (tgt := 14) X d_Mod_apart_8 rfl ?_
    cases h
    exact x_iret (pc := 14) X hR d_Mod_apart_14
theorem d_Mod_isPage_0 : decode b_Mod_isPage 0 = .ok (.iload_n 0, 1) := by decide +kernel
theorem d_Mod_isPage_1 : decode b_Mod_isPage 1 = .ok (.iconst 0, 1) := by decide +kernel
theorem d_Mod_isPage_2 : decode b_Mod_isPage 2 = .ok (.bipush 23, 2) := by decide +kernel
theorem d_Mod_isPage_4 : decode b_Mod_isPage 4 = .ok (.invokestatic 58, 3) := by decide +kernel
theorem d_Mod_isPage_7 : decode b_Mod_isPage 7 = .ok (.ireturn, 1) := by decide +kernel
def m_Mod_isPage (x0 : Int)  : Option (Int) :=
  bnd (m_Mod_isIn x0 0 23) (fun r1 => gd (zb r1) (some (r1)))
set_option maxHeartbeats 4000000 in
set_option maxRecDepth 100000 in
theorem c_Mod_isPage (l : Launch) (D : va_G) (cI cB : ClassId)   (x0 : Int) {o : Int} (h : m_Mod_isPage x0 = some o) : Ct l D cI cB y_Mod_isPage b_Mod_isPage 1 (some .boolean) { frames := 1, cells := 0, slots := 0, locals := 22 } [.int (zi x0)] [] [] (some (.int (zi o))) := by
  refine Ct.start (by decide) (Nat.le_of_ble_eq_true rfl) (fun G X hR => ?_)
  refine x_ls (ls2 := [(0, .int (zi x0))]) [0] rfl ?_
  unfold m_Mod_isPage at h
  refine x_iload_n (pc := 0) X d_Mod_isPage_0 0 rfl rfl ?_
  refine x_iconst (pc := 1) X d_Mod_isPage_1  ?_
  refine x_bipush (pc := 2) (v := 23) X d_Mod_isPage_2 rfl ?_
  obtain ⟨r1, h2, h⟩ := bnd_e h
  refine x_callS (pc := 4) (As := [.int (zi x0), .int (zi 0), .int (zi 23)]) (rest := []) (w2 := []) X d_Mod_isPage_4 lk_Mod_58 mv_Mod_isIn (c_Mod_isIn l D cI cB x0 0 23 h2) ⟨(Nat.le_of_ble_eq_true rfl), (Nat.le_of_ble_eq_true rfl), (Nat.le_of_ble_eq_true rfl), (Nat.le_of_ble_eq_true rfl)⟩ [] rfl rfl rfl (Up.same rfl) rfl rfl (Nat.le_of_ble_eq_true rfl) ?_
  obtain ⟨hz0, h⟩ := gd_e h
  cases h
  exact x_zret (pc := 7) X hR d_Mod_isPage_7 hz0
theorem d_Mod_isSeries_0 : decode b_Mod_isSeries 0 = .ok (.iload_n 1, 1) := by decide +kernel
theorem d_Mod_isSeries_1 : decode b_Mod_isSeries 1 = .ok (.iconst 1, 1) := by decide +kernel
theorem d_Mod_isSeries_2 : decode b_Mod_isSeries 2 = .ok (.if_icmp .lt 15, 3) := by decide +kernel
theorem d_Mod_isSeries_5 : decode b_Mod_isSeries 5 = .ok (.iload_n 0, 1) := by decide +kernel
theorem d_Mod_isSeries_6 : decode b_Mod_isSeries 6 = .ok (.iload_n 1, 1) := by decide +kernel
theorem d_Mod_isSeries_7 : decode b_Mod_isSeries 7 = .ok (.iadd, 1) := by decide +kernel
theorem d_Mod_isSeries_8 : decode b_Mod_isSeries 8 = .ok (.bipush 24, 2) := by decide +kernel
theorem d_Mod_isSeries_10 : decode b_Mod_isSeries 10 = .ok (.if_icmp .gt 7, 3) := by decide +kernel
theorem d_Mod_isSeries_13 : decode b_Mod_isSeries 13 = .ok (.iconst 1, 1) := by decide +kernel
theorem d_Mod_isSeries_14 : decode b_Mod_isSeries 14 = .ok (.goto 4, 3) := by decide +kernel
theorem d_Mod_isSeries_17 : decode b_Mod_isSeries 17 = .ok (.iconst 0, 1) := by decide +kernel
theorem d_Mod_isSeries_18 : decode b_Mod_isSeries 18 = .ok (.ireturn, 1) := by decide +kernel
def m_Mod_isSeries (x0 : Int) (x1 : Int)  : Option (Int) :=
  clt x1 1 (some (0)) (cle (x0 + x1) 24 (some (1)) (some (0)))
set_option maxHeartbeats 4000000 in
set_option maxRecDepth 100000 in
theorem c_Mod_isSeries (l : Launch) (D : va_G) (cI cB : ClassId)   (x0 : Int) (x1 : Int) {o : Int} (h : m_Mod_isSeries x0 x1 = some o) : Ct l D cI cB y_Mod_isSeries b_Mod_isSeries 2 (some .boolean) { frames := 0, cells := 0, slots := 0, locals := 0 } [.int (zi x0), .int (zi x1)] [] [] (some (.int (zi o))) := by
  refine Ct.start (by decide) (Nat.le_of_ble_eq_true rfl) (fun G X hR => ?_)
  refine x_ls (ls2 := [(0, .int (zi x0)), (1, .int (zi x1))]) [0, 1] rfl ?_
  unfold m_Mod_isSeries at h
  refine x_iload_n (pc := 0) X d_Mod_isSeries_0 1 rfl rfl ?_
  refine x_iconst (pc := 1) X d_Mod_isSeries_1  ?_
  refine x_icmplt (pc := 2) (tgt := 17) X d_Mod_isSeries_2 rfl h (fun h => ?_) (fun h => ?_)
  · skip
    refine x_iconst (pc := 17) X d_Mod_isSeries_17  ?_
    cases h
    exact x_zret (pc := 18) X hR d_Mod_isSeries_18 (Or.inl rfl)
  · skip
    refine x_iload_n (pc := 5) X d_Mod_isSeries_5 0 rfl rfl ?_
    refine x_iload_n (pc := 6) X d_Mod_isSeries_6 1 rfl rfl ?_
    refine x_iadd (pc := 7) X d_Mod_isSeries_7  ?_
    refine x_bipush (pc := 8) (v := 24) X d_Mod_isSeries_8 rfl ?_
    refine x_icmpgt (pc := 10) (tgt := 17) X d_Mod_isSeries_10 rfl h (fun h => ?_) (fun h => ?_)
    · skip
      refine x_iconst (pc := 17) X d_Mod_isSeries_17  ?_
      cases h
      exact x_zret (pc := 18) X hR d_Mod_isSeries_18 (Or.inl rfl)
    · skip
      refine x_iconst (pc := 13) X d_Mod_isSeries_13  ?_
      refine x_goto (pc := 14) (tgt := 18) X d_Mod_isSeries_14 rfl ?_
      cases h
      exact x_zret (pc := 18) X hR d_Mod_isSeries_18 (Or.inr rfl)
theorem d_Mod_depthOf_0 : decode b_Mod_depthOf 0 = .ok (.iload_n 0, 1) := by decide +kernel
theorem d_Mod_depthOf_1 : decode b_Mod_depthOf 1 = .ok (.iconst 4, 1) := by decide +kernel
theorem d_Mod_depthOf_2 : decode b_Mod_depthOf 2 = .ok (.if_icmp .gt 7, 3) := by decide +kernel
theorem d_Mod_depthOf_5 : decode b_Mod_depthOf 5 = .ok (.iconst 0, 1) := by decide +kernel
theorem d_Mod_depthOf_6 : decode b_Mod_depthOf 6 = .ok (.goto 14, 3) := by decide +kernel
theorem d_Mod_depthOf_9 : decode b_Mod_depthOf 9 = .ok (.iload_n 0, 1) := by decide +kernel
theorem d_Mod_depthOf_10 : decode b_Mod_depthOf 10 = .ok (.bipush 16, 2) := by decide +kernel
theorem d_Mod_depthOf_12 : decode b_Mod_depthOf 12 = .ok (.if_icmp .gt 7, 3) := by decide +kernel
theorem d_Mod_depthOf_15 : decode b_Mod_depthOf 15 = .ok (.iconst 1, 1) := by decide +kernel
theorem d_Mod_depthOf_16 : decode b_Mod_depthOf 16 = .ok (.goto 4, 3) := by decide +kernel
theorem d_Mod_depthOf_19 : decode b_Mod_depthOf 19 = .ok (.iconst 2, 1) := by decide +kernel
theorem d_Mod_depthOf_20 : decode b_Mod_depthOf 20 = .ok (.ireturn, 1) := by decide +kernel
def m_Mod_depthOf (x0 : Int)  : Option (Int) :=
  cle x0 4 (some (0)) (cle x0 16 (some (1)) (some (2)))
set_option maxHeartbeats 4000000 in
set_option maxRecDepth 100000 in
theorem c_Mod_depthOf (l : Launch) (D : va_G) (cI cB : ClassId)   (x0 : Int) {o : Int} (h : m_Mod_depthOf x0 = some o) : Ct l D cI cB y_Mod_depthOf b_Mod_depthOf 1 (some .int) { frames := 0, cells := 0, slots := 0, locals := 0 } [.int (zi x0)] [] [] (some (.int (zi o))) := by
  refine Ct.start (by decide) (Nat.le_of_ble_eq_true rfl) (fun G X hR => ?_)
  refine x_ls (ls2 := [(0, .int (zi x0))]) [0] rfl ?_
  unfold m_Mod_depthOf at h
  refine x_iload_n (pc := 0) X d_Mod_depthOf_0 0 rfl rfl ?_
  refine x_iconst (pc := 1) X d_Mod_depthOf_1  ?_
  refine x_icmpgt (pc := 2) (tgt := 9) X d_Mod_depthOf_2 rfl h (fun h => ?_) (fun h => ?_)
  · skip
    refine x_iload_n (pc := 9) X d_Mod_depthOf_9 0 rfl rfl ?_
    refine x_bipush (pc := 10) (v := 16) X d_Mod_depthOf_10 rfl ?_
    refine x_icmpgt (pc := 12) (tgt := 19) X d_Mod_depthOf_12 rfl h (fun h => ?_) (fun h => ?_)
    · skip
      refine x_iconst (pc := 19) X d_Mod_depthOf_19  ?_
      cases h
      exact x_iret (pc := 20) X hR d_Mod_depthOf_20
    · skip
      refine x_iconst (pc := 15) X d_Mod_depthOf_15  ?_
      refine x_goto (pc := 16) (tgt := 20) X d_Mod_depthOf_16 rfl ?_
      cases h
      exact x_iret (pc := 20) X hR d_Mod_depthOf_20
  · skip
    refine x_iconst (pc := 5) X d_Mod_depthOf_5  ?_
    refine x_goto (pc := 6) (tgt := 20) X d_Mod_depthOf_6 rfl ?_
    cases h
    exact x_iret (pc := 20) X hR d_Mod_depthOf_20
theorem d_Mod_isBlock_0 : decode b_Mod_isBlock 0 = .ok (.iload_n 0, 1) := by decide +kernel
theorem d_Mod_isBlock_1 : decode b_Mod_isBlock 1 = .ok (.iconst 0, 1) := by decide +kernel
theorem d_Mod_isBlock_2 : decode b_Mod_isBlock 2 = .ok (.bipush 63, 2) := by decide +kernel
theorem d_Mod_isBlock_4 : decode b_Mod_isBlock 4 = .ok (.invokestatic 58, 3) := by decide +kernel
theorem d_Mod_isBlock_7 : decode b_Mod_isBlock 7 = .ok (.ireturn, 1) := by decide +kernel
def m_Mod_isBlock (x0 : Int)  : Option (Int) :=
  bnd (m_Mod_isIn x0 0 63) (fun r1 => gd (zb r1) (some (r1)))
set_option maxHeartbeats 4000000 in
set_option maxRecDepth 100000 in
theorem c_Mod_isBlock (l : Launch) (D : va_G) (cI cB : ClassId)   (x0 : Int) {o : Int} (h : m_Mod_isBlock x0 = some o) : Ct l D cI cB y_Mod_isBlock b_Mod_isBlock 1 (some .boolean) { frames := 1, cells := 0, slots := 0, locals := 22 } [.int (zi x0)] [] [] (some (.int (zi o))) := by
  refine Ct.start (by decide) (Nat.le_of_ble_eq_true rfl) (fun G X hR => ?_)
  refine x_ls (ls2 := [(0, .int (zi x0))]) [0] rfl ?_
  unfold m_Mod_isBlock at h
  refine x_iload_n (pc := 0) X d_Mod_isBlock_0 0 rfl rfl ?_
  refine x_iconst (pc := 1) X d_Mod_isBlock_1  ?_
  refine x_bipush (pc := 2) (v := 63) X d_Mod_isBlock_2 rfl ?_
  obtain ⟨r1, h2, h⟩ := bnd_e h
  refine x_callS (pc := 4) (As := [.int (zi x0), .int (zi 0), .int (zi 63)]) (rest := []) (w2 := []) X d_Mod_isBlock_4 lk_Mod_58 mv_Mod_isIn (c_Mod_isIn l D cI cB x0 0 63 h2) ⟨(Nat.le_of_ble_eq_true rfl), (Nat.le_of_ble_eq_true rfl), (Nat.le_of_ble_eq_true rfl), (Nat.le_of_ble_eq_true rfl)⟩ [] rfl rfl rfl (Up.same rfl) rfl rfl (Nat.le_of_ble_eq_true rfl) ?_
  obtain ⟨hz0, h⟩ := gd_e h
  cases h
  exact x_zret (pc := 7) X hR d_Mod_isBlock_7 hz0
theorem d_Mod_isOrder_0 : decode b_Mod_isOrder 0 = .ok (.iconst 0, 1) := by decide +kernel
theorem d_Mod_isOrder_1 : decode b_Mod_isOrder 1 = .ok (.istore_n 1, 1) := by decide +kernel
theorem d_Mod_isOrder_2 : decode b_Mod_isOrder 2 = .ok (.iload_n 0, 1) := by decide +kernel
theorem d_Mod_isOrder_3 : decode b_Mod_isOrder 3 = .ok (.istore_n 2, 1) := by decide +kernel
theorem d_Mod_isOrder_4 : decode b_Mod_isOrder 4 = .ok (.iload_n 2, 1) := by decide +kernel
theorem d_Mod_isOrder_5 : decode b_Mod_isOrder 5 = .ok (.ifCond .le 36, 3) := by decide +kernel
theorem d_Mod_isOrder_8 : decode b_Mod_isOrder 8 = .ok (.iload_n 1, 1) := by decide +kernel
theorem d_Mod_isOrder_9 : decode b_Mod_isOrder 9 = .ok (.iload_n 2, 1) := by decide +kernel
theorem d_Mod_isOrder_10 : decode b_Mod_isOrder 10 = .ok (.bipush 10, 2) := by decide +kernel
theorem d_Mod_isOrder_12 : decode b_Mod_isOrder 12 = .ok (.irem, 1) := by decide +kernel
theorem d_Mod_isOrder_13 : decode b_Mod_isOrder 13 = .ok (.iconst 1, 1) := by decide +kernel
theorem d_Mod_isOrder_14 : decode b_Mod_isOrder 14 = .ok (.iconst 4, 1) := by decide +kernel
theorem d_Mod_isOrder_15 : decode b_Mod_isOrder 15 = .ok (.invokestatic 58, 3) := by decide +kernel
theorem d_Mod_isOrder_18 : decode b_Mod_isOrder 18 = .ok (.ifCond .eq 12, 3) := by decide +kernel
theorem d_Mod_isOrder_21 : decode b_Mod_isOrder 21 = .ok (.iconst 1, 1) := by decide +kernel
theorem d_Mod_isOrder_22 : decode b_Mod_isOrder 22 = .ok (.iload_n 2, 1) := by decide +kernel
theorem d_Mod_isOrder_23 : decode b_Mod_isOrder 23 = .ok (.bipush 10, 2) := by decide +kernel
theorem d_Mod_isOrder_25 : decode b_Mod_isOrder 25 = .ok (.irem, 1) := by decide +kernel
theorem d_Mod_isOrder_26 : decode b_Mod_isOrder 26 = .ok (.ishl, 1) := by decide +kernel
theorem d_Mod_isOrder_27 : decode b_Mod_isOrder 27 = .ok (.goto 4, 3) := by decide +kernel
theorem d_Mod_isOrder_30 : decode b_Mod_isOrder 30 = .ok (.iconst 1, 1) := by decide +kernel
theorem d_Mod_isOrder_31 : decode b_Mod_isOrder 31 = .ok (.ior, 1) := by decide +kernel
theorem d_Mod_isOrder_32 : decode b_Mod_isOrder 32 = .ok (.istore_n 1, 1) := by decide +kernel
theorem d_Mod_isOrder_33 : decode b_Mod_isOrder 33 = .ok (.iload_n 2, 1) := by decide +kernel
theorem d_Mod_isOrder_34 : decode b_Mod_isOrder 34 = .ok (.bipush 10, 2) := by decide +kernel
theorem d_Mod_isOrder_36 : decode b_Mod_isOrder 36 = .ok (.idiv, 1) := by decide +kernel
theorem d_Mod_isOrder_37 : decode b_Mod_isOrder 37 = .ok (.istore_n 2, 1) := by decide +kernel
theorem d_Mod_isOrder_38 : decode b_Mod_isOrder 38 = .ok (.goto (-34), 3) := by decide +kernel
theorem d_Mod_isOrder_41 : decode b_Mod_isOrder 41 = .ok (.iload_n 1, 1) := by decide +kernel
theorem d_Mod_isOrder_42 : decode b_Mod_isOrder 42 = .ok (.bipush 30, 2) := by decide +kernel
theorem d_Mod_isOrder_44 : decode b_Mod_isOrder 44 = .ok (.if_icmp .ne 7, 3) := by decide +kernel
theorem d_Mod_isOrder_47 : decode b_Mod_isOrder 47 = .ok (.iconst 1, 1) := by decide +kernel
theorem d_Mod_isOrder_48 : decode b_Mod_isOrder 48 = .ok (.goto 4, 3) := by decide +kernel
theorem d_Mod_isOrder_51 : decode b_Mod_isOrder 51 = .ok (.iconst 0, 1) := by decide +kernel
theorem d_Mod_isOrder_52 : decode b_Mod_isOrder 52 = .ok (.ireturn, 1) := by decide +kernel
def m_Mod_isOrder_4 : Nat → Int → Int → Option (Int)
  | 0, _, _ => none
  | fuel + 1, v1, v2 =>
  cle v2 0 (ceq v1 30 (some (1)) (some (0))) (gd (zx v2 2147483648 ∧ zp 10 2147483648) (bnd (m_Mod_isIn (v2 % 10) 1 4) (fun r1 => ceq r1 0 (gd (zx v2 2147483648 ∧ zp 10 2147483648) (m_Mod_isOrder_4 fuel (z_or v1 1) (v2 / 10))) (gd (zx v2 2147483648 ∧ zp 10 2147483648) (gd (zx v2 2147483648 ∧ zp 10 2147483648) (m_Mod_isOrder_4 fuel (z_or v1 (z_shl 1 (v2 % 10))) (v2 / 10)))))))
def m_Mod_isOrder (x0 : Int)  : Option (Int) :=
  m_Mod_isOrder_4 5000 0 x0
set_option maxHeartbeats 4000000 in
set_option maxRecDepth 100000 in
theorem l_Mod_isOrder_4 {G : GT} {l : Launch} {D : va_G} {cI cB : ClassId}   (X : Cx G l D cI cB b_Mod_isOrder y_Mod_isOrder.cls 3 { frames := 1, cells := 0, slots := 0, locals := 22 }) : ∀ (fuel : Nat) (v1 : Int) (v2 : Int) (o : Int), m_Mod_isOrder_4 fuel v1 v2 = some o → Rt G (some .boolean) (some (.int (zi o))) [] → Wx G 0 0 4 [(1, .int (zi v1)), (2, .int (zi v2))] [] [] := by
  intro fuel
  induction fuel with
  | zero =>
    intro v1 v2 o h
    exact absurd h (by simp [m_Mod_isOrder_4])
  | succ fuel ih =>
    intro v1 v2 o h hR
    rw [m_Mod_isOrder_4] at h
    refine x_iload_n (pc := 4) X d_Mod_isOrder_4 1 rfl rfl ?_
    refine x_ifle (pc := 5) (tgt := 41) X d_Mod_isOrder_5 rfl h (fun h => ?_) (fun h => ?_)
    · skip
      refine x_iload_n (pc := 41) X d_Mod_isOrder_41 0 rfl rfl ?_
      refine x_bipush (pc := 42) (v := 30) X d_Mod_isOrder_42 rfl ?_
      refine x_icmpne (pc := 44) (tgt := 51) X d_Mod_isOrder_44 rfl h (fun h => ?_) (fun h => ?_)
      · skip
        refine x_iconst (pc := 51) X d_Mod_isOrder_51  ?_
        cases h
        exact x_zret (pc := 52) X hR d_Mod_isOrder_52 (Or.inl rfl)
      · skip
        refine x_iconst (pc := 47) X d_Mod_isOrder_47  ?_
        refine x_goto (pc := 48) (tgt := 52) X d_Mod_isOrder_48 rfl ?_
        cases h
        exact x_zret (pc := 52) X hR d_Mod_isOrder_52 (Or.inr rfl)
    · skip
      refine x_iload_n (pc := 8) X d_Mod_isOrder_8 0 rfl rfl ?_
      refine x_iload_n (pc := 9) X d_Mod_isOrder_9 1 rfl rfl ?_
      refine x_bipush (pc := 10) (v := 10) X d_Mod_isOrder_10 rfl ?_
      refine x_irem (pc := 12) X d_Mod_isOrder_12 h (fun h => ?_)
      refine x_iconst (pc := 13) X d_Mod_isOrder_13  ?_
      refine x_iconst (pc := 14) X d_Mod_isOrder_14  ?_
      obtain ⟨r1, h2, h⟩ := bnd_e h
      refine x_callS (pc := 15) (As := [.int (zi (v2 % 10)), .int (zi 1), .int (zi 4)]) (rest := [.int (zi v1)]) (w2 := []) X d_Mod_isOrder_15 lk_Mod_58 mv_Mod_isIn (c_Mod_isIn l D cI cB (v2 % 10) 1 4 h2) ⟨(Nat.le_of_ble_eq_true rfl), (Nat.le_of_ble_eq_true rfl), (Nat.le_of_ble_eq_true rfl), (Nat.le_of_ble_eq_true rfl)⟩ [] rfl rfl rfl (Up.same rfl) rfl rfl (Nat.le_of_ble_eq_true rfl) ?_
      refine x_ifeq (pc := 18) (tgt := 30) X d_Mod_isOrder_18 rfl h (fun h => ?_) (fun h => ?_)
      · skip
        refine x_iconst (pc := 30) X d_Mod_isOrder_30  ?_
        refine x_ior (pc := 31) X d_Mod_isOrder_31  ?_
        refine x_istore_n (pc := 32) (ls2 := [(1, .int (zi (z_or v1 1))), (2, .int (zi v2))]) X d_Mod_isOrder_32 rfl (Nat.le_of_ble_eq_true rfl) rfl ?_
        refine x_iload_n (pc := 33) X d_Mod_isOrder_33 1 rfl rfl ?_
        refine x_bipush (pc := 34) (v := 10) X d_Mod_isOrder_34 rfl ?_
        refine x_idiv (pc := 36) X d_Mod_isOrder_36 h (fun h => ?_)
        refine x_istore_n (pc := 37) (ls2 := [(2, .int (zi (v2 / 10))), (1, .int (zi (z_or v1 1)))]) X d_Mod_isOrder_37 rfl (Nat.le_of_ble_eq_true rfl) rfl ?_
        refine x_goto (pc := 38) (tgt := 4) X d_Mod_isOrder_38 rfl ?_
        refine x_ls (ls2 := [(1, .int (zi (z_or v1 1))), (2, .int (zi (v2 / 10)))]) [1, 0] rfl ?_
        exact ih (z_or v1 1) (v2 / 10) o h hR
      · skip
        refine x_iconst (pc := 21) X d_Mod_isOrder_21  ?_
        refine x_iload_n (pc := 22) X d_Mod_isOrder_22 1 rfl rfl ?_
        refine x_bipush (pc := 23) (v := 10) X d_Mod_isOrder_23 rfl ?_
        refine x_irem (pc := 25) X d_Mod_isOrder_25 h (fun h => ?_)
        refine x_ishl (pc := 26) X d_Mod_isOrder_26  ?_
        refine x_goto (pc := 27) (tgt := 31) X d_Mod_isOrder_27 rfl ?_
        refine x_ior (pc := 31) X d_Mod_isOrder_31  ?_
        refine x_istore_n (pc := 32) (ls2 := [(1, .int (zi (z_or v1 (z_shl 1 (v2 % 10))))), (2, .int (zi v2))]) X d_Mod_isOrder_32 rfl (Nat.le_of_ble_eq_true rfl) rfl ?_
        refine x_iload_n (pc := 33) X d_Mod_isOrder_33 1 rfl rfl ?_
        refine x_bipush (pc := 34) (v := 10) X d_Mod_isOrder_34 rfl ?_
        refine x_idiv (pc := 36) X d_Mod_isOrder_36 h (fun h => ?_)
        refine x_istore_n (pc := 37) (ls2 := [(2, .int (zi (v2 / 10))), (1, .int (zi (z_or v1 (z_shl 1 (v2 % 10)))))]) X d_Mod_isOrder_37 rfl (Nat.le_of_ble_eq_true rfl) rfl ?_
        refine x_goto (pc := 38) (tgt := 4) X d_Mod_isOrder_38 rfl ?_
        refine x_ls (ls2 := [(1, .int (zi (z_or v1 (z_shl 1 (v2 % 10))))), (2, .int (zi (v2 / 10)))]) [1, 0] rfl ?_
        exact ih (z_or v1 (z_shl 1 (v2 % 10))) (v2 / 10) o h hR
set_option maxHeartbeats 4000000 in
set_option maxRecDepth 100000 in
theorem c_Mod_isOrder (l : Launch) (D : va_G) (cI cB : ClassId)   (x0 : Int) {o : Int} (h : m_Mod_isOrder x0 = some o) : Ct l D cI cB y_Mod_isOrder b_Mod_isOrder 3 (some .boolean) { frames := 1, cells := 0, slots := 0, locals := 22 } [.int (zi x0)] [] [] (some (.int (zi o))) := by
  refine Ct.start (by decide) (Nat.le_of_ble_eq_true rfl) (fun G X hR => ?_)
  refine x_ls (ls2 := [(0, .int (zi x0))]) [0] rfl ?_
  unfold m_Mod_isOrder at h
  refine x_iconst (pc := 0) X d_Mod_isOrder_0  ?_
  refine x_istore_n (pc := 1) (ls2 := [(1, .int (zi 0)), (0, .int (zi x0))]) X d_Mod_isOrder_1 rfl (Nat.le_of_ble_eq_true rfl) rfl ?_
  refine x_iload_n (pc := 2) X d_Mod_isOrder_2 1 rfl rfl ?_
  refine x_istore_n (pc := 3) (ls2 := [(2, .int (zi x0)), (1, .int (zi 0)), (0, .int (zi x0))]) X d_Mod_isOrder_3 rfl (Nat.le_of_ble_eq_true rfl) rfl ?_
  refine x_ls (ls2 := [(1, .int (zi 0)), (2, .int (zi x0))]) [1, 0] rfl ?_
  exact l_Mod_isOrder_4 X 5000 0 x0 o h hR
theorem d_Mod_areTwo_0 : decode b_Mod_areTwo 0 = .ok (.iload_n 0, 1) := by decide +kernel
theorem d_Mod_areTwo_1 : decode b_Mod_areTwo 1 = .ok (.invokestatic 230, 3) := by decide +kernel
theorem d_Mod_areTwo_4 : decode b_Mod_areTwo 4 = .ok (.ifCond .eq 19, 3) := by decide +kernel
theorem d_Mod_areTwo_7 : decode b_Mod_areTwo 7 = .ok (.iload_n 1, 1) := by decide +kernel
theorem d_Mod_areTwo_8 : decode b_Mod_areTwo 8 = .ok (.invokestatic 230, 3) := by decide +kernel
theorem d_Mod_areTwo_11 : decode b_Mod_areTwo 11 = .ok (.ifCond .eq 12, 3) := by decide +kernel
theorem d_Mod_areTwo_14 : decode b_Mod_areTwo 14 = .ok (.iload_n 0, 1) := by decide +kernel
theorem d_Mod_areTwo_15 : decode b_Mod_areTwo 15 = .ok (.iload_n 1, 1) := by decide +kernel
theorem d_Mod_areTwo_16 : decode b_Mod_areTwo 16 = .ok (.if_icmp .eq 7, 3) := by decide +kernel
theorem d_Mod_areTwo_19 : decode b_Mod_areTwo 19 = .ok (.iconst 1, 1) := by decide +kernel
theorem d_Mod_areTwo_20 : decode b_Mod_areTwo 20 = .ok (.goto 4, 3) := by decide +kernel
theorem d_Mod_areTwo_23 : decode b_Mod_areTwo 23 = .ok (.iconst 0, 1) := by decide +kernel
theorem d_Mod_areTwo_24 : decode b_Mod_areTwo 24 = .ok (.ireturn, 1) := by decide +kernel
def m_Mod_areTwo (x0 : Int) (x1 : Int)  : Option (Int) :=
  bnd (m_Mod_isFile x0) (fun r1 => ceq r1 0 (some (0)) (bnd (m_Mod_isFile x1) (fun r3 => ceq r3 0 (some (0)) (ceq x0 x1 (some (0)) (some (1))))))
set_option maxHeartbeats 4000000 in
set_option maxRecDepth 100000 in
theorem c_Mod_areTwo (l : Launch) (D : va_G) (cI cB : ClassId)   (x0 : Int) (x1 : Int) {o : Int} (h : m_Mod_areTwo x0 x1 = some o) : Ct l D cI cB y_Mod_areTwo b_Mod_areTwo 2 (some .boolean) { frames := 2, cells := 0, slots := 0, locals := 42 } [.int (zi x0), .int (zi x1)] [] [] (some (.int (zi o))) := by
  refine Ct.start (by decide) (Nat.le_of_ble_eq_true rfl) (fun G X hR => ?_)
  refine x_ls (ls2 := [(0, .int (zi x0)), (1, .int (zi x1))]) [0, 1] rfl ?_
  unfold m_Mod_areTwo at h
  refine x_iload_n (pc := 0) X d_Mod_areTwo_0 0 rfl rfl ?_
  obtain ⟨r1, h2, h⟩ := bnd_e h
  refine x_callS (pc := 1) (As := [.int (zi x0)]) (rest := []) (w2 := []) X d_Mod_areTwo_1 lk_Mod_230 mv_Mod_isFile (c_Mod_isFile l D cI cB x0 h2) ⟨(Nat.le_of_ble_eq_true rfl), (Nat.le_of_ble_eq_true rfl), (Nat.le_of_ble_eq_true rfl), (Nat.le_of_ble_eq_true rfl)⟩ [] rfl rfl rfl (Up.same rfl) rfl rfl (Nat.le_of_ble_eq_true rfl) ?_
  refine x_ifeq (pc := 4) (tgt := 23) X d_Mod_areTwo_4 rfl h (fun h => ?_) (fun h => ?_)
  · skip
    refine x_iconst (pc := 23) X d_Mod_areTwo_23  ?_
    cases h
    exact x_zret (pc := 24) X hR d_Mod_areTwo_24 (Or.inl rfl)
  · skip
    refine x_iload_n (pc := 7) X d_Mod_areTwo_7 1 rfl rfl ?_
    obtain ⟨r3, h4, h⟩ := bnd_e h
    refine x_callS (pc := 8) (As := [.int (zi x1)]) (rest := []) (w2 := []) X d_Mod_areTwo_8 lk_Mod_230 mv_Mod_isFile (c_Mod_isFile l D cI cB x1 h4) ⟨(Nat.le_of_ble_eq_true rfl), (Nat.le_of_ble_eq_true rfl), (Nat.le_of_ble_eq_true rfl), (Nat.le_of_ble_eq_true rfl)⟩ [] rfl rfl rfl (Up.same rfl) rfl rfl (Nat.le_of_ble_eq_true rfl) ?_
    refine x_ifeq (pc := 11) (tgt := 23) X d_Mod_areTwo_11 rfl h (fun h => ?_) (fun h => ?_)
    · skip
      refine x_iconst (pc := 23) X d_Mod_areTwo_23  ?_
      cases h
      exact x_zret (pc := 24) X hR d_Mod_areTwo_24 (Or.inl rfl)
    · skip
      refine x_iload_n (pc := 14) X d_Mod_areTwo_14 0 rfl rfl ?_
      refine x_iload_n (pc := 15) X d_Mod_areTwo_15 1 rfl rfl ?_
      refine x_icmpeq (pc := 16) (tgt := 23) X d_Mod_areTwo_16 rfl h (fun h => ?_) (fun h => ?_)
      · skip
        refine x_iconst (pc := 23) X d_Mod_areTwo_23  ?_
        cases h
        exact x_zret (pc := 24) X hR d_Mod_areTwo_24 (Or.inl rfl)
      · skip
        refine x_iconst (pc := 19) X d_Mod_areTwo_19  ?_
        refine x_goto (pc := 20) (tgt := 24) X d_Mod_areTwo_20 rfl ?_
        cases h
        exact x_zret (pc := 24) X hR d_Mod_areTwo_24 (Or.inr rfl)
theorem d_Mod_divisor_0 : decode b_Mod_divisor 0 = .ok (.lload_n 0, 1) := by decide +kernel
theorem d_Mod_divisor_1 : decode b_Mod_divisor 1 = .ok (.lstore 4, 2) := by decide +kernel
theorem d_Mod_divisor_3 : decode b_Mod_divisor 3 = .ok (.lload_n 2, 1) := by decide +kernel
theorem d_Mod_divisor_4 : decode b_Mod_divisor 4 = .ok (.lstore 6, 2) := by decide +kernel
theorem d_Mod_divisor_6 : decode b_Mod_divisor 6 = .ok (.lload 6, 2) := by decide +kernel
theorem d_Mod_divisor_8 : decode b_Mod_divisor 8 = .ok (.lconst 0, 1) := by decide +kernel
theorem d_Mod_divisor_9 : decode b_Mod_divisor 9 = .ok (.lcmp, 1) := by decide +kernel
theorem d_Mod_divisor_10 : decode b_Mod_divisor 10 = .ok (.ifCond .eq 21, 3) := by decide +kernel
theorem d_Mod_divisor_13 : decode b_Mod_divisor 13 = .ok (.lload 4, 2) := by decide +kernel
theorem d_Mod_divisor_15 : decode b_Mod_divisor 15 = .ok (.lload 6, 2) := by decide +kernel
theorem d_Mod_divisor_17 : decode b_Mod_divisor 17 = .ok (.lrem, 1) := by decide +kernel
theorem d_Mod_divisor_18 : decode b_Mod_divisor 18 = .ok (.lstore 8, 2) := by decide +kernel
theorem d_Mod_divisor_20 : decode b_Mod_divisor 20 = .ok (.lload 6, 2) := by decide +kernel
theorem d_Mod_divisor_22 : decode b_Mod_divisor 22 = .ok (.lstore 4, 2) := by decide +kernel
theorem d_Mod_divisor_24 : decode b_Mod_divisor 24 = .ok (.lload 8, 2) := by decide +kernel
theorem d_Mod_divisor_26 : decode b_Mod_divisor 26 = .ok (.lstore 6, 2) := by decide +kernel
theorem d_Mod_divisor_28 : decode b_Mod_divisor 28 = .ok (.goto (-22), 3) := by decide +kernel
theorem d_Mod_divisor_31 : decode b_Mod_divisor 31 = .ok (.lload 4, 2) := by decide +kernel
theorem d_Mod_divisor_33 : decode b_Mod_divisor 33 = .ok (.lreturn, 1) := by decide +kernel
def m_Mod_divisor_6 : Nat → Int → Int → Option (Int)
  | 0, _, _ => none
  | fuel + 1, v4, v6 =>
  gd (zq v6 ∧ zq 0) (ceq (z_cmp v6 0) 0 (some (v4)) (gd (zx v4 9223372036854775808 ∧ zp v6 9223372036854775808) (m_Mod_divisor_6 fuel v6 (v4 % v6))))
def m_Mod_divisor (x0 : Int) (x2 : Int)  : Option (Int) :=
  m_Mod_divisor_6 5000 x0 x2
set_option maxHeartbeats 4000000 in
set_option maxRecDepth 100000 in
theorem l_Mod_divisor_6 {G : GT} {l : Launch} {D : va_G} {cI cB : ClassId}   (X : Cx G l D cI cB b_Mod_divisor y_Mod_divisor.cls 10 { frames := 0, cells := 0, slots := 0, locals := 0 }) : ∀ (fuel : Nat) (v4 : Int) (v6 : Int) (o : Int), m_Mod_divisor_6 fuel v4 v6 = some o → Rt G (some .long) (some (.long (zl o))) [] → Wx G 0 0 6 [(4, .long (zl v4)), (6, .long (zl v6))] [] [] := by
  intro fuel
  induction fuel with
  | zero =>
    intro v4 v6 o h
    exact absurd h (by simp [m_Mod_divisor_6])
  | succ fuel ih =>
    intro v4 v6 o h hR
    rw [m_Mod_divisor_6] at h
    refine x_lload (pc := 6) X d_Mod_divisor_6 1 rfl ?_
    refine x_lconst (pc := 8) (x := 0) X d_Mod_divisor_8 rfl ?_
    refine x_lcmp (pc := 9) X d_Mod_divisor_9 h (fun h => ?_)
    refine x_ifeq (pc := 10) (tgt := 31) X d_Mod_divisor_10 rfl h (fun h => ?_) (fun h => ?_)
    · skip
      refine x_lload (pc := 31) X d_Mod_divisor_31 0 rfl ?_
      cases h
      exact x_lret (pc := 33) X hR d_Mod_divisor_33
    · skip
      refine x_lload (pc := 13) X d_Mod_divisor_13 0 rfl ?_
      refine x_lload (pc := 15) X d_Mod_divisor_15 1 rfl ?_
      refine x_lrem (pc := 17) X d_Mod_divisor_17 h (fun h => ?_)
      refine x_lstore (pc := 18) (ls2 := [(8, .long (zl (v4 % v6))), (4, .long (zl v4)), (6, .long (zl v6))]) X d_Mod_divisor_18 (Nat.le_of_ble_eq_true rfl) rfl ?_
      refine x_lload (pc := 20) X d_Mod_divisor_20 2 rfl ?_
      refine x_lstore (pc := 22) (ls2 := [(4, .long (zl v6)), (8, .long (zl (v4 % v6))), (6, .long (zl v6))]) X d_Mod_divisor_22 (Nat.le_of_ble_eq_true rfl) rfl ?_
      refine x_lload (pc := 24) X d_Mod_divisor_24 1 rfl ?_
      refine x_lstore (pc := 26) (ls2 := [(6, .long (zl (v4 % v6))), (4, .long (zl v6)), (8, .long (zl (v4 % v6)))]) X d_Mod_divisor_26 (Nat.le_of_ble_eq_true rfl) rfl ?_
      refine x_goto (pc := 28) (tgt := 6) X d_Mod_divisor_28 rfl ?_
      refine x_ls (ls2 := [(4, .long (zl v6)), (6, .long (zl (v4 % v6)))]) [1, 0] rfl ?_
      exact ih v6 (v4 % v6) o h hR
set_option maxHeartbeats 4000000 in
set_option maxRecDepth 100000 in
theorem c_Mod_divisor (l : Launch) (D : va_G) (cI cB : ClassId)   (x0 : Int) (x2 : Int) {o : Int} (h : m_Mod_divisor x0 x2 = some o) : Ct l D cI cB y_Mod_divisor b_Mod_divisor 10 (some .long) { frames := 0, cells := 0, slots := 0, locals := 0 } [.long (zl x0), .long (zl x2)] [] [] (some (.long (zl o))) := by
  refine Ct.start (by decide) (Nat.le_of_ble_eq_true rfl) (fun G X hR => ?_)
  refine x_ls (ls2 := [(0, .long (zl x0)), (2, .long (zl x2))]) [0, 1] rfl ?_
  unfold m_Mod_divisor at h
  refine x_lload_n (pc := 0) X d_Mod_divisor_0 0 rfl rfl ?_
  refine x_lstore (pc := 1) (ls2 := [(4, .long (zl x0)), (0, .long (zl x0)), (2, .long (zl x2))]) X d_Mod_divisor_1 (Nat.le_of_ble_eq_true rfl) rfl ?_
  refine x_lload_n (pc := 3) X d_Mod_divisor_3 2 rfl rfl ?_
  refine x_lstore (pc := 4) (ls2 := [(6, .long (zl x2)), (4, .long (zl x0)), (0, .long (zl x0)), (2, .long (zl x2))]) X d_Mod_divisor_4 (Nat.le_of_ble_eq_true rfl) rfl ?_
  refine x_ls (ls2 := [(4, .long (zl x0)), (6, .long (zl x2))]) [1, 0] rfl ?_
  exact l_Mod_divisor_6 X 5000 x0 x2 o h hR
theorem d_Mod_partOf_0 : decode b_Mod_partOf 0 = .ok (.iload 4, 2) := by decide +kernel
theorem d_Mod_partOf_2 : decode b_Mod_partOf 2 = .ok (.ifCond .ne 7, 3) := by decide +kernel
theorem d_Mod_partOf_5 : decode b_Mod_partOf 5 = .ok (.lload_n 0, 1) := by decide +kernel
theorem d_Mod_partOf_6 : decode b_Mod_partOf 6 = .ok (.goto 4, 3) := by decide +kernel
theorem d_Mod_partOf_9 : decode b_Mod_partOf 9 = .ok (.lload_n 2, 1) := by decide +kernel
theorem d_Mod_partOf_10 : decode b_Mod_partOf 10 = .ok (.lload_n 0, 1) := by decide +kernel
theorem d_Mod_partOf_11 : decode b_Mod_partOf 11 = .ok (.lload_n 2, 1) := by decide +kernel
theorem d_Mod_partOf_12 : decode b_Mod_partOf 12 = .ok (.invokestatic 334, 3) := by decide +kernel
theorem d_Mod_partOf_15 : decode b_Mod_partOf 15 = .ok (.ldiv, 1) := by decide +kernel
theorem d_Mod_partOf_16 : decode b_Mod_partOf 16 = .ok (.lreturn, 1) := by decide +kernel
def m_Mod_partOf (x0 : Int) (x2 : Int) (x4 : Int)  : Option (Int) :=
  jn (fun (z2 : Int) (z3 : Int) (z4 : Int) => bnd (m_Mod_divisor z2 z3) (fun r5 => gd (zx z4 9223372036854775808 ∧ zp r5 9223372036854775808) (some ((z4 / r5))))) (fun j1 => ceq x4 0 (j1 x0 x2 x0) (j1 x0 x2 x2))
set_option maxHeartbeats 4000000 in
set_option maxRecDepth 100000 in
theorem c_Mod_partOf (l : Launch) (D : va_G) (cI cB : ClassId)   (x0 : Int) (x2 : Int) (x4 : Int) {o : Int} (h : m_Mod_partOf x0 x2 x4 = some o) : Ct l D cI cB y_Mod_partOf b_Mod_partOf 5 (some .long) { frames := 1, cells := 0, slots := 0, locals := 29 } [.long (zl x0), .long (zl x2), .int (zi x4)] [] [] (some (.long (zl o))) := by
  refine Ct.start (by decide) (Nat.le_of_ble_eq_true rfl) (fun G X hR => ?_)
  refine x_ls (ls2 := [(0, .long (zl x0)), (2, .long (zl x2)), (4, .int (zi x4))]) [0, 1, 2] rfl ?_
  unfold m_Mod_partOf at h
  refine x_iload (pc := 0) X d_Mod_partOf_0 2 rfl ?_
  obtain ⟨j1, hj7, h⟩ := jn_e h
  have J8 : ∀ (z2 : Int) (z3 : Int) (z4 : Int), j1 z2 z3 z4 = some o → Wx G 0 0 10 [(0, .long (zl z2)), (2, .long (zl z3))] [.long (zl z4)] [] := by
    intro z2 z3 z4 h
    rw [hj7] at h
    (try dsimp only at h)
    refine x_lload_n (pc := 10) X d_Mod_partOf_10 0 rfl rfl ?_
    refine x_lload_n (pc := 11) X d_Mod_partOf_11 1 rfl rfl ?_
    obtain ⟨r5, h6, h⟩ := bnd_e h
    refine x_callS (pc := 12) (As := [.long (zl z2), .long (zl z3)]) (rest := [.long (zl z4)]) (w2 := []) X d_Mod_partOf_12 lk_Mod_334 mv_Mod_divisor (c_Mod_divisor l D cI cB z2 z3 h6) ⟨(Nat.le_of_ble_eq_true rfl), (Nat.le_of_ble_eq_true rfl), (Nat.le_of_ble_eq_true rfl), (Nat.le_of_ble_eq_true rfl)⟩ [] rfl rfl rfl (Up.same rfl) rfl rfl (Nat.le_of_ble_eq_true rfl) ?_
    refine x_ldiv (pc := 15) X d_Mod_partOf_15 h (fun h => ?_)
    cases h
    exact x_lret (pc := 16) X hR d_Mod_partOf_16
  clear hj7
  refine x_ifne (pc := 2) (tgt := 9) X d_Mod_partOf_2 rfl h (fun h => ?_) (fun h => ?_)
  · skip
    refine x_lload_n (pc := 9) X d_Mod_partOf_9 1 rfl rfl ?_
    refine x_ls (ls2 := [(0, .long (zl x0)), (2, .long (zl x2))]) [0, 1] rfl ?_
    exact J8 x0 x2 x2 h
  · skip
    refine x_lload_n (pc := 5) X d_Mod_partOf_5 0 rfl rfl ?_
    refine x_goto (pc := 6) (tgt := 10) X d_Mod_partOf_6 rfl ?_
    refine x_ls (ls2 := [(0, .long (zl x0)), (2, .long (zl x2))]) [0, 1] rfl ?_
    exact J8 x0 x2 x0 h
