noncomputable abbrev w_W96 (cI cB : ClassId) (a0 a1 : Nat) (mn : Int) (nu : Int → Int) : va_W := [(a0, .inr (2, [.ref a1, .int (zi mn)])), (a1, zA cI 96 nu)]
theorem d_Row_isFull_0 : decode b_Row_isFull 0 = .ok (.aload_n 0, 1) := by decide +kernel
theorem d_Row_isFull_1 : decode b_Row_isFull 1 = .ok (.getfield 21, 3) := by decide +kernel
theorem d_Row_isFull_4 : decode b_Row_isFull 4 = .ok (.aload_n 0, 1) := by decide +kernel
theorem d_Row_isFull_5 : decode b_Row_isFull 5 = .ok (.getfield 15, 3) := by decide +kernel
theorem d_Row_isFull_8 : decode b_Row_isFull 8 = .ok (.arraylength, 1) := by decide +kernel
theorem d_Row_isFull_9 : decode b_Row_isFull 9 = .ok (.if_icmp .lt 7, 3) := by decide +kernel
theorem d_Row_isFull_12 : decode b_Row_isFull 12 = .ok (.iconst 1, 1) := by decide +kernel
theorem d_Row_isFull_13 : decode b_Row_isFull 13 = .ok (.goto 4, 3) := by decide +kernel
theorem d_Row_isFull_16 : decode b_Row_isFull 16 = .ok (.iconst 0, 1) := by decide +kernel
theorem d_Row_isFull_17 : decode b_Row_isFull 17 = .ok (.ireturn, 1) := by decide +kernel
def m_Row_isFull_W96  (mn : Int) : Option (Int) :=
  clt mn 96 (some (0)) (some (1))
set_option maxHeartbeats 4000000 in
set_option maxRecDepth 100000 in
theorem c_Row_isFull_W96 (l : Launch) (D : va_G) (cI cB : ClassId) (a0 a1 : Nat) (mn : Int) (nu : Int → Int)  {o : Int} (h : m_Row_isFull_W96 mn = some o) : Ct l D cI cB y_Row_isFull b_Row_isFull 1 (some .boolean) { frames := 0, cells := 0, slots := 0, locals := 0 } [.ref a0] (w_W96 cI cB a0 a1 mn nu) (w_W96 cI cB a0 a1 mn nu) (some (.int (zi o))) := by
  refine Ct.start (by decide) (Nat.le_of_ble_eq_true rfl) (fun G X hR => ?_)
  refine x_ls (ls2 := [(0, .ref a0)]) [0] rfl ?_
  unfold m_Row_isFull_W96 at h
  refine x_aload_n (pc := 0) X d_Row_isFull_0 0 rfl rfl ?_
  refine x_get (pc := 1) X d_Row_isFull_1 0 rfl fl_Row_21 rfl ?_
  refine x_aload_n (pc := 4) X d_Row_isFull_4 0 rfl rfl ?_
  refine x_get (pc := 5) X d_Row_isFull_5 0 rfl fl_Row_15 rfl ?_
  refine x_alen (pc := 8) (M := 96) X d_Row_isFull_8 1 rfl rfl ?_
  refine x_icmplt (pc := 9) (tgt := 16) X d_Row_isFull_9 rfl h (fun h => ?_) (fun h => ?_)
  · skip
    refine x_iconst (pc := 16) X d_Row_isFull_16  ?_
    cases h
    exact x_zret (pc := 17) X hR d_Row_isFull_17 (Or.inl rfl)
  · skip
    refine x_iconst (pc := 12) X d_Row_isFull_12  ?_
    refine x_goto (pc := 13) (tgt := 17) X d_Row_isFull_13 rfl ?_
    cases h
    exact x_zret (pc := 17) X hR d_Row_isFull_17 (Or.inr rfl)
theorem d_Row_add_0 : decode b_Row_add 0 = .ok (.aload_n 0, 1) := by decide +kernel
theorem d_Row_add_1 : decode b_Row_add 1 = .ok (.getfield 21, 3) := by decide +kernel
theorem d_Row_add_4 : decode b_Row_add 4 = .ok (.ifCond .lt 35, 3) := by decide +kernel
theorem d_Row_add_7 : decode b_Row_add 7 = .ok (.aload_n 0, 1) := by decide +kernel
theorem d_Row_add_8 : decode b_Row_add 8 = .ok (.getfield 21, 3) := by decide +kernel
theorem d_Row_add_11 : decode b_Row_add 11 = .ok (.aload_n 0, 1) := by decide +kernel
theorem d_Row_add_12 : decode b_Row_add 12 = .ok (.getfield 15, 3) := by decide +kernel
theorem d_Row_add_15 : decode b_Row_add 15 = .ok (.arraylength, 1) := by decide +kernel
theorem d_Row_add_16 : decode b_Row_add 16 = .ok (.if_icmp .ge 23, 3) := by decide +kernel
theorem d_Row_add_19 : decode b_Row_add 19 = .ok (.aload_n 0, 1) := by decide +kernel
theorem d_Row_add_20 : decode b_Row_add 20 = .ok (.getfield 15, 3) := by decide +kernel
theorem d_Row_add_23 : decode b_Row_add 23 = .ok (.aload_n 0, 1) := by decide +kernel
theorem d_Row_add_24 : decode b_Row_add 24 = .ok (.getfield 21, 3) := by decide +kernel
theorem d_Row_add_27 : decode b_Row_add 27 = .ok (.iload_n 1, 1) := by decide +kernel
theorem d_Row_add_28 : decode b_Row_add 28 = .ok (.iastore, 1) := by decide +kernel
theorem d_Row_add_29 : decode b_Row_add 29 = .ok (.aload_n 0, 1) := by decide +kernel
theorem d_Row_add_30 : decode b_Row_add 30 = .ok (.dup, 1) := by decide +kernel
theorem d_Row_add_31 : decode b_Row_add 31 = .ok (.getfield 21, 3) := by decide +kernel
theorem d_Row_add_34 : decode b_Row_add 34 = .ok (.iconst 1, 1) := by decide +kernel
theorem d_Row_add_35 : decode b_Row_add 35 = .ok (.iadd, 1) := by decide +kernel
theorem d_Row_add_36 : decode b_Row_add 36 = .ok (.putfield 21, 3) := by decide +kernel
theorem d_Row_add_39 : decode b_Row_add 39 = .ok (.aload_n 0, 1) := by decide +kernel
theorem d_Row_add_40 : decode b_Row_add 40 = .ok (.getfield 21, 3) := by decide +kernel
theorem d_Row_add_43 : decode b_Row_add 43 = .ok (.ireturn, 1) := by decide +kernel
def m_Row_add_W96 (x1 : Int) (mn : Int) (nu : Int → Int) : Option (Int × Int × (Int → Int)) :=
  clt mn 0 (some (mn, mn, nu)) (clt mn 96 (gd (zx mn 96) (some ((mn + 1), (mn + 1), (uf nu mn x1)))) (some (mn, mn, nu)))
set_option maxHeartbeats 4000000 in
set_option maxRecDepth 100000 in
theorem c_Row_add_W96 (l : Launch) (D : va_G) (cI cB : ClassId) (a0 a1 : Nat) (mn : Int) (nu : Int → Int) (x1 : Int) {o : Int × Int × (Int → Int)} (h : m_Row_add_W96 x1 mn nu = some o) : Ct l D cI cB y_Row_add b_Row_add 2 (some .int) { frames := 0, cells := 0, slots := 0, locals := 0 } [.ref a0, .int (zi x1)] (w_W96 cI cB a0 a1 mn nu) (w_W96 cI cB a0 a1 o.2.1 o.2.2) (some (.int (zi o.1))) := by
  refine Ct.start (by decide) (Nat.le_of_ble_eq_true rfl) (fun G X hR => ?_)
  refine x_ls (ls2 := [(0, .ref a0), (1, .int (zi x1))]) [0, 1] rfl ?_
  unfold m_Row_add_W96 at h
  refine x_aload_n (pc := 0) X d_Row_add_0 0 rfl rfl ?_
  refine x_get (pc := 1) X d_Row_add_1 0 rfl fl_Row_21 rfl ?_
  refine x_iflt (pc := 4) (tgt := 39) X d_Row_add_4 rfl h (fun h => ?_) (fun h => ?_)
  · skip
    refine x_aload_n (pc := 39) X d_Row_add_39 0 rfl rfl ?_
    refine x_get (pc := 40) X d_Row_add_40 0 rfl fl_Row_21 rfl ?_
    cases h
    exact x_iret (pc := 43) X hR d_Row_add_43
  · skip
    refine x_aload_n (pc := 7) X d_Row_add_7 0 rfl rfl ?_
    refine x_get (pc := 8) X d_Row_add_8 0 rfl fl_Row_21 rfl ?_
    refine x_aload_n (pc := 11) X d_Row_add_11 0 rfl rfl ?_
    refine x_get (pc := 12) X d_Row_add_12 0 rfl fl_Row_15 rfl ?_
    refine x_alen (pc := 15) (M := 96) X d_Row_add_15 1 rfl rfl ?_
    refine x_icmpge (pc := 16) (tgt := 39) X d_Row_add_16 rfl h (fun h => ?_) (fun h => ?_)
    · skip
      refine x_aload_n (pc := 39) X d_Row_add_39 0 rfl rfl ?_
      refine x_get (pc := 40) X d_Row_add_40 0 rfl fl_Row_21 rfl ?_
      cases h
      exact x_iret (pc := 43) X hR d_Row_add_43
    · skip
      refine x_aload_n (pc := 19) X d_Row_add_19 0 rfl rfl ?_
      refine x_get (pc := 20) X d_Row_add_20 0 rfl fl_Row_15 rfl ?_
      refine x_aload_n (pc := 23) X d_Row_add_23 0 rfl rfl ?_
      refine x_get (pc := 24) X d_Row_add_24 0 rfl fl_Row_21 rfl ?_
      refine x_iload_n (pc := 27) X d_Row_add_27 1 rfl rfl ?_
      refine x_iast (pc := 28) (w2 := (w_W96 cI cB a0 a1 mn (uf nu mn x1))) X d_Row_add_28 1 rfl (Nat.le_of_ble_eq_true rfl) rfl rfl h (fun h => ?_)
      refine x_aload_n (pc := 29) X d_Row_add_29 0 rfl rfl ?_
      refine x_dup (pc := 30) X d_Row_add_30 rfl ?_
      refine x_get (pc := 31) X d_Row_add_31 0 rfl fl_Row_21 rfl ?_
      refine x_iconst (pc := 34) X d_Row_add_34  ?_
      refine x_iadd (pc := 35) X d_Row_add_35  ?_
      refine x_put (pc := 36) (w2 := (w_W96 cI cB a0 a1 (mn + 1) (uf nu mn x1))) X d_Row_add_36 0 rfl (fp_Row_21 _) (Nat.le_of_ble_eq_true rfl) rfl ?_
      refine x_aload_n (pc := 39) X d_Row_add_39 0 rfl rfl ?_
      refine x_get (pc := 40) X d_Row_add_40 0 rfl fl_Row_21 rfl ?_
      cases h
      exact x_iret (pc := 43) X hR d_Row_add_43
theorem d_Row_numberAt_0 : decode b_Row_numberAt 0 = .ok (.iload_n 1, 1) := by decide +kernel
theorem d_Row_numberAt_1 : decode b_Row_numberAt 1 = .ok (.ifCond .lt 29, 3) := by decide +kernel
theorem d_Row_numberAt_4 : decode b_Row_numberAt 4 = .ok (.iload_n 1, 1) := by decide +kernel
theorem d_Row_numberAt_5 : decode b_Row_numberAt 5 = .ok (.aload_n 0, 1) := by decide +kernel
theorem d_Row_numberAt_6 : decode b_Row_numberAt 6 = .ok (.getfield 21, 3) := by decide +kernel
theorem d_Row_numberAt_9 : decode b_Row_numberAt 9 = .ok (.if_icmp .ge 21, 3) := by decide +kernel
theorem d_Row_numberAt_12 : decode b_Row_numberAt 12 = .ok (.iload_n 1, 1) := by decide +kernel
theorem d_Row_numberAt_13 : decode b_Row_numberAt 13 = .ok (.aload_n 0, 1) := by decide +kernel
theorem d_Row_numberAt_14 : decode b_Row_numberAt 14 = .ok (.getfield 15, 3) := by decide +kernel
theorem d_Row_numberAt_17 : decode b_Row_numberAt 17 = .ok (.arraylength, 1) := by decide +kernel
theorem d_Row_numberAt_18 : decode b_Row_numberAt 18 = .ok (.if_icmp .ge 12, 3) := by decide +kernel
theorem d_Row_numberAt_21 : decode b_Row_numberAt 21 = .ok (.aload_n 0, 1) := by decide +kernel
theorem d_Row_numberAt_22 : decode b_Row_numberAt 22 = .ok (.getfield 15, 3) := by decide +kernel
theorem d_Row_numberAt_25 : decode b_Row_numberAt 25 = .ok (.iload_n 1, 1) := by decide +kernel
theorem d_Row_numberAt_26 : decode b_Row_numberAt 26 = .ok (.iaload, 1) := by decide +kernel
theorem d_Row_numberAt_27 : decode b_Row_numberAt 27 = .ok (.goto 4, 3) := by decide +kernel
theorem d_Row_numberAt_30 : decode b_Row_numberAt 30 = .ok (.iconst (-1), 1) := by decide +kernel
theorem d_Row_numberAt_31 : decode b_Row_numberAt 31 = .ok (.ireturn, 1) := by decide +kernel
def m_Row_numberAt_W96 (x1 : Int) (mn : Int) (nu : Int → Int) : Option (Int) :=
  clt x1 0 (some ((-1))) (clt x1 mn (clt x1 96 (gd (zx x1 96) (some ((nu x1)))) (some ((-1)))) (some ((-1))))
set_option maxHeartbeats 4000000 in
set_option maxRecDepth 100000 in
theorem c_Row_numberAt_W96 (l : Launch) (D : va_G) (cI cB : ClassId) (a0 a1 : Nat) (mn : Int) (nu : Int → Int) (x1 : Int) {o : Int} (h : m_Row_numberAt_W96 x1 mn nu = some o) : Ct l D cI cB y_Row_numberAt b_Row_numberAt 2 (some .int) { frames := 0, cells := 0, slots := 0, locals := 0 } [.ref a0, .int (zi x1)] (w_W96 cI cB a0 a1 mn nu) (w_W96 cI cB a0 a1 mn nu) (some (.int (zi o))) := by
  refine Ct.start (by decide) (Nat.le_of_ble_eq_true rfl) (fun G X hR => ?_)
  refine x_ls (ls2 := [(0, .ref a0), (1, .int (zi x1))]) [0, 1] rfl ?_
  unfold m_Row_numberAt_W96 at h
  refine x_iload_n (pc := 0) X d_Row_numberAt_0 1 rfl rfl ?_
  refine x_iflt (pc := 1) (tgt := 30) X d_Row_numberAt_1 rfl h (fun h => ?_) (fun h => ?_)
  · skip
    refine x_iconst (pc := 30) X d_Row_numberAt_30  ?_
    cases h
    exact x_iret (pc := 31) X hR d_Row_numberAt_31
  · skip
    refine x_iload_n (pc := 4) X d_Row_numberAt_4 1 rfl rfl ?_
    refine x_aload_n (pc := 5) X d_Row_numberAt_5 0 rfl rfl ?_
    refine x_get (pc := 6) X d_Row_numberAt_6 0 rfl fl_Row_21 rfl ?_
    refine x_icmpge (pc := 9) (tgt := 30) X d_Row_numberAt_9 rfl h (fun h => ?_) (fun h => ?_)
    · skip
      refine x_iconst (pc := 30) X d_Row_numberAt_30  ?_
      cases h
      exact x_iret (pc := 31) X hR d_Row_numberAt_31
    · skip
      refine x_iload_n (pc := 12) X d_Row_numberAt_12 1 rfl rfl ?_
      refine x_aload_n (pc := 13) X d_Row_numberAt_13 0 rfl rfl ?_
      refine x_get (pc := 14) X d_Row_numberAt_14 0 rfl fl_Row_15 rfl ?_
      refine x_alen (pc := 17) (M := 96) X d_Row_numberAt_17 1 rfl rfl ?_
      refine x_icmpge (pc := 18) (tgt := 30) X d_Row_numberAt_18 rfl h (fun h => ?_) (fun h => ?_)
      · skip
        refine x_iconst (pc := 30) X d_Row_numberAt_30  ?_
        cases h
        exact x_iret (pc := 31) X hR d_Row_numberAt_31
      · skip
        refine x_aload_n (pc := 21) X d_Row_numberAt_21 0 rfl rfl ?_
        refine x_get (pc := 22) X d_Row_numberAt_22 0 rfl fl_Row_15 rfl ?_
        refine x_iload_n (pc := 25) X d_Row_numberAt_25 1 rfl rfl ?_
        refine x_iald (pc := 26) X d_Row_numberAt_26 1 rfl (Nat.le_of_ble_eq_true rfl) rfl h (fun h => ?_)
        refine x_goto (pc := 27) (tgt := 31) X d_Row_numberAt_27 rfl ?_
        cases h
        exact x_iret (pc := 31) X hR d_Row_numberAt_31
theorem d_Text_digitsBehind_0 : decode b_Text_digitsBehind 0 = .ok (.iload_n 0, 1) := by decide +kernel
theorem d_Text_digitsBehind_1 : decode b_Text_digitsBehind 1 = .ok (.tableswitch 113 97 119 #[107, 113, 109, 113, 113, 111, 113, 113, 113, 113, 111, 113, 113, 113, 113, 107, 113, 113, 111, 113, 113, 113, 107], 107) := by decide +kernel
theorem d_Text_digitsBehind_108 : decode b_Text_digitsBehind 108 = .ok (.iconst 5, 1) := by decide +kernel
theorem d_Text_digitsBehind_109 : decode b_Text_digitsBehind 109 = .ok (.ireturn, 1) := by decide +kernel
theorem d_Text_digitsBehind_110 : decode b_Text_digitsBehind 110 = .ok (.iconst 3, 1) := by decide +kernel
theorem d_Text_digitsBehind_111 : decode b_Text_digitsBehind 111 = .ok (.ireturn, 1) := by decide +kernel
theorem d_Text_digitsBehind_112 : decode b_Text_digitsBehind 112 = .ok (.iconst 1, 1) := by decide +kernel
theorem d_Text_digitsBehind_113 : decode b_Text_digitsBehind 113 = .ok (.ireturn, 1) := by decide +kernel
theorem d_Text_digitsBehind_114 : decode b_Text_digitsBehind 114 = .ok (.iconst 0, 1) := by decide +kernel
theorem d_Text_digitsBehind_115 : decode b_Text_digitsBehind 115 = .ok (.ireturn, 1) := by decide +kernel
def m_Text_digitsBehind (x0 : Int)  : Option (Int) :=
  ceq x0 97 (some (5)) (ceq x0 99 (some (3)) (ceq x0 102 (some (1)) (ceq x0 107 (some (1)) (ceq x0 112 (some (5)) (ceq x0 115 (some (1)) (ceq x0 119 (some (5)) (some (0))))))))
set_option maxHeartbeats 4000000 in
set_option maxRecDepth 100000 in
theorem c_Text_digitsBehind (l : Launch) (D : va_G) (cI cB : ClassId)   (x0 : Int) {o : Int} (h : m_Text_digitsBehind x0 = some o) : Ct l D cI cB y_Text_digitsBehind b_Text_digitsBehind 1 (some .int) { frames := 0, cells := 0, slots := 0, locals := 0 } [.int (zi x0)] [] [] (some (.int (zi o))) := by
  refine Ct.start (by decide) (Nat.le_of_ble_eq_true rfl) (fun G X hR => ?_)
  refine x_ls (ls2 := [(0, .int (zi x0))]) [0] rfl ?_
  unfold m_Text_digitsBehind at h
  refine x_iload_n (pc := 0) X d_Text_digitsBehind_0 0 rfl rfl ?_
  obtain ⟨hz, h⟩ := ceq_e h
  rcases h with ⟨e0, h⟩ | ⟨n0, h⟩
  · refine x_tsIn (pc := 1) (v := 97) (tgt := 108) X d_Text_digitsBehind_1 e0 ⟨by decide, by decide⟩ (by decide) (by decide) rfl rfl ?_
    refine x_iconst (pc := 108) X d_Text_digitsBehind_108  ?_
    cases h
    exact x_iret (pc := 109) X hR d_Text_digitsBehind_109
  obtain ⟨hz, h⟩ := ceq_e h
  rcases h with ⟨e1, h⟩ | ⟨n1, h⟩
  · refine x_tsIn (pc := 1) (v := 99) (tgt := 110) X d_Text_digitsBehind_1 e1 ⟨by decide, by decide⟩ (by decide) (by decide) rfl rfl ?_
    refine x_iconst (pc := 110) X d_Text_digitsBehind_110  ?_
    cases h
    exact x_iret (pc := 111) X hR d_Text_digitsBehind_111
  obtain ⟨hz, h⟩ := ceq_e h
  rcases h with ⟨e2, h⟩ | ⟨n2, h⟩
  · refine x_tsIn (pc := 1) (v := 102) (tgt := 112) X d_Text_digitsBehind_1 e2 ⟨by decide, by decide⟩ (by decide) (by decide) rfl rfl ?_
    refine x_iconst (pc := 112) X d_Text_digitsBehind_112  ?_
    cases h
    exact x_iret (pc := 113) X hR d_Text_digitsBehind_113
  obtain ⟨hz, h⟩ := ceq_e h
  rcases h with ⟨e3, h⟩ | ⟨n3, h⟩
  · refine x_tsIn (pc := 1) (v := 107) (tgt := 112) X d_Text_digitsBehind_1 e3 ⟨by decide, by decide⟩ (by decide) (by decide) rfl rfl ?_
    refine x_iconst (pc := 112) X d_Text_digitsBehind_112  ?_
    cases h
    exact x_iret (pc := 113) X hR d_Text_digitsBehind_113
  obtain ⟨hz, h⟩ := ceq_e h
  rcases h with ⟨e4, h⟩ | ⟨n4, h⟩
  · refine x_tsIn (pc := 1) (v := 112) (tgt := 108) X d_Text_digitsBehind_1 e4 ⟨by decide, by decide⟩ (by decide) (by decide) rfl rfl ?_
    refine x_iconst (pc := 108) X d_Text_digitsBehind_108  ?_
    cases h
    exact x_iret (pc := 109) X hR d_Text_digitsBehind_109
  obtain ⟨hz, h⟩ := ceq_e h
  rcases h with ⟨e5, h⟩ | ⟨n5, h⟩
  · refine x_tsIn (pc := 1) (v := 115) (tgt := 112) X d_Text_digitsBehind_1 e5 ⟨by decide, by decide⟩ (by decide) (by decide) rfl rfl ?_
    refine x_iconst (pc := 112) X d_Text_digitsBehind_112  ?_
    cases h
    exact x_iret (pc := 113) X hR d_Text_digitsBehind_113
  obtain ⟨hz, h⟩ := ceq_e h
  rcases h with ⟨e6, h⟩ | ⟨n6, h⟩
  · refine x_tsIn (pc := 1) (v := 119) (tgt := 108) X d_Text_digitsBehind_1 e6 ⟨by decide, by decide⟩ (by decide) (by decide) rfl rfl ?_
    refine x_iconst (pc := 108) X d_Text_digitsBehind_108  ?_
    cases h
    exact x_iret (pc := 109) X hR d_Text_digitsBehind_109
  have hd0 : Wx G 0 0 114 [(0, .int (zi x0))] [] [] := by
    refine x_iconst (pc := 114) X d_Text_digitsBehind_114  ?_
    cases h
    exact x_iret (pc := 115) X hR d_Text_digitsBehind_115
  rcases (by omega : (x0 < 97 ∨ 119 < x0) ∨ x0 = 98 ∨ x0 = 100 ∨ x0 = 101 ∨ x0 = 103 ∨ x0 = 104 ∨ x0 = 105 ∨ x0 = 106 ∨ x0 = 108 ∨ x0 = 109 ∨ x0 = 110 ∨ x0 = 111 ∨ x0 = 113 ∨ x0 = 114 ∨ x0 = 116 ∨ x0 = 117 ∨ x0 = 118) with hh | e98 | e100 | e101 | e103 | e104 | e105 | e106 | e108 | e109 | e110 | e111 | e113 | e114 | e116 | e117 | e118
  · exact x_tsOut (pc := 1) (tgt := 114) X d_Text_digitsBehind_1 hz.1 hh rfl hd0
  · exact x_tsIn (pc := 1) (v := 98) (tgt := 114) X d_Text_digitsBehind_1 e98 ⟨by decide, by decide⟩ (by decide) (by decide) rfl rfl hd0
  · exact x_tsIn (pc := 1) (v := 100) (tgt := 114) X d_Text_digitsBehind_1 e100 ⟨by decide, by decide⟩ (by decide) (by decide) rfl rfl hd0
  · exact x_tsIn (pc := 1) (v := 101) (tgt := 114) X d_Text_digitsBehind_1 e101 ⟨by decide, by decide⟩ (by decide) (by decide) rfl rfl hd0
  · exact x_tsIn (pc := 1) (v := 103) (tgt := 114) X d_Text_digitsBehind_1 e103 ⟨by decide, by decide⟩ (by decide) (by decide) rfl rfl hd0
  · exact x_tsIn (pc := 1) (v := 104) (tgt := 114) X d_Text_digitsBehind_1 e104 ⟨by decide, by decide⟩ (by decide) (by decide) rfl rfl hd0
  · exact x_tsIn (pc := 1) (v := 105) (tgt := 114) X d_Text_digitsBehind_1 e105 ⟨by decide, by decide⟩ (by decide) (by decide) rfl rfl hd0
  · exact x_tsIn (pc := 1) (v := 106) (tgt := 114) X d_Text_digitsBehind_1 e106 ⟨by decide, by decide⟩ (by decide) (by decide) rfl rfl hd0
  · exact x_tsIn (pc := 1) (v := 108) (tgt := 114) X d_Text_digitsBehind_1 e108 ⟨by decide, by decide⟩ (by decide) (by decide) rfl rfl hd0
  · exact x_tsIn (pc := 1) (v := 109) (tgt := 114) X d_Text_digitsBehind_1 e109 ⟨by decide, by decide⟩ (by decide) (by decide) rfl rfl hd0
  · exact x_tsIn (pc := 1) (v := 110) (tgt := 114) X d_Text_digitsBehind_1 e110 ⟨by decide, by decide⟩ (by decide) (by decide) rfl rfl hd0
  · exact x_tsIn (pc := 1) (v := 111) (tgt := 114) X d_Text_digitsBehind_1 e111 ⟨by decide, by decide⟩ (by decide) (by decide) rfl rfl hd0
  · exact x_tsIn (pc := 1) (v := 113) (tgt := 114) X d_Text_digitsBehind_1 e113 ⟨by decide, by decide⟩ (by decide) (by decide) rfl rfl hd0
  · exact x_tsIn (pc := 1) (v := 114) (tgt := 114) X d_Text_digitsBehind_1 e114 ⟨by decide, by decide⟩ (by decide) (by decide) rfl rfl hd0
  · exact x_tsIn (pc := 1) (v := 116) (tgt := 114) X d_Text_digitsBehind_1 e116 ⟨by decide, by decide⟩ (by decide) (by decide) rfl rfl hd0
  · exact x_tsIn (pc := 1) (v := 117) (tgt := 114) X d_Text_digitsBehind_1 e117 ⟨by decide, by decide⟩ (by decide) (by decide) rfl rfl hd0
  · exact x_tsIn (pc := 1) (v := 118) (tgt := 114) X d_Text_digitsBehind_1 e118 ⟨by decide, by decide⟩ (by decide) (by decide) rfl rfl hd0
theorem d_Text_kindOf_0 : decode b_Text_kindOf 0 = .ok (.iload_n 0, 1) := by decide +kernel
theorem d_Text_kindOf_1 : decode b_Text_kindOf 1 = .ok (.tableswitch 95 99 115 #[93, 95, 95, 95, 89, 91, 95, 95, 95, 95, 95, 85, 95, 83, 95, 95, 87], 83) := by decide +kernel
theorem d_Text_kindOf_84 : decode b_Text_kindOf 84 = .ok (.iconst 0, 1) := by decide +kernel
theorem d_Text_kindOf_85 : decode b_Text_kindOf 85 = .ok (.ireturn, 1) := by decide +kernel
theorem d_Text_kindOf_86 : decode b_Text_kindOf 86 = .ok (.iconst 1, 1) := by decide +kernel
theorem d_Text_kindOf_87 : decode b_Text_kindOf 87 = .ok (.ireturn, 1) := by decide +kernel
theorem d_Text_kindOf_88 : decode b_Text_kindOf 88 = .ok (.iconst 2, 1) := by decide +kernel
theorem d_Text_kindOf_89 : decode b_Text_kindOf 89 = .ok (.ireturn, 1) := by decide +kernel
theorem d_Text_kindOf_90 : decode b_Text_kindOf 90 = .ok (.iconst 3, 1) := by decide +kernel
theorem d_Text_kindOf_91 : decode b_Text_kindOf 91 = .ok (.ireturn, 1) := by decide +kernel
theorem d_Text_kindOf_92 : decode b_Text_kindOf 92 = .ok (.iconst 4, 1) := by decide +kernel
theorem d_Text_kindOf_93 : decode b_Text_kindOf 93 = .ok (.ireturn, 1) := by decide +kernel
theorem d_Text_kindOf_94 : decode b_Text_kindOf 94 = .ok (.iconst 5, 1) := by decide +kernel
theorem d_Text_kindOf_95 : decode b_Text_kindOf 95 = .ok (.ireturn, 1) := by decide +kernel
theorem d_Text_kindOf_96 : decode b_Text_kindOf 96 = .ok (.iconst (-1), 1) := by decide +kernel
theorem d_Text_kindOf_97 : decode b_Text_kindOf 97 = .ok (.ireturn, 1) := by decide +kernel
def m_Text_kindOf (x0 : Int)  : Option (Int) :=
  ceq x0 99 (some (5)) (ceq x0 103 (some (3)) (ceq x0 104 (some (4)) (ceq x0 110 (some (1)) (ceq x0 112 (some (0)) (ceq x0 115 (some (2)) (some ((-1))))))))
set_option maxHeartbeats 4000000 in
set_option maxRecDepth 100000 in
theorem c_Text_kindOf (l : Launch) (D : va_G) (cI cB : ClassId)   (x0 : Int) {o : Int} (h : m_Text_kindOf x0 = some o) : Ct l D cI cB y_Text_kindOf b_Text_kindOf 1 (some .int) { frames := 0, cells := 0, slots := 0, locals := 0 } [.int (zi x0)] [] [] (some (.int (zi o))) := by
  refine Ct.start (by decide) (Nat.le_of_ble_eq_true rfl) (fun G X hR => ?_)
  refine x_ls (ls2 := [(0, .int (zi x0))]) [0] rfl ?_
  unfold m_Text_kindOf at h
  refine x_iload_n (pc := 0) X d_Text_kindOf_0 0 rfl rfl ?_
  obtain ⟨hz, h⟩ := ceq_e h
  rcases h with ⟨e0, h⟩ | ⟨n0, h⟩
  · refine x_tsIn (pc := 1) (v := 99) (tgt := 94) X d_Text_kindOf_1 e0 ⟨by decide, by decide⟩ (by decide) (by decide) rfl rfl ?_
    refine x_iconst (pc := 94) X d_Text_kindOf_94  ?_
    cases h
    exact x_iret (pc := 95) X hR d_Text_kindOf_95
  obtain ⟨hz, h⟩ := ceq_e h
  rcases h with ⟨e1, h⟩ | ⟨n1, h⟩
  · refine x_tsIn (pc := 1) (v := 103) (tgt := 90) X d_Text_kindOf_1 e1 ⟨by decide, by decide⟩ (by decide) (by decide) rfl rfl ?_
    refine x_iconst (pc := 90) X d_Text_kindOf_90  ?_
    cases h
    exact x_iret (pc := 91) X hR d_Text_kindOf_91
  obtain ⟨hz, h⟩ := ceq_e h
  rcases h with ⟨e2, h⟩ | ⟨n2, h⟩
  · refine x_tsIn (pc := 1) (v := 104) (tgt := 92) X d_Text_kindOf_1 e2 ⟨by decide, by decide⟩ (by decide) (by decide) rfl rfl ?_
    refine x_iconst (pc := 92) X d_Text_kindOf_92  ?_
    cases h
    exact x_iret (pc := 93) X hR d_Text_kindOf_93
  obtain ⟨hz, h⟩ := ceq_e h
  rcases h with ⟨e3, h⟩ | ⟨n3, h⟩
  · refine x_tsIn (pc := 1) (v := 110) (tgt := 86) X d_Text_kindOf_1 e3 ⟨by decide, by decide⟩ (by decide) (by decide) rfl rfl ?_
    refine x_iconst (pc := 86) X d_Text_kindOf_86  ?_
    cases h
    exact x_iret (pc := 87) X hR d_Text_kindOf_87
  obtain ⟨hz, h⟩ := ceq_e h
  rcases h with ⟨e4, h⟩ | ⟨n4, h⟩
  · refine x_tsIn (pc := 1) (v := 112) (tgt := 84) X d_Text_kindOf_1 e4 ⟨by decide, by decide⟩ (by decide) (by decide) rfl rfl ?_
    refine x_iconst (pc := 84) X d_Text_kindOf_84  ?_
    cases h
    exact x_iret (pc := 85) X hR d_Text_kindOf_85
  obtain ⟨hz, h⟩ := ceq_e h
  rcases h with ⟨e5, h⟩ | ⟨n5, h⟩
  · refine x_tsIn (pc := 1) (v := 115) (tgt := 88) X d_Text_kindOf_1 e5 ⟨by decide, by decide⟩ (by decide) (by decide) rfl rfl ?_
    refine x_iconst (pc := 88) X d_Text_kindOf_88  ?_
    cases h
    exact x_iret (pc := 89) X hR d_Text_kindOf_89
  have hd0 : Wx G 0 0 96 [(0, .int (zi x0))] [] [] := by
    refine x_iconst (pc := 96) X d_Text_kindOf_96  ?_
    cases h
    exact x_iret (pc := 97) X hR d_Text_kindOf_97
  rcases (by omega : (x0 < 99 ∨ 115 < x0) ∨ x0 = 100 ∨ x0 = 101 ∨ x0 = 102 ∨ x0 = 105 ∨ x0 = 106 ∨ x0 = 107 ∨ x0 = 108 ∨ x0 = 109 ∨ x0 = 111 ∨ x0 = 113 ∨ x0 = 114) with hh | e100 | e101 | e102 | e105 | e106 | e107 | e108 | e109 | e111 | e113 | e114
  · exact x_tsOut (pc := 1) (tgt := 96) X d_Text_kindOf_1 hz.1 hh rfl hd0
  · exact x_tsIn (pc := 1) (v := 100) (tgt := 96) X d_Text_kindOf_1 e100 ⟨by decide, by decide⟩ (by decide) (by decide) rfl rfl hd0
  · exact x_tsIn (pc := 1) (v := 101) (tgt := 96) X d_Text_kindOf_1 e101 ⟨by decide, by decide⟩ (by decide) (by decide) rfl rfl hd0
  · exact x_tsIn (pc := 1) (v := 102) (tgt := 96) X d_Text_kindOf_1 e102 ⟨by decide, by decide⟩ (by decide) (by decide) rfl rfl hd0
  · exact x_tsIn (pc := 1) (v := 105) (tgt := 96) X d_Text_kindOf_1 e105 ⟨by decide, by decide⟩ (by decide) (by decide) rfl rfl hd0
  · exact x_tsIn (pc := 1) (v := 106) (tgt := 96) X d_Text_kindOf_1 e106 ⟨by decide, by decide⟩ (by decide) (by decide) rfl rfl hd0
  · exact x_tsIn (pc := 1) (v := 107) (tgt := 96) X d_Text_kindOf_1 e107 ⟨by decide, by decide⟩ (by decide) (by decide) rfl rfl hd0
  · exact x_tsIn (pc := 1) (v := 108) (tgt := 96) X d_Text_kindOf_1 e108 ⟨by decide, by decide⟩ (by decide) (by decide) rfl rfl hd0
  · exact x_tsIn (pc := 1) (v := 109) (tgt := 96) X d_Text_kindOf_1 e109 ⟨by decide, by decide⟩ (by decide) (by decide) rfl rfl hd0
  · exact x_tsIn (pc := 1) (v := 111) (tgt := 96) X d_Text_kindOf_1 e111 ⟨by decide, by decide⟩ (by decide) (by decide) rfl rfl hd0
  · exact x_tsIn (pc := 1) (v := 113) (tgt := 96) X d_Text_kindOf_1 e113 ⟨by decide, by decide⟩ (by decide) (by decide) rfl rfl hd0
  · exact x_tsIn (pc := 1) (v := 114) (tgt := 96) X d_Text_kindOf_1 e114 ⟨by decide, by decide⟩ (by decide) (by decide) rfl rfl hd0
theorem d_Vol_isFile_0 : decode b_Vol_isFile 0 = .ok (.iload_n 0, 1) := by decide +kernel
theorem d_Vol_isFile_1 : decode b_Vol_isFile 1 = .ok (.ifCond .lt 12, 3) := by decide +kernel
theorem d_Vol_isFile_4 : decode b_Vol_isFile 4 = .ok (.iload_n 0, 1) := by decide +kernel
theorem d_Vol_isFile_5 : decode b_Vol_isFile 5 = .ok (.iconst 4, 1) := by decide +kernel
theorem d_Vol_isFile_6 : decode b_Vol_isFile 6 = .ok (.if_icmp .ge 7, 3) := by decide +kernel
theorem d_Vol_isFile_9 : decode b_Vol_isFile 9 = .ok (.iconst 1, 1) := by decide +kernel
theorem d_Vol_isFile_10 : decode b_Vol_isFile 10 = .ok (.goto 4, 3) := by decide +kernel
theorem d_Vol_isFile_13 : decode b_Vol_isFile 13 = .ok (.iconst 0, 1) := by decide +kernel
theorem d_Vol_isFile_14 : decode b_Vol_isFile 14 = .ok (.ireturn, 1) := by decide +kernel
def m_Vol_isFile (x0 : Int)  : Option (Int) :=
  clt x0 0 (some (0)) (clt x0 4 (some (1)) (some (0)))
set_option maxHeartbeats 4000000 in
set_option maxRecDepth 100000 in
theorem c_Vol_isFile (l : Launch) (D : va_G) (cI cB : ClassId)   (x0 : Int) {o : Int} (h : m_Vol_isFile x0 = some o) : Ct l D cI cB y_Vol_isFile b_Vol_isFile 1 (some .boolean) { frames := 0, cells := 0, slots := 0, locals := 0 } [.int (zi x0)] [] [] (some (.int (zi o))) := by
  refine Ct.start (by decide) (Nat.le_of_ble_eq_true rfl) (fun G X hR => ?_)
  refine x_ls (ls2 := [(0, .int (zi x0))]) [0] rfl ?_
  unfold m_Vol_isFile at h
  refine x_iload_n (pc := 0) X d_Vol_isFile_0 0 rfl rfl ?_
  refine x_iflt (pc := 1) (tgt := 13) X d_Vol_isFile_1 rfl h (fun h => ?_) (fun h => ?_)
  · skip
    refine x_iconst (pc := 13) X d_Vol_isFile_13  ?_
    cases h
    exact x_zret (pc := 14) X hR d_Vol_isFile_14 (Or.inl rfl)
  · skip
    refine x_iload_n (pc := 4) X d_Vol_isFile_4 0 rfl rfl ?_
    refine x_iconst (pc := 5) X d_Vol_isFile_5  ?_
    refine x_icmpge (pc := 6) (tgt := 13) X d_Vol_isFile_6 rfl h (fun h => ?_) (fun h => ?_)
    · skip
      refine x_iconst (pc := 13) X d_Vol_isFile_13  ?_
      cases h
      exact x_zret (pc := 14) X hR d_Vol_isFile_14 (Or.inl rfl)
    · skip
      refine x_iconst (pc := 9) X d_Vol_isFile_9  ?_
      refine x_goto (pc := 10) (tgt := 14) X d_Vol_isFile_10 rfl ?_
      cases h
      exact x_zret (pc := 14) X hR d_Vol_isFile_14 (Or.inr rfl)
theorem d_Vol_isPage_0 : decode b_Vol_isPage 0 = .ok (.iload_n 0, 1) := by decide +kernel
theorem d_Vol_isPage_1 : decode b_Vol_isPage 1 = .ok (.ifCond .lt 13, 3) := by decide +kernel
theorem d_Vol_isPage_4 : decode b_Vol_isPage 4 = .ok (.iload_n 0, 1) := by decide +kernel
theorem d_Vol_isPage_5 : decode b_Vol_isPage 5 = .ok (.bipush 24, 2) := by decide +kernel
theorem d_Vol_isPage_7 : decode b_Vol_isPage 7 = .ok (.if_icmp .ge 7, 3) := by decide +kernel
theorem d_Vol_isPage_10 : decode b_Vol_isPage 10 = .ok (.iconst 1, 1) := by decide +kernel
theorem d_Vol_isPage_11 : decode b_Vol_isPage 11 = .ok (.goto 4, 3) := by decide +kernel
theorem d_Vol_isPage_14 : decode b_Vol_isPage 14 = .ok (.iconst 0, 1) := by decide +kernel
theorem d_Vol_isPage_15 : decode b_Vol_isPage 15 = .ok (.ireturn, 1) := by decide +kernel
def m_Vol_isPage (x0 : Int)  : Option (Int) :=
  clt x0 0 (some (0)) (clt x0 24 (some (1)) (some (0)))
set_option maxHeartbeats 4000000 in
set_option maxRecDepth 100000 in
theorem c_Vol_isPage (l : Launch) (D : va_G) (cI cB : ClassId)   (x0 : Int) {o : Int} (h : m_Vol_isPage x0 = some o) : Ct l D cI cB y_Vol_isPage b_Vol_isPage 1 (some .boolean) { frames := 0, cells := 0, slots := 0, locals := 0 } [.int (zi x0)] [] [] (some (.int (zi o))) := by
  refine Ct.start (by decide) (Nat.le_of_ble_eq_true rfl) (fun G X hR => ?_)
  refine x_ls (ls2 := [(0, .int (zi x0))]) [0] rfl ?_
  unfold m_Vol_isPage at h
  refine x_iload_n (pc := 0) X d_Vol_isPage_0 0 rfl rfl ?_
  refine x_iflt (pc := 1) (tgt := 14) X d_Vol_isPage_1 rfl h (fun h => ?_) (fun h => ?_)
  · skip
    refine x_iconst (pc := 14) X d_Vol_isPage_14  ?_
    cases h
    exact x_zret (pc := 15) X hR d_Vol_isPage_15 (Or.inl rfl)
  · skip
    refine x_iload_n (pc := 4) X d_Vol_isPage_4 0 rfl rfl ?_
    refine x_bipush (pc := 5) (v := 24) X d_Vol_isPage_5 rfl ?_
    refine x_icmpge (pc := 7) (tgt := 14) X d_Vol_isPage_7 rfl h (fun h => ?_) (fun h => ?_)
    · skip
      refine x_iconst (pc := 14) X d_Vol_isPage_14  ?_
      cases h
      exact x_zret (pc := 15) X hR d_Vol_isPage_15 (Or.inl rfl)
    · skip
      refine x_iconst (pc := 10) X d_Vol_isPage_10  ?_
      refine x_goto (pc := 11) (tgt := 15) X d_Vol_isPage_11 rfl ?_
      cases h
      exact x_zret (pc := 15) X hR d_Vol_isPage_15 (Or.inr rfl)
noncomputable abbrev w_Runs (cI cB : ClassId) (a0 a1 a2 : Nat) (rm : Int) (rs : Int → Int) (rz : Int → Int) : va_W := [(a0, .inr (3, [.ref a1, .ref a2, .int (zi rm)])), (a1, zA cI 32 rs), (a2, zA cI 32 rz)]
theorem d_Runs_add_0 : decode b_Runs_add 0 = .ok (.iload_n 2, 1) := by decide +kernel
theorem d_Runs_add_1 : decode b_Runs_add 1 = .ok (.ifCond .le 64, 3) := by decide +kernel
theorem d_Runs_add_4 : decode b_Runs_add 4 = .ok (.aload_n 0, 1) := by decide +kernel
theorem d_Runs_add_5 : decode b_Runs_add 5 = .ok (.getfield 18, 3) := by decide +kernel
theorem d_Runs_add_8 : decode b_Runs_add 8 = .ok (.ifCond .lt 57, 3) := by decide +kernel
theorem d_Runs_add_11 : decode b_Runs_add 11 = .ok (.aload_n 0, 1) := by decide +kernel
theorem d_Runs_add_12 : decode b_Runs_add 12 = .ok (.getfield 18, 3) := by decide +kernel
theorem d_Runs_add_15 : decode b_Runs_add 15 = .ok (.aload_n 0, 1) := by decide +kernel
theorem d_Runs_add_16 : decode b_Runs_add 16 = .ok (.getfield 9, 3) := by decide +kernel
theorem d_Runs_add_19 : decode b_Runs_add 19 = .ok (.arraylength, 1) := by decide +kernel
theorem d_Runs_add_20 : decode b_Runs_add 20 = .ok (.if_icmp .ge 45, 3) := by decide +kernel
theorem d_Runs_add_23 : decode b_Runs_add 23 = .ok (.aload_n 0, 1) := by decide +kernel
theorem d_Runs_add_24 : decode b_Runs_add 24 = .ok (.getfield 18, 3) := by decide +kernel
theorem d_Runs_add_27 : decode b_Runs_add 27 = .ok (.aload_n 0, 1) := by decide +kernel
theorem d_Runs_add_28 : decode b_Runs_add 28 = .ok (.getfield 15, 3) := by decide +kernel
theorem d_Runs_add_31 : decode b_Runs_add 31 = .ok (.arraylength, 1) := by decide +kernel
theorem d_Runs_add_32 : decode b_Runs_add 32 = .ok (.if_icmp .ge 33, 3) := by decide +kernel
theorem d_Runs_add_35 : decode b_Runs_add 35 = .ok (.aload_n 0, 1) := by decide +kernel
theorem d_Runs_add_36 : decode b_Runs_add 36 = .ok (.getfield 9, 3) := by decide +kernel
theorem d_Runs_add_39 : decode b_Runs_add 39 = .ok (.aload_n 0, 1) := by decide +kernel
theorem d_Runs_add_40 : decode b_Runs_add 40 = .ok (.getfield 18, 3) := by decide +kernel
theorem d_Runs_add_43 : decode b_Runs_add 43 = .ok (.iload_n 1, 1) := by decide +kernel
theorem d_Runs_add_44 : decode b_Runs_add 44 = .ok (.iastore, 1) := by decide +kernel
theorem d_Runs_add_45 : decode b_Runs_add 45 = .ok (.aload_n 0, 1) := by decide +kernel
theorem d_Runs_add_46 : decode b_Runs_add 46 = .ok (.getfield 15, 3) := by decide +kernel
theorem d_Runs_add_49 : decode b_Runs_add 49 = .ok (.aload_n 0, 1) := by decide +kernel
theorem d_Runs_add_50 : decode b_Runs_add 50 = .ok (.getfield 18, 3) := by decide +kernel
theorem d_Runs_add_53 : decode b_Runs_add 53 = .ok (.iload_n 2, 1) := by decide +kernel
theorem d_Runs_add_54 : decode b_Runs_add 54 = .ok (.iastore, 1) := by decide +kernel
theorem d_Runs_add_55 : decode b_Runs_add 55 = .ok (.aload_n 0, 1) := by decide +kernel
theorem d_Runs_add_56 : decode b_Runs_add 56 = .ok (.dup, 1) := by decide +kernel
theorem d_Runs_add_57 : decode b_Runs_add 57 = .ok (.getfield 18, 3) := by decide +kernel
theorem d_Runs_add_60 : decode b_Runs_add 60 = .ok (.iconst 1, 1) := by decide +kernel
theorem d_Runs_add_61 : decode b_Runs_add 61 = .ok (.iadd, 1) := by decide +kernel
theorem d_Runs_add_62 : decode b_Runs_add 62 = .ok (.putfield 18, 3) := by decide +kernel
theorem d_Runs_add_65 : decode b_Runs_add 65 = .ok (.return_, 1) := by decide +kernel
def m_Runs_add (x1 : Int) (x2 : Int) (rm : Int) (rs : Int → Int) (rz : Int → Int) : Option (Int × (Int → Int) × (Int → Int)) :=
  cle x2 0 (some (rm, rs, rz)) (clt rm 0 (some (rm, rs, rz)) (clt rm 32 (clt rm 32 (gd (zx rm 32) (gd (zx rm 32) (some ((rm + 1), (uf rs rm x1), (uf rz rm x2))))) (some (rm, rs, rz))) (some (rm, rs, rz))))
set_option maxHeartbeats 4000000 in
set_option maxRecDepth 100000 in
theorem c_Runs_add (l : Launch) (D : va_G) (cI cB : ClassId) (a0 a1 a2 : Nat) (rm : Int) (rs : Int → Int) (rz : Int → Int) (x1 : Int) (x2 : Int) {o : Int × (Int → Int) × (Int → Int)} (h : m_Runs_add x1 x2 rm rs rz = some o) : Ct l D cI cB y_Runs_add b_Runs_add 3 none { frames := 0, cells := 0, slots := 0, locals := 0 } [.ref a0, .int (zi x1), .int (zi x2)] (w_Runs cI cB a0 a1 a2 rm rs rz) (w_Runs cI cB a0 a1 a2 o.1 o.2.1 o.2.2) none := by
  refine Ct.start (by decide) (Nat.le_of_ble_eq_true rfl) (fun G X hR => ?_)
  refine x_ls (ls2 := [(0, .ref a0), (1, .int (zi x1)), (2, .int (zi x2))]) [0, 1, 2] rfl ?_
  unfold m_Runs_add at h
  refine x_iload_n (pc := 0) X d_Runs_add_0 2 rfl rfl ?_
  refine x_ifle (pc := 1) (tgt := 65) X d_Runs_add_1 rfl h (fun h => ?_) (fun h => ?_)
  · skip
    cases h
    exact x_vret (pc := 65) X hR d_Runs_add_65
  · skip
    refine x_aload_n (pc := 4) X d_Runs_add_4 0 rfl rfl ?_
    refine x_get (pc := 5) X d_Runs_add_5 0 rfl fl_Runs_18 rfl ?_
    refine x_iflt (pc := 8) (tgt := 65) X d_Runs_add_8 rfl h (fun h => ?_) (fun h => ?_)
    · skip
      cases h
      exact x_vret (pc := 65) X hR d_Runs_add_65
    · skip
      refine x_aload_n (pc := 11) X d_Runs_add_11 0 rfl rfl ?_
      refine x_get (pc := 12) X d_Runs_add_12 0 rfl fl_Runs_18 rfl ?_
      refine x_aload_n (pc := 15) X d_Runs_add_15 0 rfl rfl ?_
      refine x_get (pc := 16) X d_Runs_add_16 0 rfl fl_Runs_9 rfl ?_
      refine x_alen (pc := 19) (M := 32) X d_Runs_add_19 1 rfl rfl ?_
      refine x_icmpge (pc := 20) (tgt := 65) X d_Runs_add_20 rfl h (fun h => ?_) (fun h => ?_)
      · skip
        cases h
        exact x_vret (pc := 65) X hR d_Runs_add_65
      · skip
        refine x_aload_n (pc := 23) X d_Runs_add_23 0 rfl rfl ?_
        refine x_get (pc := 24) X d_Runs_add_24 0 rfl fl_Runs_18 rfl ?_
        refine x_aload_n (pc := 27) X d_Runs_add_27 0 rfl rfl ?_
        refine x_get (pc := 28) X d_Runs_add_28 0 rfl fl_Runs_15 rfl ?_
        refine x_alen (pc := 31) (M := 32) X d_Runs_add_31 2 rfl rfl ?_
        refine x_icmpge (pc := 32) (tgt := 65) X d_Runs_add_32 rfl h (fun h => ?_) (fun h => ?_)
        · skip
          cases h
          exact x_vret (pc := 65) X hR d_Runs_add_65
        · skip
          refine x_aload_n (pc := 35) X d_Runs_add_35 0 rfl rfl ?_
          refine x_get (pc := 36) X d_Runs_add_36 0 rfl fl_Runs_9 rfl ?_
          refine x_aload_n (pc := 39) X d_Runs_add_39 0 rfl rfl ?_
          refine x_get (pc := 40) X d_Runs_add_40 0 rfl fl_Runs_18 rfl ?_
          refine x_iload_n (pc := 43) X d_Runs_add_43 1 rfl rfl ?_
          refine x_iast (pc := 44) (w2 := (w_Runs cI cB a0 a1 a2 rm (uf rs rm x1) rz)) X d_Runs_add_44 1 rfl (Nat.le_of_ble_eq_true rfl) rfl rfl h (fun h => ?_)
          refine x_aload_n (pc := 45) X d_Runs_add_45 0 rfl rfl ?_
          refine x_get (pc := 46) X d_Runs_add_46 0 rfl fl_Runs_15 rfl ?_
          refine x_aload_n (pc := 49) X d_Runs_add_49 0 rfl rfl ?_
          refine x_get (pc := 50) X d_Runs_add_50 0 rfl fl_Runs_18 rfl ?_
          refine x_iload_n (pc := 53) X d_Runs_add_53 2 rfl rfl ?_
          refine x_iast (pc := 54) (w2 := (w_Runs cI cB a0 a1 a2 rm (uf rs rm x1) (uf rz rm x2))) X d_Runs_add_54 2 rfl (Nat.le_of_ble_eq_true rfl) rfl rfl h (fun h => ?_)
          refine x_aload_n (pc := 55) X d_Runs_add_55 0 rfl rfl ?_
          refine x_dup (pc := 56) X d_Runs_add_56 rfl ?_
          refine x_get (pc := 57) X d_Runs_add_57 0 rfl fl_Runs_18 rfl ?_
          refine x_iconst (pc := 60) X d_Runs_add_60  ?_
          refine x_iadd (pc := 61) X d_Runs_add_61  ?_
          refine x_put (pc := 62) (w2 := (w_Runs cI cB a0 a1 a2 (rm + 1) (uf rs rm x1) (uf rz rm x2))) X d_Runs_add_62 0 rfl (fp_Runs_18 _) (Nat.le_of_ble_eq_true rfl) rfl ?_
          cases h
          exact x_vret (pc := 65) X hR d_Runs_add_65
noncomputable abbrev w_Runs_Arr64 (cI cB : ClassId) (a0 a1 a2 a3 : Nat) (rm : Int) (rs : Int → Int) (rz : Int → Int) (qow : Int → Int) : va_W := [(a0, .inr (3, [.ref a1, .ref a2, .int (zi rm)])), (a1, zA cI 32 rs), (a2, zA cI 32 rz), (a3, zA cI 64 qow)]
theorem d_Runs_lookAt_0 : decode b_Runs_lookAt 0 = .ok (.aload_n 0, 1) := by decide +kernel
theorem d_Runs_lookAt_1 : decode b_Runs_lookAt 1 = .ok (.iconst 0, 1) := by decide +kernel
theorem d_Runs_lookAt_2 : decode b_Runs_lookAt 2 = .ok (.putfield 18, 3) := by decide +kernel
theorem d_Runs_lookAt_5 : decode b_Runs_lookAt 5 = .ok (.iconst 0, 1) := by decide +kernel
theorem d_Runs_lookAt_6 : decode b_Runs_lookAt 6 = .ok (.istore_n 2, 1) := by decide +kernel
theorem d_Runs_lookAt_7 : decode b_Runs_lookAt 7 = .ok (.iconst 0, 1) := by decide +kernel
theorem d_Runs_lookAt_8 : decode b_Runs_lookAt 8 = .ok (.istore_n 3, 1) := by decide +kernel
theorem d_Runs_lookAt_9 : decode b_Runs_lookAt 9 = .ok (.iload_n 3, 1) := by decide +kernel
theorem d_Runs_lookAt_10 : decode b_Runs_lookAt 10 = .ok (.aload_n 1, 1) := by decide +kernel
theorem d_Runs_lookAt_11 : decode b_Runs_lookAt 11 = .ok (.arraylength, 1) := by decide +kernel
theorem d_Runs_lookAt_12 : decode b_Runs_lookAt 12 = .ok (.if_icmp .ge 32, 3) := by decide +kernel
theorem d_Runs_lookAt_15 : decode b_Runs_lookAt 15 = .ok (.aload_n 1, 1) := by decide +kernel
theorem d_Runs_lookAt_16 : decode b_Runs_lookAt 16 = .ok (.iload_n 3, 1) := by decide +kernel
theorem d_Runs_lookAt_17 : decode b_Runs_lookAt 17 = .ok (.iaload, 1) := by decide +kernel
theorem d_Runs_lookAt_18 : decode b_Runs_lookAt 18 = .ok (.iconst (-1), 1) := by decide +kernel
theorem d_Runs_lookAt_19 : decode b_Runs_lookAt 19 = .ok (.if_icmp .ne 9, 3) := by decide +kernel
theorem d_Runs_lookAt_22 : decode b_Runs_lookAt 22 = .ok (.iinc 2 1, 3) := by decide +kernel
theorem d_Runs_lookAt_25 : decode b_Runs_lookAt 25 = .ok (.goto 13, 3) := by decide +kernel
theorem d_Runs_lookAt_28 : decode b_Runs_lookAt 28 = .ok (.aload_n 0, 1) := by decide +kernel
theorem d_Runs_lookAt_29 : decode b_Runs_lookAt 29 = .ok (.iload_n 3, 1) := by decide +kernel
theorem d_Runs_lookAt_30 : decode b_Runs_lookAt 30 = .ok (.iload_n 2, 1) := by decide +kernel
theorem d_Runs_lookAt_31 : decode b_Runs_lookAt 31 = .ok (.isub, 1) := by decide +kernel
theorem d_Runs_lookAt_32 : decode b_Runs_lookAt 32 = .ok (.iload_n 2, 1) := by decide +kernel
theorem d_Runs_lookAt_33 : decode b_Runs_lookAt 33 = .ok (.invokevirtual 22, 3) := by decide +kernel
theorem d_Runs_lookAt_36 : decode b_Runs_lookAt 36 = .ok (.iconst 0, 1) := by decide +kernel
theorem d_Runs_lookAt_37 : decode b_Runs_lookAt 37 = .ok (.istore_n 2, 1) := by decide +kernel
theorem d_Runs_lookAt_38 : decode b_Runs_lookAt 38 = .ok (.iinc 3 1, 3) := by decide +kernel
theorem d_Runs_lookAt_41 : decode b_Runs_lookAt 41 = .ok (.goto (-32), 3) := by decide +kernel
theorem d_Runs_lookAt_44 : decode b_Runs_lookAt 44 = .ok (.aload_n 0, 1) := by decide +kernel
theorem d_Runs_lookAt_45 : decode b_Runs_lookAt 45 = .ok (.aload_n 1, 1) := by decide +kernel
theorem d_Runs_lookAt_46 : decode b_Runs_lookAt 46 = .ok (.arraylength, 1) := by decide +kernel
theorem d_Runs_lookAt_47 : decode b_Runs_lookAt 47 = .ok (.iload_n 2, 1) := by decide +kernel
theorem d_Runs_lookAt_48 : decode b_Runs_lookAt 48 = .ok (.isub, 1) := by decide +kernel
theorem d_Runs_lookAt_49 : decode b_Runs_lookAt 49 = .ok (.iload_n 2, 1) := by decide +kernel
theorem d_Runs_lookAt_50 : decode b_Runs_lookAt 50 = .ok (.invokevirtual 22, 3) := by decide +kernel
theorem d_Runs_lookAt_53 : decode b_Runs_lookAt 53 = .ok (.return_, 1) := by decide +kernel
def m_Runs_lookAt_9 : Nat → Int → Int → Int → (Int → Int) → (Int → Int) → (Int → Int) → Option (Int × (Int → Int) × (Int → Int))
  | 0, _, _, _, _, _, _ => none
  | fuel + 1, v2, v3, rm, rs, rz, qow =>
  clt v3 64 (gd (zx v3 64) (ceq (qow v3) (-1) (m_Runs_lookAt_9 fuel (v2 + 1) (v3 + 1) rm rs rz qow) (bnd (m_Runs_add (v3 - v2) v2 rm rs rz) (fun r3 => m_Runs_lookAt_9 fuel 0 (v3 + 1) r3.1 r3.2.1 r3.2.2 qow)))) (bnd (m_Runs_add (64 - v2) v2 rm rs rz) (fun r1 => some (r1.1, r1.2.1, r1.2.2)))
def m_Runs_lookAt  (rm : Int) (rs : Int → Int) (rz : Int → Int) (qow : Int → Int) : Option (Int × (Int → Int) × (Int → Int)) :=
  m_Runs_lookAt_9 5000 0 0 0 rs rz qow
set_option maxHeartbeats 4000000 in
set_option maxRecDepth 100000 in
theorem l_Runs_lookAt_9 {G : GT} {l : Launch} {D : va_G} {cI cB : ClassId} {a0 a1 a2 a3 : Nat}  (X : Cx G l D cI cB b_Runs_lookAt y_Runs_lookAt.cls 4 { frames := 1, cells := 0, slots := 0, locals := 22 }) : ∀ (fuel : Nat) (v2 : Int) (v3 : Int) (rm : Int) (rs : Int → Int) (rz : Int → Int) (qow : Int → Int) (o : Int × (Int → Int) × (Int → Int)), m_Runs_lookAt_9 fuel v2 v3 rm rs rz qow = some o → Rt G none none (w_Runs_Arr64 cI cB a0 a1 a2 a3 o.1 o.2.1 o.2.2 qow) → Wx G 0 0 9 [(0, .ref a0), (1, .ref a3), (2, .int (zi v2)), (3, .int (zi v3))] [] (w_Runs_Arr64 cI cB a0 a1 a2 a3 rm rs rz qow) := by
  intro fuel
  induction fuel with
  | zero =>
    intro v2 v3 rm rs rz qow o h
    exact absurd h (by simp [m_Runs_lookAt_9])
  | succ fuel ih =>
    intro v2 v3 rm rs rz qow o h hR
    rw [m_Runs_lookAt_9] at h
    refine x_iload_n (pc := 9) X d_Runs_lookAt_9 3 rfl rfl ?_
    refine x_aload_n (pc := 10) X d_Runs_lookAt_10 1 rfl rfl ?_
    refine x_alen (pc := 11) (M := 64) X d_Runs_lookAt_11 3 rfl rfl ?_
    refine x_icmpge (pc := 12) (tgt := 44) X d_Runs_lookAt_12 rfl h (fun h => ?_) (fun h => ?_)
    · skip
      refine x_aload_n (pc := 44) X d_Runs_lookAt_44 0 rfl rfl ?_
      refine x_aload_n (pc := 45) X d_Runs_lookAt_45 1 rfl rfl ?_
      refine x_alen (pc := 46) (M := 64) X d_Runs_lookAt_46 3 rfl rfl ?_
      refine x_iload_n (pc := 47) X d_Runs_lookAt_47 2 rfl rfl ?_
      refine x_isub (pc := 48) X d_Runs_lookAt_48  ?_
      refine x_iload_n (pc := 49) X d_Runs_lookAt_49 2 rfl rfl ?_
      obtain ⟨r1, h2, h⟩ := bnd_e h
      refine x_callV (pc := 50) (As := [.int (zi (64 - v2)), .int (zi v2)]) (rest := []) (w2 := (w_Runs_Arr64 cI cB a0 a1 a2 a3 r1.1 r1.2.1 r1.2.2 qow)) X d_Runs_lookAt_50 lk_Runs_22 mv_Runs_add (c_Runs_add l D cI cB a0 a1 a2 rm rs rz (64 - v2) v2 h2) ⟨(Nat.le_of_ble_eq_true rfl), (Nat.le_of_ble_eq_true rfl), (Nat.le_of_ble_eq_true rfl), (Nat.le_of_ble_eq_true rfl)⟩ 0 rfl rfl [0, 1, 2] rfl rfl rfl (Up.of [3] [(a3, zA cI 64 qow)] rfl rfl rfl 4 rfl (by decide +kernel)) rfl rfl (Nat.le_of_ble_eq_true rfl) ?_
      cases h
      exact x_vret (pc := 53) X hR d_Runs_lookAt_53
    · skip
      refine x_aload_n (pc := 15) X d_Runs_lookAt_15 1 rfl rfl ?_
      refine x_iload_n (pc := 16) X d_Runs_lookAt_16 3 rfl rfl ?_
      refine x_iald (pc := 17) X d_Runs_lookAt_17 3 rfl (Nat.le_of_ble_eq_true rfl) rfl h (fun h => ?_)
      refine x_iconst (pc := 18) X d_Runs_lookAt_18  ?_
      refine x_icmpne (pc := 19) (tgt := 28) X d_Runs_lookAt_19 rfl h (fun h => ?_) (fun h => ?_)
      · skip
        refine x_aload_n (pc := 28) X d_Runs_lookAt_28 0 rfl rfl ?_
        refine x_iload_n (pc := 29) X d_Runs_lookAt_29 3 rfl rfl ?_
        refine x_iload_n (pc := 30) X d_Runs_lookAt_30 2 rfl rfl ?_
        refine x_isub (pc := 31) X d_Runs_lookAt_31  ?_
        refine x_iload_n (pc := 32) X d_Runs_lookAt_32 2 rfl rfl ?_
        obtain ⟨r3, h4, h⟩ := bnd_e h
        refine x_callV (pc := 33) (As := [.int (zi (v3 - v2)), .int (zi v2)]) (rest := []) (w2 := (w_Runs_Arr64 cI cB a0 a1 a2 a3 r3.1 r3.2.1 r3.2.2 qow)) X d_Runs_lookAt_33 lk_Runs_22 mv_Runs_add (c_Runs_add l D cI cB a0 a1 a2 rm rs rz (v3 - v2) v2 h4) ⟨(Nat.le_of_ble_eq_true rfl), (Nat.le_of_ble_eq_true rfl), (Nat.le_of_ble_eq_true rfl), (Nat.le_of_ble_eq_true rfl)⟩ 0 rfl rfl [0, 1, 2] rfl rfl rfl (Up.of [3] [(a3, zA cI 64 qow)] rfl rfl rfl 4 rfl (by decide +kernel)) rfl rfl (Nat.le_of_ble_eq_true rfl) ?_
        refine x_iconst (pc := 36) X d_Runs_lookAt_36  ?_
        refine x_istore_n (pc := 37) (ls2 := [(2, .int (zi 0)), (0, .ref a0), (1, .ref a3), (3, .int (zi v3))]) X d_Runs_lookAt_37 rfl (Nat.le_of_ble_eq_true rfl) rfl ?_
        refine x_iinc (pc := 38) (ls2 := [(3, .int (zi (v3 + 1))), (2, .int (zi 0)), (0, .ref a0), (1, .ref a3)]) X d_Runs_lookAt_38 3 (Nat.le_of_ble_eq_true rfl) rfl rfl ?_
        refine x_goto (pc := 41) (tgt := 9) X d_Runs_lookAt_41 rfl ?_
        refine x_ls (ls2 := [(0, .ref a0), (1, .ref a3), (2, .int (zi 0)), (3, .int (zi (v3 + 1)))]) [2, 3, 1, 0] rfl ?_
        exact ih 0 (v3 + 1) r3.1 r3.2.1 r3.2.2 qow o h hR
      · skip
        refine x_iinc (pc := 22) (ls2 := [(2, .int (zi (v2 + 1))), (0, .ref a0), (1, .ref a3), (3, .int (zi v3))]) X d_Runs_lookAt_22 2 (Nat.le_of_ble_eq_true rfl) rfl rfl ?_
        refine x_goto (pc := 25) (tgt := 38) X d_Runs_lookAt_25 rfl ?_
        refine x_iinc (pc := 38) (ls2 := [(3, .int (zi (v3 + 1))), (2, .int (zi (v2 + 1))), (0, .ref a0), (1, .ref a3)]) X d_Runs_lookAt_38 3 (Nat.le_of_ble_eq_true rfl) rfl rfl ?_
        refine x_goto (pc := 41) (tgt := 9) X d_Runs_lookAt_41 rfl ?_
        refine x_ls (ls2 := [(0, .ref a0), (1, .ref a3), (2, .int (zi (v2 + 1))), (3, .int (zi (v3 + 1)))]) [2, 3, 1, 0] rfl ?_
        exact ih (v2 + 1) (v3 + 1) rm rs rz qow o h hR
set_option maxHeartbeats 4000000 in
set_option maxRecDepth 100000 in
theorem c_Runs_lookAt (l : Launch) (D : va_G) (cI cB : ClassId) (a0 a1 a2 a3 : Nat) (rm : Int) (rs : Int → Int) (rz : Int → Int) (qow : Int → Int)  {o : Int × (Int → Int) × (Int → Int)} (h : m_Runs_lookAt rm rs rz qow = some o) : Ct l D cI cB y_Runs_lookAt b_Runs_lookAt 4 none { frames := 1, cells := 0, slots := 0, locals := 22 } [.ref a0, .ref a3] (w_Runs_Arr64 cI cB a0 a1 a2 a3 rm rs rz qow) (w_Runs_Arr64 cI cB a0 a1 a2 a3 o.1 o.2.1 o.2.2 qow) none := by
  refine Ct.start (by decide) (Nat.le_of_ble_eq_true rfl) (fun G X hR => ?_)
  refine x_ls (ls2 := [(0, .ref a0), (1, .ref a3)]) [0, 1] rfl ?_
  unfold m_Runs_lookAt at h
  refine x_aload_n (pc := 0) X d_Runs_lookAt_0 0 rfl rfl ?_
  refine x_iconst (pc := 1) X d_Runs_lookAt_1  ?_
  refine x_put (pc := 2) (w2 := (w_Runs_Arr64 cI cB a0 a1 a2 a3 0 rs rz qow)) X d_Runs_lookAt_2 0 rfl (fp_Runs_18 _) (Nat.le_of_ble_eq_true rfl) rfl ?_
  refine x_iconst (pc := 5) X d_Runs_lookAt_5  ?_
  refine x_istore_n (pc := 6) (ls2 := [(2, .int (zi 0)), (0, .ref a0), (1, .ref a3)]) X d_Runs_lookAt_6 rfl (Nat.le_of_ble_eq_true rfl) rfl ?_
  refine x_iconst (pc := 7) X d_Runs_lookAt_7  ?_
  refine x_istore_n (pc := 8) (ls2 := [(3, .int (zi 0)), (2, .int (zi 0)), (0, .ref a0), (1, .ref a3)]) X d_Runs_lookAt_8 rfl (Nat.le_of_ble_eq_true rfl) rfl ?_
  refine x_ls (ls2 := [(0, .ref a0), (1, .ref a3), (2, .int (zi 0)), (3, .int (zi 0))]) [2, 3, 1, 0] rfl ?_
  exact l_Runs_lookAt_9 X 5000 0 0 0 rs rz qow o h hR
theorem d_Runs_leastFor_0 : decode b_Runs_leastFor 0 = .ok (.iconst (-1), 1) := by decide +kernel
theorem d_Runs_leastFor_1 : decode b_Runs_leastFor 1 = .ok (.istore_n 2, 1) := by decide +kernel
theorem d_Runs_leastFor_2 : decode b_Runs_leastFor 2 = .ok (.bipush 65, 2) := by decide +kernel
theorem d_Runs_leastFor_4 : decode b_Runs_leastFor 4 = .ok (.istore_n 3, 1) := by decide +kernel
theorem d_Runs_leastFor_5 : decode b_Runs_leastFor 5 = .ok (.iconst 0, 1) := by decide +kernel
theorem d_Runs_leastFor_6 : decode b_Runs_leastFor 6 = .ok (.istore 4, 2) := by decide +kernel
theorem d_Runs_leastFor_8 : decode b_Runs_leastFor 8 = .ok (.iload 4, 2) := by decide +kernel
theorem d_Runs_leastFor_10 : decode b_Runs_leastFor 10 = .ok (.aload_n 0, 1) := by decide +kernel
theorem d_Runs_leastFor_11 : decode b_Runs_leastFor 11 = .ok (.getfield 18, 3) := by decide +kernel
theorem d_Runs_leastFor_14 : decode b_Runs_leastFor 14 = .ok (.if_icmp .ge 52, 3) := by decide +kernel
theorem d_Runs_leastFor_17 : decode b_Runs_leastFor 17 = .ok (.iload 4, 2) := by decide +kernel
theorem d_Runs_leastFor_19 : decode b_Runs_leastFor 19 = .ok (.aload_n 0, 1) := by decide +kernel
theorem d_Runs_leastFor_20 : decode b_Runs_leastFor 20 = .ok (.getfield 15, 3) := by decide +kernel
theorem d_Runs_leastFor_23 : decode b_Runs_leastFor 23 = .ok (.arraylength, 1) := by decide +kernel
theorem d_Runs_leastFor_24 : decode b_Runs_leastFor 24 = .ok (.if_icmp .ge 42, 3) := by decide +kernel
theorem d_Runs_leastFor_27 : decode b_Runs_leastFor 27 = .ok (.aload_n 0, 1) := by decide +kernel
theorem d_Runs_leastFor_28 : decode b_Runs_leastFor 28 = .ok (.getfield 15, 3) := by decide +kernel
theorem d_Runs_leastFor_31 : decode b_Runs_leastFor 31 = .ok (.iload 4, 2) := by decide +kernel
theorem d_Runs_leastFor_33 : decode b_Runs_leastFor 33 = .ok (.iaload, 1) := by decide +kernel
theorem d_Runs_leastFor_34 : decode b_Runs_leastFor 34 = .ok (.iload_n 1, 1) := by decide +kernel
theorem d_Runs_leastFor_35 : decode b_Runs_leastFor 35 = .ok (.if_icmp .lt 25, 3) := by decide +kernel
theorem d_Runs_leastFor_38 : decode b_Runs_leastFor 38 = .ok (.aload_n 0, 1) := by decide +kernel
theorem d_Runs_leastFor_39 : decode b_Runs_leastFor 39 = .ok (.getfield 15, 3) := by decide +kernel
theorem d_Runs_leastFor_42 : decode b_Runs_leastFor 42 = .ok (.iload 4, 2) := by decide +kernel
theorem d_Runs_leastFor_44 : decode b_Runs_leastFor 44 = .ok (.iaload, 1) := by decide +kernel
theorem d_Runs_leastFor_45 : decode b_Runs_leastFor 45 = .ok (.iload_n 3, 1) := by decide +kernel
theorem d_Runs_leastFor_46 : decode b_Runs_leastFor 46 = .ok (.if_icmp .ge 14, 3) := by decide +kernel
theorem d_Runs_leastFor_49 : decode b_Runs_leastFor 49 = .ok (.iload 4, 2) := by decide +kernel
theorem d_Runs_leastFor_51 : decode b_Runs_leastFor 51 = .ok (.istore_n 2, 1) := by decide +kernel
theorem d_Runs_leastFor_52 : decode b_Runs_leastFor 52 = .ok (.aload_n 0, 1) := by decide +kernel
theorem d_Runs_leastFor_53 : decode b_Runs_leastFor 53 = .ok (.getfield 15, 3) := by decide +kernel
theorem d_Runs_leastFor_56 : decode b_Runs_leastFor 56 = .ok (.iload 4, 2) := by decide +kernel
theorem d_Runs_leastFor_58 : decode b_Runs_leastFor 58 = .ok (.iaload, 1) := by decide +kernel
theorem d_Runs_leastFor_59 : decode b_Runs_leastFor 59 = .ok (.istore_n 3, 1) := by decide +kernel
theorem d_Runs_leastFor_60 : decode b_Runs_leastFor 60 = .ok (.iinc 4 1, 3) := by decide +kernel
theorem d_Runs_leastFor_63 : decode b_Runs_leastFor 63 = .ok (.goto (-55), 3) := by decide +kernel
theorem d_Runs_leastFor_66 : decode b_Runs_leastFor 66 = .ok (.iload_n 2, 1) := by decide +kernel
theorem d_Runs_leastFor_67 : decode b_Runs_leastFor 67 = .ok (.ireturn, 1) := by decide +kernel
def m_Runs_leastFor_8 : Nat → Int → Int → Int → Int → Int → (Int → Int) → Option (Int)
  | 0, _, _, _, _, _, _ => none
  | fuel + 1, v1, v2, v3, v4, rm, rz =>
  clt v4 rm (clt v4 32 (gd (zx v4 32) (clt (rz v4) v1 (m_Runs_leastFor_8 fuel v1 v2 v3 (v4 + 1) rm rz) (gd (zx v4 32) (clt (rz v4) v3 (gd (zx v4 32) (m_Runs_leastFor_8 fuel v1 v4 (rz v4) (v4 + 1) rm rz)) (m_Runs_leastFor_8 fuel v1 v2 v3 (v4 + 1) rm rz))))) (some (v2))) (some (v2))
def m_Runs_leastFor (x1 : Int) (rm : Int) (rz : Int → Int) : Option (Int) :=
  m_Runs_leastFor_8 5000 x1 (-1) 65 0 rm rz
set_option maxHeartbeats 4000000 in
set_option maxRecDepth 100000 in
theorem l_Runs_leastFor_8 {G : GT} {l : Launch} {D : va_G} {cI cB : ClassId} {a0 a1 a2 : Nat} {rs : Int → Int} (X : Cx G l D cI cB b_Runs_leastFor y_Runs_leastFor.cls 5 { frames := 0, cells := 0, slots := 0, locals := 0 }) : ∀ (fuel : Nat) (v1 : Int) (v2 : Int) (v3 : Int) (v4 : Int) (rm : Int) (rz : Int → Int) (o : Int), m_Runs_leastFor_8 fuel v1 v2 v3 v4 rm rz = some o → Rt G (some .int) (some (.int (zi o))) (w_Runs cI cB a0 a1 a2 rm rs rz) → Wx G 0 0 8 [(0, .ref a0), (1, .int (zi v1)), (2, .int (zi v2)), (3, .int (zi v3)), (4, .int (zi v4))] [] (w_Runs cI cB a0 a1 a2 rm rs rz) := by
  intro fuel
  induction fuel with
  | zero =>
    intro v1 v2 v3 v4 rm rz o h
    exact absurd h (by simp [m_Runs_leastFor_8])
  | succ fuel ih =>
    intro v1 v2 v3 v4 rm rz o h hR
    rw [m_Runs_leastFor_8] at h
    refine x_iload (pc := 8) X d_Runs_leastFor_8 4 rfl ?_
    refine x_aload_n (pc := 10) X d_Runs_leastFor_10 0 rfl rfl ?_
    refine x_get (pc := 11) X d_Runs_leastFor_11 0 rfl fl_Runs_18 rfl ?_
    refine x_icmpge (pc := 14) (tgt := 66) X d_Runs_leastFor_14 rfl h (fun h => ?_) (fun h => ?_)
    · skip
      refine x_iload_n (pc := 66) X d_Runs_leastFor_66 2 rfl rfl ?_
      cases h
      exact x_iret (pc := 67) X hR d_Runs_leastFor_67
    · skip
      refine x_iload (pc := 17) X d_Runs_leastFor_17 4 rfl ?_
      refine x_aload_n (pc := 19) X d_Runs_leastFor_19 0 rfl rfl ?_
      refine x_get (pc := 20) X d_Runs_leastFor_20 0 rfl fl_Runs_15 rfl ?_
      refine x_alen (pc := 23) (M := 32) X d_Runs_leastFor_23 2 rfl rfl ?_
      refine x_icmpge (pc := 24) (tgt := 66) X d_Runs_leastFor_24 rfl h (fun h => ?_) (fun h => ?_)
      · skip
        refine x_iload_n (pc := 66) X d_Runs_leastFor_66 2 rfl rfl ?_
        cases h
        exact x_iret (pc := 67) X hR d_Runs_leastFor_67
      · skip
        refine x_aload_n (pc := 27) X d_Runs_leastFor_27 0 rfl rfl ?_
        refine x_get (pc := 28) X d_Runs_leastFor_28 0 rfl fl_Runs_15 rfl ?_
        refine x_iload (pc := 31) X d_Runs_leastFor_31 4 rfl ?_
        refine x_iald (pc := 33) X d_Runs_leastFor_33 2 rfl (Nat.le_of_ble_eq_true rfl) rfl h (fun h => ?_)
        refine x_iload_n (pc := 34) X d_Runs_leastFor_34 1 rfl rfl ?_
        refine x_icmplt (pc := 35) (tgt := 60) X d_Runs_leastFor_35 rfl h (fun h => ?_) (fun h => ?_)
        · skip
          refine x_iinc (pc := 60) (ls2 := [(4, .int (zi (v4 + 1))), (0, .ref a0), (1, .int (zi v1)), (2, .int (zi v2)), (3, .int (zi v3))]) X d_Runs_leastFor_60 4 (Nat.le_of_ble_eq_true rfl) rfl rfl ?_
          refine x_goto (pc := 63) (tgt := 8) X d_Runs_leastFor_63 rfl ?_
          refine x_ls (ls2 := [(0, .ref a0), (1, .int (zi v1)), (2, .int (zi v2)), (3, .int (zi v3)), (4, .int (zi (v4 + 1)))]) [1, 2, 3, 4, 0] rfl ?_
          exact ih v1 v2 v3 (v4 + 1) rm rz o h hR
        · skip
          refine x_aload_n (pc := 38) X d_Runs_leastFor_38 0 rfl rfl ?_
          refine x_get (pc := 39) X d_Runs_leastFor_39 0 rfl fl_Runs_15 rfl ?_
          refine x_iload (pc := 42) X d_Runs_leastFor_42 4 rfl ?_
          refine x_iald (pc := 44) X d_Runs_leastFor_44 2 rfl (Nat.le_of_ble_eq_true rfl) rfl h (fun h => ?_)
          refine x_iload_n (pc := 45) X d_Runs_leastFor_45 3 rfl rfl ?_
          refine x_icmpge (pc := 46) (tgt := 60) X d_Runs_leastFor_46 rfl h (fun h => ?_) (fun h => ?_)
          · skip
            refine x_iinc (pc := 60) (ls2 := [(4, .int (zi (v4 + 1))), (0, .ref a0), (1, .int (zi v1)), (2, .int (zi v2)), (3, .int (zi v3))]) X d_Runs_leastFor_60 4 (Nat.le_of_ble_eq_true rfl) rfl rfl ?_
            refine x_goto (pc := 63) (tgt := 8) X d_Runs_leastFor_63 rfl ?_
            refine x_ls (ls2 := [(0, .ref a0), (1, .int (zi v1)), (2, .int (zi v2)), (3, .int (zi v3)), (4, .int (zi (v4 + 1)))]) [1, 2, 3, 4, 0] rfl ?_
            exact ih v1 v2 v3 (v4 + 1) rm rz o h hR
          · skip
            refine x_iload (pc := 49) X d_Runs_leastFor_49 4 rfl ?_
            refine x_istore_n (pc := 51) (ls2 := [(2, .int (zi v4)), (0, .ref a0), (1, .int (zi v1)), (3, .int (zi v3)), (4, .int (zi v4))]) X d_Runs_leastFor_51 rfl (Nat.le_of_ble_eq_true rfl) rfl ?_
            refine x_aload_n (pc := 52) X d_Runs_leastFor_52 1 rfl rfl ?_
            refine x_get (pc := 53) X d_Runs_leastFor_53 0 rfl fl_Runs_15 rfl ?_
            refine x_iload (pc := 56) X d_Runs_leastFor_56 4 rfl ?_
            refine x_iald (pc := 58) X d_Runs_leastFor_58 2 rfl (Nat.le_of_ble_eq_true rfl) rfl h (fun h => ?_)
            refine x_istore_n (pc := 59) (ls2 := [(3, .int (zi (rz v4))), (2, .int (zi v4)), (0, .ref a0), (1, .int (zi v1)), (4, .int (zi v4))]) X d_Runs_leastFor_59 rfl (Nat.le_of_ble_eq_true rfl) rfl ?_
            refine x_iinc (pc := 60) (ls2 := [(4, .int (zi (v4 + 1))), (3, .int (zi (rz v4))), (2, .int (zi v4)), (0, .ref a0), (1, .int (zi v1))]) X d_Runs_leastFor_60 4 (Nat.le_of_ble_eq_true rfl) rfl rfl ?_
            refine x_goto (pc := 63) (tgt := 8) X d_Runs_leastFor_63 rfl ?_
            refine x_ls (ls2 := [(0, .ref a0), (1, .int (zi v1)), (2, .int (zi v4)), (3, .int (zi (rz v4))), (4, .int (zi (v4 + 1)))]) [3, 4, 2, 1, 0] rfl ?_
            exact ih v1 v4 (rz v4) (v4 + 1) rm rz o h hR
set_option maxHeartbeats 4000000 in
set_option maxRecDepth 100000 in
theorem c_Runs_leastFor (l : Launch) (D : va_G) (cI cB : ClassId) (a0 a1 a2 : Nat) (rm : Int) (rs : Int → Int) (rz : Int → Int) (x1 : Int) {o : Int} (h : m_Runs_leastFor x1 rm rz = some o) : Ct l D cI cB y_Runs_leastFor b_Runs_leastFor 5 (some .int) { frames := 0, cells := 0, slots := 0, locals := 0 } [.ref a0, .int (zi x1)] (w_Runs cI cB a0 a1 a2 rm rs rz) (w_Runs cI cB a0 a1 a2 rm rs rz) (some (.int (zi o))) := by
  refine Ct.start (by decide) (Nat.le_of_ble_eq_true rfl) (fun G X hR => ?_)
  refine x_ls (ls2 := [(0, .ref a0), (1, .int (zi x1))]) [0, 1] rfl ?_
  unfold m_Runs_leastFor at h
  refine x_iconst (pc := 0) X d_Runs_leastFor_0  ?_
  refine x_istore_n (pc := 1) (ls2 := [(2, .int (zi (-1))), (0, .ref a0), (1, .int (zi x1))]) X d_Runs_leastFor_1 rfl (Nat.le_of_ble_eq_true rfl) rfl ?_
  refine x_bipush (pc := 2) (v := 65) X d_Runs_leastFor_2 rfl ?_
  refine x_istore_n (pc := 4) (ls2 := [(3, .int (zi 65)), (2, .int (zi (-1))), (0, .ref a0), (1, .int (zi x1))]) X d_Runs_leastFor_4 rfl (Nat.le_of_ble_eq_true rfl) rfl ?_
  refine x_iconst (pc := 5) X d_Runs_leastFor_5  ?_
  refine x_istore (pc := 6) (ls2 := [(4, .int (zi 0)), (3, .int (zi 65)), (2, .int (zi (-1))), (0, .ref a0), (1, .int (zi x1))]) X d_Runs_leastFor_6 (Nat.le_of_ble_eq_true rfl) rfl ?_
  refine x_ls (ls2 := [(0, .ref a0), (1, .int (zi x1)), (2, .int (zi (-1))), (3, .int (zi 65)), (4, .int (zi 0))]) [3, 4, 2, 1, 0] rfl ?_
  exact l_Runs_leastFor_8 X 5000 x1 (-1) 65 0 rm rz o h hR
theorem d_Runs_startAt_0 : decode b_Runs_startAt 0 = .ok (.iload_n 1, 1) := by decide +kernel
theorem d_Runs_startAt_1 : decode b_Runs_startAt 1 = .ok (.ifCond .lt 29, 3) := by decide +kernel
theorem d_Runs_startAt_4 : decode b_Runs_startAt 4 = .ok (.iload_n 1, 1) := by decide +kernel
theorem d_Runs_startAt_5 : decode b_Runs_startAt 5 = .ok (.aload_n 0, 1) := by decide +kernel
theorem d_Runs_startAt_6 : decode b_Runs_startAt 6 = .ok (.getfield 18, 3) := by decide +kernel
theorem d_Runs_startAt_9 : decode b_Runs_startAt 9 = .ok (.if_icmp .ge 21, 3) := by decide +kernel
theorem d_Runs_startAt_12 : decode b_Runs_startAt 12 = .ok (.iload_n 1, 1) := by decide +kernel
theorem d_Runs_startAt_13 : decode b_Runs_startAt 13 = .ok (.aload_n 0, 1) := by decide +kernel
theorem d_Runs_startAt_14 : decode b_Runs_startAt 14 = .ok (.getfield 9, 3) := by decide +kernel
theorem d_Runs_startAt_17 : decode b_Runs_startAt 17 = .ok (.arraylength, 1) := by decide +kernel
theorem d_Runs_startAt_18 : decode b_Runs_startAt 18 = .ok (.if_icmp .ge 12, 3) := by decide +kernel
theorem d_Runs_startAt_21 : decode b_Runs_startAt 21 = .ok (.aload_n 0, 1) := by decide +kernel
theorem d_Runs_startAt_22 : decode b_Runs_startAt 22 = .ok (.getfield 9, 3) := by decide +kernel
theorem d_Runs_startAt_25 : decode b_Runs_startAt 25 = .ok (.iload_n 1, 1) := by decide +kernel
theorem d_Runs_startAt_26 : decode b_Runs_startAt 26 = .ok (.iaload, 1) := by decide +kernel
theorem d_Runs_startAt_27 : decode b_Runs_startAt 27 = .ok (.goto 4, 3) := by decide +kernel
theorem d_Runs_startAt_30 : decode b_Runs_startAt 30 = .ok (.iconst (-1), 1) := by decide +kernel
theorem d_Runs_startAt_31 : decode b_Runs_startAt 31 = .ok (.ireturn, 1) := by decide +kernel
def m_Runs_startAt (x1 : Int) (rm : Int) (rs : Int → Int) : Option (Int) :=
  clt x1 0 (some ((-1))) (clt x1 rm (clt x1 32 (gd (zx x1 32) (some ((rs x1)))) (some ((-1)))) (some ((-1))))
set_option maxHeartbeats 4000000 in
set_option maxRecDepth 100000 in
theorem c_Runs_startAt (l : Launch) (D : va_G) (cI cB : ClassId) (a0 a1 a2 : Nat) (rm : Int) (rs : Int → Int) (rz : Int → Int) (x1 : Int) {o : Int} (h : m_Runs_startAt x1 rm rs = some o) : Ct l D cI cB y_Runs_startAt b_Runs_startAt 2 (some .int) { frames := 0, cells := 0, slots := 0, locals := 0 } [.ref a0, .int (zi x1)] (w_Runs cI cB a0 a1 a2 rm rs rz) (w_Runs cI cB a0 a1 a2 rm rs rz) (some (.int (zi o))) := by
  refine Ct.start (by decide) (Nat.le_of_ble_eq_true rfl) (fun G X hR => ?_)
  refine x_ls (ls2 := [(0, .ref a0), (1, .int (zi x1))]) [0, 1] rfl ?_
  unfold m_Runs_startAt at h
  refine x_iload_n (pc := 0) X d_Runs_startAt_0 1 rfl rfl ?_
  refine x_iflt (pc := 1) (tgt := 30) X d_Runs_startAt_1 rfl h (fun h => ?_) (fun h => ?_)
  · skip
    refine x_iconst (pc := 30) X d_Runs_startAt_30  ?_
    cases h
    exact x_iret (pc := 31) X hR d_Runs_startAt_31
  · skip
    refine x_iload_n (pc := 4) X d_Runs_startAt_4 1 rfl rfl ?_
    refine x_aload_n (pc := 5) X d_Runs_startAt_5 0 rfl rfl ?_
    refine x_get (pc := 6) X d_Runs_startAt_6 0 rfl fl_Runs_18 rfl ?_
    refine x_icmpge (pc := 9) (tgt := 30) X d_Runs_startAt_9 rfl h (fun h => ?_) (fun h => ?_)
    · skip
      refine x_iconst (pc := 30) X d_Runs_startAt_30  ?_
      cases h
      exact x_iret (pc := 31) X hR d_Runs_startAt_31
    · skip
      refine x_iload_n (pc := 12) X d_Runs_startAt_12 1 rfl rfl ?_
      refine x_aload_n (pc := 13) X d_Runs_startAt_13 0 rfl rfl ?_
      refine x_get (pc := 14) X d_Runs_startAt_14 0 rfl fl_Runs_9 rfl ?_
      refine x_alen (pc := 17) (M := 32) X d_Runs_startAt_17 1 rfl rfl ?_
      refine x_icmpge (pc := 18) (tgt := 30) X d_Runs_startAt_18 rfl h (fun h => ?_) (fun h => ?_)
      · skip
        refine x_iconst (pc := 30) X d_Runs_startAt_30  ?_
        cases h
        exact x_iret (pc := 31) X hR d_Runs_startAt_31
      · skip
        refine x_aload_n (pc := 21) X d_Runs_startAt_21 0 rfl rfl ?_
        refine x_get (pc := 22) X d_Runs_startAt_22 0 rfl fl_Runs_9 rfl ?_
        refine x_iload_n (pc := 25) X d_Runs_startAt_25 1 rfl rfl ?_
        refine x_iald (pc := 26) X d_Runs_startAt_26 1 rfl (Nat.le_of_ble_eq_true rfl) rfl h (fun h => ?_)
        refine x_goto (pc := 27) (tgt := 31) X d_Runs_startAt_27 rfl ?_
        cases h
        exact x_iret (pc := 31) X hR d_Runs_startAt_31
theorem d_Vol_isBlock_0 : decode b_Vol_isBlock 0 = .ok (.iload_n 0, 1) := by decide +kernel
theorem d_Vol_isBlock_1 : decode b_Vol_isBlock 1 = .ok (.ifCond .lt 13, 3) := by decide +kernel
theorem d_Vol_isBlock_4 : decode b_Vol_isBlock 4 = .ok (.iload_n 0, 1) := by decide +kernel
theorem d_Vol_isBlock_5 : decode b_Vol_isBlock 5 = .ok (.bipush 64, 2) := by decide +kernel
theorem d_Vol_isBlock_7 : decode b_Vol_isBlock 7 = .ok (.if_icmp .ge 7, 3) := by decide +kernel
theorem d_Vol_isBlock_10 : decode b_Vol_isBlock 10 = .ok (.iconst 1, 1) := by decide +kernel
theorem d_Vol_isBlock_11 : decode b_Vol_isBlock 11 = .ok (.goto 4, 3) := by decide +kernel
theorem d_Vol_isBlock_14 : decode b_Vol_isBlock 14 = .ok (.iconst 0, 1) := by decide +kernel
theorem d_Vol_isBlock_15 : decode b_Vol_isBlock 15 = .ok (.ireturn, 1) := by decide +kernel
def m_Vol_isBlock (x0 : Int)  : Option (Int) :=
  clt x0 0 (some (0)) (clt x0 64 (some (1)) (some (0)))
set_option maxHeartbeats 4000000 in
set_option maxRecDepth 100000 in
theorem c_Vol_isBlock (l : Launch) (D : va_G) (cI cB : ClassId)   (x0 : Int) {o : Int} (h : m_Vol_isBlock x0 = some o) : Ct l D cI cB y_Vol_isBlock b_Vol_isBlock 1 (some .boolean) { frames := 0, cells := 0, slots := 0, locals := 0 } [.int (zi x0)] [] [] (some (.int (zi o))) := by
  refine Ct.start (by decide) (Nat.le_of_ble_eq_true rfl) (fun G X hR => ?_)
  refine x_ls (ls2 := [(0, .int (zi x0))]) [0] rfl ?_
  unfold m_Vol_isBlock at h
  refine x_iload_n (pc := 0) X d_Vol_isBlock_0 0 rfl rfl ?_
  refine x_iflt (pc := 1) (tgt := 14) X d_Vol_isBlock_1 rfl h (fun h => ?_) (fun h => ?_)
  · skip
    refine x_iconst (pc := 14) X d_Vol_isBlock_14  ?_
    cases h
    exact x_zret (pc := 15) X hR d_Vol_isBlock_15 (Or.inl rfl)
  · skip
    refine x_iload_n (pc := 4) X d_Vol_isBlock_4 0 rfl rfl ?_
    refine x_bipush (pc := 5) (v := 64) X d_Vol_isBlock_5 rfl ?_
    refine x_icmpge (pc := 7) (tgt := 14) X d_Vol_isBlock_7 rfl h (fun h => ?_) (fun h => ?_)
    · skip
      refine x_iconst (pc := 14) X d_Vol_isBlock_14  ?_
      cases h
      exact x_zret (pc := 15) X hR d_Vol_isBlock_15 (Or.inl rfl)
    · skip
      refine x_iconst (pc := 10) X d_Vol_isBlock_10  ?_
      refine x_goto (pc := 11) (tgt := 15) X d_Vol_isBlock_11 rfl ?_
      cases h
      exact x_zret (pc := 15) X hR d_Vol_isBlock_15 (Or.inr rfl)
theorem d_Text_isSeries_0 : decode b_Text_isSeries 0 = .ok (.iload_n 0, 1) := by decide +kernel
theorem d_Text_isSeries_1 : decode b_Text_isSeries 1 = .ok (.invokestatic 80, 3) := by decide +kernel
theorem d_Text_isSeries_4 : decode b_Text_isSeries 4 = .ok (.ifCond .eq 20, 3) := by decide +kernel
theorem d_Text_isSeries_7 : decode b_Text_isSeries 7 = .ok (.iload_n 1, 1) := by decide +kernel
theorem d_Text_isSeries_8 : decode b_Text_isSeries 8 = .ok (.iconst 1, 1) := by decide +kernel
theorem d_Text_isSeries_9 : decode b_Text_isSeries 9 = .ok (.if_icmp .lt 15, 3) := by decide +kernel
theorem d_Text_isSeries_12 : decode b_Text_isSeries 12 = .ok (.iload_n 1, 1) := by decide +kernel
theorem d_Text_isSeries_13 : decode b_Text_isSeries 13 = .ok (.bipush 24, 2) := by decide +kernel
theorem d_Text_isSeries_15 : decode b_Text_isSeries 15 = .ok (.iload_n 0, 1) := by decide +kernel
theorem d_Text_isSeries_16 : decode b_Text_isSeries 16 = .ok (.isub, 1) := by decide +kernel
theorem d_Text_isSeries_17 : decode b_Text_isSeries 17 = .ok (.if_icmp .gt 7, 3) := by decide +kernel
theorem d_Text_isSeries_20 : decode b_Text_isSeries 20 = .ok (.iconst 1, 1) := by decide +kernel
theorem d_Text_isSeries_21 : decode b_Text_isSeries 21 = .ok (.goto 4, 3) := by decide +kernel
theorem d_Text_isSeries_24 : decode b_Text_isSeries 24 = .ok (.iconst 0, 1) := by decide +kernel
theorem d_Text_isSeries_25 : decode b_Text_isSeries 25 = .ok (.ireturn, 1) := by decide +kernel
def m_Text_isSeries (x0 : Int) (x1 : Int)  : Option (Int) :=
  bnd (m_Vol_isPage x0) (fun r1 => ceq r1 0 (some (0)) (clt x1 1 (some (0)) (cle x1 (24 - x0) (some (1)) (some (0)))))
set_option maxHeartbeats 4000000 in
set_option maxRecDepth 100000 in
theorem c_Text_isSeries (l : Launch) (D : va_G) (cI cB : ClassId)   (x0 : Int) (x1 : Int) {o : Int} (h : m_Text_isSeries x0 x1 = some o) : Ct l D cI cB y_Text_isSeries b_Text_isSeries 2 (some .boolean) { frames := 1, cells := 0, slots := 0, locals := 20 } [.int (zi x0), .int (zi x1)] [] [] (some (.int (zi o))) := by
  refine Ct.start (by decide) (Nat.le_of_ble_eq_true rfl) (fun G X hR => ?_)
  refine x_ls (ls2 := [(0, .int (zi x0)), (1, .int (zi x1))]) [0, 1] rfl ?_
  unfold m_Text_isSeries at h
  refine x_iload_n (pc := 0) X d_Text_isSeries_0 0 rfl rfl ?_
  obtain ⟨r1, h2, h⟩ := bnd_e h
  refine x_callS (pc := 1) (As := [.int (zi x0)]) (rest := []) (w2 := []) X d_Text_isSeries_1 lk_Text_80 mv_Vol_isPage (c_Vol_isPage l D cI cB x0 h2) ⟨(Nat.le_of_ble_eq_true rfl), (Nat.le_of_ble_eq_true rfl), (Nat.le_of_ble_eq_true rfl), (Nat.le_of_ble_eq_true rfl)⟩ [] rfl rfl rfl (Up.same rfl) rfl rfl (Nat.le_of_ble_eq_true rfl) ?_
  refine x_ifeq (pc := 4) (tgt := 24) X d_Text_isSeries_4 rfl h (fun h => ?_) (fun h => ?_)
  · skip
    refine x_iconst (pc := 24) X d_Text_isSeries_24  ?_
    cases h
    exact x_zret (pc := 25) X hR d_Text_isSeries_25 (Or.inl rfl)
  · skip
    refine x_iload_n (pc := 7) X d_Text_isSeries_7 1 rfl rfl ?_
    refine x_iconst (pc := 8) X d_Text_isSeries_8  ?_
    refine x_icmplt (pc := 9) (tgt := 24) X d_Text_isSeries_9 rfl h (fun h => ?_) (fun h => ?_)
    · skip
      refine x_iconst (pc := 24) X d_Text_isSeries_24  ?_
      cases h
      exact x_zret (pc := 25) X hR d_Text_isSeries_25 (Or.inl rfl)
    · skip
      refine x_iload_n (pc := 12) X d_Text_isSeries_12 1 rfl rfl ?_
      refine x_bipush (pc := 13) (v := 24) X d_Text_isSeries_13 rfl ?_
      refine x_iload_n (pc := 15) X d_Text_isSeries_15 0 rfl rfl ?_
      refine x_isub (pc := 16) X d_Text_isSeries_16  ?_
      refine x_icmpgt (pc := 17) (tgt := 24) X d_Text_isSeries_17 rfl h (fun h => ?_) (fun h => ?_)
      · skip
        refine x_iconst (pc := 24) X d_Text_isSeries_24  ?_
        cases h
        exact x_zret (pc := 25) X hR d_Text_isSeries_25 (Or.inl rfl)
      · skip
        refine x_iconst (pc := 20) X d_Text_isSeries_20  ?_
        refine x_goto (pc := 21) (tgt := 25) X d_Text_isSeries_21 rfl ?_
        cases h
        exact x_zret (pc := 25) X hR d_Text_isSeries_25 (Or.inr rfl)
theorem d_Runs_holds_0 : decode b_Runs_holds 0 = .ok (.iconst 0, 1) := by decide +kernel
theorem d_Runs_holds_1 : decode b_Runs_holds 1 = .ok (.istore_n 3, 1) := by decide +kernel
theorem d_Runs_holds_2 : decode b_Runs_holds 2 = .ok (.iload_n 3, 1) := by decide +kernel
theorem d_Runs_holds_3 : decode b_Runs_holds 3 = .ok (.aload_n 0, 1) := by decide +kernel
theorem d_Runs_holds_4 : decode b_Runs_holds 4 = .ok (.getfield 18, 3) := by decide +kernel
theorem d_Runs_holds_7 : decode b_Runs_holds 7 = .ok (.if_icmp .ge 58, 3) := by decide +kernel
theorem d_Runs_holds_10 : decode b_Runs_holds 10 = .ok (.iload_n 3, 1) := by decide +kernel
theorem d_Runs_holds_11 : decode b_Runs_holds 11 = .ok (.aload_n 0, 1) := by decide +kernel
theorem d_Runs_holds_12 : decode b_Runs_holds 12 = .ok (.getfield 9, 3) := by decide +kernel
theorem d_Runs_holds_15 : decode b_Runs_holds 15 = .ok (.arraylength, 1) := by decide +kernel
theorem d_Runs_holds_16 : decode b_Runs_holds 16 = .ok (.if_icmp .ge 49, 3) := by decide +kernel
theorem d_Runs_holds_19 : decode b_Runs_holds 19 = .ok (.iload_n 3, 1) := by decide +kernel
theorem d_Runs_holds_20 : decode b_Runs_holds 20 = .ok (.aload_n 0, 1) := by decide +kernel
theorem d_Runs_holds_21 : decode b_Runs_holds 21 = .ok (.getfield 15, 3) := by decide +kernel
theorem d_Runs_holds_24 : decode b_Runs_holds 24 = .ok (.arraylength, 1) := by decide +kernel
theorem d_Runs_holds_25 : decode b_Runs_holds 25 = .ok (.if_icmp .ge 40, 3) := by decide +kernel
theorem d_Runs_holds_28 : decode b_Runs_holds 28 = .ok (.aload_n 0, 1) := by decide +kernel
theorem d_Runs_holds_29 : decode b_Runs_holds 29 = .ok (.getfield 9, 3) := by decide +kernel
theorem d_Runs_holds_32 : decode b_Runs_holds 32 = .ok (.iload_n 3, 1) := by decide +kernel
theorem d_Runs_holds_33 : decode b_Runs_holds 33 = .ok (.iaload, 1) := by decide +kernel
theorem d_Runs_holds_34 : decode b_Runs_holds 34 = .ok (.iload_n 1, 1) := by decide +kernel
theorem d_Runs_holds_35 : decode b_Runs_holds 35 = .ok (.if_icmp .gt 24, 3) := by decide +kernel
theorem d_Runs_holds_38 : decode b_Runs_holds 38 = .ok (.iload_n 1, 1) := by decide +kernel
theorem d_Runs_holds_39 : decode b_Runs_holds 39 = .ok (.iload_n 2, 1) := by decide +kernel
theorem d_Runs_holds_40 : decode b_Runs_holds 40 = .ok (.iadd, 1) := by decide +kernel
theorem d_Runs_holds_41 : decode b_Runs_holds 41 = .ok (.aload_n 0, 1) := by decide +kernel
theorem d_Runs_holds_42 : decode b_Runs_holds 42 = .ok (.getfield 9, 3) := by decide +kernel
theorem d_Runs_holds_45 : decode b_Runs_holds 45 = .ok (.iload_n 3, 1) := by decide +kernel
theorem d_Runs_holds_46 : decode b_Runs_holds 46 = .ok (.iaload, 1) := by decide +kernel
theorem d_Runs_holds_47 : decode b_Runs_holds 47 = .ok (.aload_n 0, 1) := by decide +kernel
theorem d_Runs_holds_48 : decode b_Runs_holds 48 = .ok (.getfield 15, 3) := by decide +kernel
theorem d_Runs_holds_51 : decode b_Runs_holds 51 = .ok (.iload_n 3, 1) := by decide +kernel
theorem d_Runs_holds_52 : decode b_Runs_holds 52 = .ok (.iaload, 1) := by decide +kernel
theorem d_Runs_holds_53 : decode b_Runs_holds 53 = .ok (.iadd, 1) := by decide +kernel
theorem d_Runs_holds_54 : decode b_Runs_holds 54 = .ok (.if_icmp .gt 5, 3) := by decide +kernel
theorem d_Runs_holds_57 : decode b_Runs_holds 57 = .ok (.iconst 1, 1) := by decide +kernel
theorem d_Runs_holds_58 : decode b_Runs_holds 58 = .ok (.ireturn, 1) := by decide +kernel
theorem d_Runs_holds_59 : decode b_Runs_holds 59 = .ok (.iinc 3 1, 3) := by decide +kernel
theorem d_Runs_holds_62 : decode b_Runs_holds 62 = .ok (.goto (-60), 3) := by decide +kernel
theorem d_Runs_holds_65 : decode b_Runs_holds 65 = .ok (.iconst 0, 1) := by decide +kernel
theorem d_Runs_holds_66 : decode b_Runs_holds 66 = .ok (.ireturn, 1) := by decide +kernel
def m_Runs_holds_2 : Nat → Int → Int → Int → Int → (Int → Int) → (Int → Int) → Option (Int)
  | 0, _, _, _, _, _, _ => none
  | fuel + 1, v1, v2, v3, rm, rs, rz =>
  clt v3 rm (clt v3 32 (clt v3 32 (gd (zx v3 32) (cle (rs v3) v1 (gd (zx v3 32) (gd (zx v3 32) (cle (v1 + v2) ((rs v3) + (rz v3)) (some (1)) (m_Runs_holds_2 fuel v1 v2 (v3 + 1) rm rs rz)))) (m_Runs_holds_2 fuel v1 v2 (v3 + 1) rm rs rz))) (some (0))) (some (0))) (some (0))
def m_Runs_holds (x1 : Int) (x2 : Int) (rm : Int) (rs : Int → Int) (rz : Int → Int) : Option (Int) :=
  m_Runs_holds_2 5000 x1 x2 0 rm rs rz
set_option maxHeartbeats 4000000 in
set_option maxRecDepth 100000 in
theorem l_Runs_holds_2 {G : GT} {l : Launch} {D : va_G} {cI cB : ClassId} {a0 a1 a2 : Nat}  (X : Cx G l D cI cB b_Runs_holds y_Runs_holds.cls 4 { frames := 0, cells := 0, slots := 0, locals := 0 }) : ∀ (fuel : Nat) (v1 : Int) (v2 : Int) (v3 : Int) (rm : Int) (rs : Int → Int) (rz : Int → Int) (o : Int), m_Runs_holds_2 fuel v1 v2 v3 rm rs rz = some o → Rt G (some .boolean) (some (.int (zi o))) (w_Runs cI cB a0 a1 a2 rm rs rz) → Wx G 0 0 2 [(0, .ref a0), (1, .int (zi v1)), (2, .int (zi v2)), (3, .int (zi v3))] [] (w_Runs cI cB a0 a1 a2 rm rs rz) := by
  intro fuel
  induction fuel with
  | zero =>
    intro v1 v2 v3 rm rs rz o h
    exact absurd h (by simp [m_Runs_holds_2])
  | succ fuel ih =>
    intro v1 v2 v3 rm rs rz o h hR
    rw [m_Runs_holds_2] at h
    refine x_iload_n (pc := 2) X d_Runs_holds_2 3 rfl rfl ?_
    refine x_aload_n (pc := 3) X d_Runs_holds_3 0 rfl rfl ?_
    refine x_get (pc := 4) X d_Runs_holds_4 0 rfl fl_Runs_18 rfl ?_
    refine x_icmpge (pc := 7) (tgt := 65) X d_Runs_holds_7 rfl h (fun h => ?_) (fun h => ?_)
    · skip
      refine x_iconst (pc := 65) X d_Runs_holds_65  ?_
      cases h
      exact x_zret (pc := 66) X hR d_Runs_holds_66 (Or.inl rfl)
    · skip
      refine x_iload_n (pc := 10) X d_Runs_holds_10 3 rfl rfl ?_
      refine x_aload_n (pc := 11) X d_Runs_holds_11 0 rfl rfl ?_
      refine x_get (pc := 12) X d_Runs_holds_12 0 rfl fl_Runs_9 rfl ?_
      refine x_alen (pc := 15) (M := 32) X d_Runs_holds_15 1 rfl rfl ?_
      refine x_icmpge (pc := 16) (tgt := 65) X d_Runs_holds_16 rfl h (fun h => ?_) (fun h => ?_)
      · skip
        refine x_iconst (pc := 65) X d_Runs_holds_65  ?_
        cases h
        exact x_zret (pc := 66) X hR d_Runs_holds_66 (Or.inl rfl)
      · skip
        refine x_iload_n (pc := 19) X d_Runs_holds_19 3 rfl rfl ?_
        refine x_aload_n (pc := 20) X d_Runs_holds_20 0 rfl rfl ?_
        refine x_get (pc := 21) X d_Runs_holds_21 0 rfl fl_Runs_15 rfl ?_
        refine x_alen (pc := 24) (M := 32) X d_Runs_holds_24 2 rfl rfl ?_
        refine x_icmpge (pc := 25) (tgt := 65) X d_Runs_holds_25 rfl h (fun h => ?_) (fun h => ?_)
        · skip
          refine x_iconst (pc := 65) X d_Runs_holds_65  ?_
          cases h
          exact x_zret (pc := 66) X hR d_Runs_holds_66 (Or.inl rfl)
        · skip
          refine x_aload_n (pc := 28) X d_Runs_holds_28 0 rfl rfl ?_
          refine x_get (pc := 29) X d_Runs_holds_29 0 rfl fl_Runs_9 rfl ?_
          refine x_iload_n (pc := 32) X d_Runs_holds_32 3 rfl rfl ?_
          refine x_iald (pc := 33) X d_Runs_holds_33 1 rfl (Nat.le_of_ble_eq_true rfl) rfl h (fun h => ?_)
          refine x_iload_n (pc := 34) X d_Runs_holds_34 1 rfl rfl ?_
          refine x_icmpgt (pc := 35) (tgt := 59) X d_Runs_holds_35 rfl h (fun h => ?_) (fun h => ?_)
          · skip
            refine x_iinc (pc := 59) (ls2 := [(3, .int (zi (v3 + 1))), (0, .ref a0), (1, .int (zi v1)), (2, .int (zi v2))]) X d_Runs_holds_59 3 (Nat.le_of_ble_eq_true rfl) rfl rfl ?_
            refine x_goto (pc := 62) (tgt := 2) X d_Runs_holds_62 rfl ?_
            refine x_ls (ls2 := [(0, .ref a0), (1, .int (zi v1)), (2, .int (zi v2)), (3, .int (zi (v3 + 1)))]) [1, 2, 3, 0] rfl ?_
            exact ih v1 v2 (v3 + 1) rm rs rz o h hR
          · skip
            refine x_iload_n (pc := 38) X d_Runs_holds_38 1 rfl rfl ?_
            refine x_iload_n (pc := 39) X d_Runs_holds_39 2 rfl rfl ?_
            refine x_iadd (pc := 40) X d_Runs_holds_40  ?_
            refine x_aload_n (pc := 41) X d_Runs_holds_41 0 rfl rfl ?_
            refine x_get (pc := 42) X d_Runs_holds_42 0 rfl fl_Runs_9 rfl ?_
            refine x_iload_n (pc := 45) X d_Runs_holds_45 3 rfl rfl ?_
            refine x_iald (pc := 46) X d_Runs_holds_46 1 rfl (Nat.le_of_ble_eq_true rfl) rfl h (fun h => ?_)
            refine x_aload_n (pc := 47) X d_Runs_holds_47 0 rfl rfl ?_
            refine x_get (pc := 48) X d_Runs_holds_48 0 rfl fl_Runs_15 rfl ?_
            refine x_iload_n (pc := 51) X d_Runs_holds_51 3 rfl rfl ?_
            refine x_iald (pc := 52) X d_Runs_holds_52 2 rfl (Nat.le_of_ble_eq_true rfl) rfl h (fun h => ?_)
            refine x_iadd (pc := 53) X d_Runs_holds_53  ?_
            refine x_icmpgt (pc := 54) (tgt := 59) X d_Runs_holds_54 rfl h (fun h => ?_) (fun h => ?_)
            · skip
              refine x_iinc (pc := 59) (ls2 := [(3, .int (zi (v3 + 1))), (0, .ref a0), (1, .int (zi v1)), (2, .int (zi v2))]) X d_Runs_holds_59 3 (Nat.le_of_ble_eq_true rfl) rfl rfl ?_
              refine x_goto (pc := 62) (tgt := 2) X d_Runs_holds_62 rfl ?_
              refine x_ls (ls2 := [(0, .ref a0), (1, .int (zi v1)), (2, .int (zi v2)), (3, .int (zi (v3 + 1)))]) [1, 2, 3, 0] rfl ?_
              exact ih v1 v2 (v3 + 1) rm rs rz o h hR
            · skip
              refine x_iconst (pc := 57) X d_Runs_holds_57  ?_
              cases h
              exact x_zret (pc := 58) X hR d_Runs_holds_58 (Or.inr rfl)
set_option maxHeartbeats 4000000 in
set_option maxRecDepth 100000 in
theorem c_Runs_holds (l : Launch) (D : va_G) (cI cB : ClassId) (a0 a1 a2 : Nat) (rm : Int) (rs : Int → Int) (rz : Int → Int) (x1 : Int) (x2 : Int) {o : Int} (h : m_Runs_holds x1 x2 rm rs rz = some o) : Ct l D cI cB y_Runs_holds b_Runs_holds 4 (some .boolean) { frames := 0, cells := 0, slots := 0, locals := 0 } [.ref a0, .int (zi x1), .int (zi x2)] (w_Runs cI cB a0 a1 a2 rm rs rz) (w_Runs cI cB a0 a1 a2 rm rs rz) (some (.int (zi o))) := by
  refine Ct.start (by decide) (Nat.le_of_ble_eq_true rfl) (fun G X hR => ?_)
  refine x_ls (ls2 := [(0, .ref a0), (1, .int (zi x1)), (2, .int (zi x2))]) [0, 1, 2] rfl ?_
  unfold m_Runs_holds at h
  refine x_iconst (pc := 0) X d_Runs_holds_0  ?_
  refine x_istore_n (pc := 1) (ls2 := [(3, .int (zi 0)), (0, .ref a0), (1, .int (zi x1)), (2, .int (zi x2))]) X d_Runs_holds_1 rfl (Nat.le_of_ble_eq_true rfl) rfl ?_
  refine x_ls (ls2 := [(0, .ref a0), (1, .int (zi x1)), (2, .int (zi x2)), (3, .int (zi 0))]) [1, 2, 3, 0] rfl ?_
  exact l_Runs_holds_2 X 5000 x1 x2 0 rm rs rz o h hR
theorem d_Runs_firstStripe_0 : decode b_Runs_firstStripe 0 = .ok (.iconst 0, 1) := by decide +kernel
theorem d_Runs_firstStripe_1 : decode b_Runs_firstStripe 1 = .ok (.istore_n 2, 1) := by decide +kernel
theorem d_Runs_firstStripe_2 : decode b_Runs_firstStripe 2 = .ok (.iload_n 2, 1) := by decide +kernel
theorem d_Runs_firstStripe_3 : decode b_Runs_firstStripe 3 = .ok (.aload_n 0, 1) := by decide +kernel
theorem d_Runs_firstStripe_4 : decode b_Runs_firstStripe 4 = .ok (.getfield 18, 3) := by decide +kernel
theorem d_Runs_firstStripe_7 : decode b_Runs_firstStripe 7 = .ok (.if_icmp .ge 63, 3) := by decide +kernel
theorem d_Runs_firstStripe_10 : decode b_Runs_firstStripe 10 = .ok (.iload_n 2, 1) := by decide +kernel
theorem d_Runs_firstStripe_11 : decode b_Runs_firstStripe 11 = .ok (.aload_n 0, 1) := by decide +kernel
theorem d_Runs_firstStripe_12 : decode b_Runs_firstStripe 12 = .ok (.getfield 9, 3) := by decide +kernel
theorem d_Runs_firstStripe_15 : decode b_Runs_firstStripe 15 = .ok (.arraylength, 1) := by decide +kernel
theorem d_Runs_firstStripe_16 : decode b_Runs_firstStripe 16 = .ok (.if_icmp .ge 54, 3) := by decide +kernel
theorem d_Runs_firstStripe_19 : decode b_Runs_firstStripe 19 = .ok (.iload_n 2, 1) := by decide +kernel
theorem d_Runs_firstStripe_20 : decode b_Runs_firstStripe 20 = .ok (.aload_n 0, 1) := by decide +kernel
theorem d_Runs_firstStripe_21 : decode b_Runs_firstStripe 21 = .ok (.getfield 15, 3) := by decide +kernel
theorem d_Runs_firstStripe_24 : decode b_Runs_firstStripe 24 = .ok (.arraylength, 1) := by decide +kernel
theorem d_Runs_firstStripe_25 : decode b_Runs_firstStripe 25 = .ok (.if_icmp .ge 45, 3) := by decide +kernel
theorem d_Runs_firstStripe_28 : decode b_Runs_firstStripe 28 = .ok (.aload_n 0, 1) := by decide +kernel
theorem d_Runs_firstStripe_29 : decode b_Runs_firstStripe 29 = .ok (.getfield 9, 3) := by decide +kernel
theorem d_Runs_firstStripe_32 : decode b_Runs_firstStripe 32 = .ok (.iload_n 2, 1) := by decide +kernel
theorem d_Runs_firstStripe_33 : decode b_Runs_firstStripe 33 = .ok (.iaload, 1) := by decide +kernel
theorem d_Runs_firstStripe_34 : decode b_Runs_firstStripe 34 = .ok (.iconst 4, 1) := by decide +kernel
theorem d_Runs_firstStripe_35 : decode b_Runs_firstStripe 35 = .ok (.iadd, 1) := by decide +kernel
theorem d_Runs_firstStripe_36 : decode b_Runs_firstStripe 36 = .ok (.iconst 1, 1) := by decide +kernel
theorem d_Runs_firstStripe_37 : decode b_Runs_firstStripe 37 = .ok (.isub, 1) := by decide +kernel
theorem d_Runs_firstStripe_38 : decode b_Runs_firstStripe 38 = .ok (.iconst 4, 1) := by decide +kernel
theorem d_Runs_firstStripe_39 : decode b_Runs_firstStripe 39 = .ok (.idiv, 1) := by decide +kernel
theorem d_Runs_firstStripe_40 : decode b_Runs_firstStripe 40 = .ok (.iconst 4, 1) := by decide +kernel
theorem d_Runs_firstStripe_41 : decode b_Runs_firstStripe 41 = .ok (.imul, 1) := by decide +kernel
theorem d_Runs_firstStripe_42 : decode b_Runs_firstStripe 42 = .ok (.istore_n 3, 1) := by decide +kernel
theorem d_Runs_firstStripe_43 : decode b_Runs_firstStripe 43 = .ok (.iload_n 3, 1) := by decide +kernel
theorem d_Runs_firstStripe_44 : decode b_Runs_firstStripe 44 = .ok (.iload_n 1, 1) := by decide +kernel
theorem d_Runs_firstStripe_45 : decode b_Runs_firstStripe 45 = .ok (.iadd, 1) := by decide +kernel
theorem d_Runs_firstStripe_46 : decode b_Runs_firstStripe 46 = .ok (.aload_n 0, 1) := by decide +kernel
theorem d_Runs_firstStripe_47 : decode b_Runs_firstStripe 47 = .ok (.getfield 9, 3) := by decide +kernel
theorem d_Runs_firstStripe_50 : decode b_Runs_firstStripe 50 = .ok (.iload_n 2, 1) := by decide +kernel
theorem d_Runs_firstStripe_51 : decode b_Runs_firstStripe 51 = .ok (.iaload, 1) := by decide +kernel
theorem d_Runs_firstStripe_52 : decode b_Runs_firstStripe 52 = .ok (.aload_n 0, 1) := by decide +kernel
theorem d_Runs_firstStripe_53 : decode b_Runs_firstStripe 53 = .ok (.getfield 15, 3) := by decide +kernel
theorem d_Runs_firstStripe_56 : decode b_Runs_firstStripe 56 = .ok (.iload_n 2, 1) := by decide +kernel
theorem d_Runs_firstStripe_57 : decode b_Runs_firstStripe 57 = .ok (.iaload, 1) := by decide +kernel
theorem d_Runs_firstStripe_58 : decode b_Runs_firstStripe 58 = .ok (.iadd, 1) := by decide +kernel
theorem d_Runs_firstStripe_59 : decode b_Runs_firstStripe 59 = .ok (.if_icmp .gt 5, 3) := by decide +kernel
theorem d_Runs_firstStripe_62 : decode b_Runs_firstStripe 62 = .ok (.iload_n 3, 1) := by decide +kernel
theorem d_Runs_firstStripe_63 : decode b_Runs_firstStripe 63 = .ok (.ireturn, 1) := by decide +kernel
theorem d_Runs_firstStripe_64 : decode b_Runs_firstStripe 64 = .ok (.iinc 2 1, 3) := by decide +kernel
theorem d_Runs_firstStripe_67 : decode b_Runs_firstStripe 67 = .ok (.goto (-65), 3) := by decide +kernel
theorem d_Runs_firstStripe_70 : decode b_Runs_firstStripe 70 = .ok (.iconst (-1), 1) := by decide +kernel
theorem d_Runs_firstStripe_71 : decode b_Runs_firstStripe 71 = .ok (.ireturn, 1) := by decide +kernel
def m_Runs_firstStripe_2 : Nat → Int → Int → Int → (Int → Int) → (Int → Int) → Option (Int)
  | 0, _, _, _, _, _ => none
  | fuel + 1, v1, v2, rm, rs, rz =>
  clt v2 rm (clt v2 32 (clt v2 32 (gd (zx v2 32) (gd (zx (((rs v2) + 4) - 1) 2147483648 ∧ zp 4 2147483648) (gd (zx v2 32) (gd (zx v2 32) (cle ((((((rs v2) + 4) - 1) / 4) * 4) + v1) ((rs v2) + (rz v2)) (some ((((((rs v2) + 4) - 1) / 4) * 4))) (m_Runs_firstStripe_2 fuel v1 (v2 + 1) rm rs rz)))))) (some ((-1)))) (some ((-1)))) (some ((-1)))
def m_Runs_firstStripe (x1 : Int) (rm : Int) (rs : Int → Int) (rz : Int → Int) : Option (Int) :=
  m_Runs_firstStripe_2 5000 x1 0 rm rs rz
set_option maxHeartbeats 4000000 in
set_option maxRecDepth 100000 in
theorem l_Runs_firstStripe_2 {G : GT} {l : Launch} {D : va_G} {cI cB : ClassId} {a0 a1 a2 : Nat}  (X : Cx G l D cI cB b_Runs_firstStripe y_Runs_firstStripe.cls 4 { frames := 0, cells := 0, slots := 0, locals := 0 }) : ∀ (fuel : Nat) (v1 : Int) (v2 : Int) (rm : Int) (rs : Int → Int) (rz : Int → Int) (o : Int), m_Runs_firstStripe_2 fuel v1 v2 rm rs rz = some o → Rt G (some .int) (some (.int (zi o))) (w_Runs cI cB a0 a1 a2 rm rs rz) → Wx G 0 0 2 [(0, .ref a0), (1, .int (zi v1)), (2, .int (zi v2))] [] (w_Runs cI cB a0 a1 a2 rm rs rz) := by
  intro fuel
  induction fuel with
  | zero =>
    intro v1 v2 rm rs rz o h
    exact absurd h (by simp [m_Runs_firstStripe_2])
  | succ fuel ih =>
    intro v1 v2 rm rs rz o h hR
    rw [m_Runs_firstStripe_2] at h
    refine x_iload_n (pc := 2) X d_Runs_firstStripe_2 2 rfl rfl ?_
    refine x_aload_n (pc := 3) X d_Runs_firstStripe_3 0 rfl rfl ?_
    refine x_get (pc := 4) X d_Runs_firstStripe_4 0 rfl fl_Runs_18 rfl ?_
    refine x_icmpge (pc := 7) (tgt := 70) X d_Runs_firstStripe_7 rfl h (fun h => ?_) (fun h => ?_)
    · skip
      refine x_iconst (pc := 70) X d_Runs_firstStripe_70  ?_
      cases h
      exact x_iret (pc := 71) X hR d_Runs_firstStripe_71
    · skip
      refine x_iload_n (pc := 10) X d_Runs_firstStripe_10 2 rfl rfl ?_
      refine x_aload_n (pc := 11) X d_Runs_firstStripe_11 0 rfl rfl ?_
      refine x_get (pc := 12) X d_Runs_firstStripe_12 0 rfl fl_Runs_9 rfl ?_
      refine x_alen (pc := 15) (M := 32) X d_Runs_firstStripe_15 1 rfl rfl ?_
      refine x_icmpge (pc := 16) (tgt := 70) X d_Runs_firstStripe_16 rfl h (fun h => ?_) (fun h => ?_)
      · skip
        refine x_iconst (pc := 70) X d_Runs_firstStripe_70  ?_
        cases h
        exact x_iret (pc := 71) X hR d_Runs_firstStripe_71
      · skip
        refine x_iload_n (pc := 19) X d_Runs_firstStripe_19 2 rfl rfl ?_
        refine x_aload_n (pc := 20) X d_Runs_firstStripe_20 0 rfl rfl ?_
        refine x_get (pc := 21) X d_Runs_firstStripe_21 0 rfl fl_Runs_15 rfl ?_
        refine x_alen (pc := 24) (M := 32) X d_Runs_firstStripe_24 2 rfl rfl ?_
        refine x_icmpge (pc := 25) (tgt := 70) X d_Runs_firstStripe_25 rfl h (fun h => ?_) (fun h => ?_)
        · skip
          refine x_iconst (pc := 70) X d_Runs_firstStripe_70  ?_
          cases h
          exact x_iret (pc := 71) X hR d_Runs_firstStripe_71
        · skip
          refine x_aload_n (pc := 28) X d_Runs_firstStripe_28 0 rfl rfl ?_
          refine x_get (pc := 29) X d_Runs_firstStripe_29 0 rfl fl_Runs_9 rfl ?_
          refine x_iload_n (pc := 32) X d_Runs_firstStripe_32 2 rfl rfl ?_
          refine x_iald (pc := 33) X d_Runs_firstStripe_33 1 rfl (Nat.le_of_ble_eq_true rfl) rfl h (fun h => ?_)
          refine x_iconst (pc := 34) X d_Runs_firstStripe_34  ?_
          refine x_iadd (pc := 35) X d_Runs_firstStripe_35  ?_
          refine x_iconst (pc := 36) X d_Runs_firstStripe_36  ?_
          refine x_isub (pc := 37) X d_Runs_firstStripe_37  ?_
          refine x_iconst (pc := 38) X d_Runs_firstStripe_38  ?_
          refine x_idiv (pc := 39) X d_Runs_firstStripe_39 h (fun h => ?_)
          refine x_iconst (pc := 40) X d_Runs_firstStripe_40  ?_
          refine x_imul (pc := 41) X d_Runs_firstStripe_41  ?_
          refine x_istore_n (pc := 42) (ls2 := [(3, .int (zi (((((rs v2) + 4) - 1) / 4) * 4))), (0, .ref a0), (1, .int (zi v1)), (2, .int (zi v2))]) X d_Runs_firstStripe_42 rfl (Nat.le_of_ble_eq_true rfl) rfl ?_
          refine x_iload_n (pc := 43) X d_Runs_firstStripe_43 0 rfl rfl ?_
          refine x_iload_n (pc := 44) X d_Runs_firstStripe_44 2 rfl rfl ?_
          refine x_iadd (pc := 45) X d_Runs_firstStripe_45  ?_
          refine x_aload_n (pc := 46) X d_Runs_firstStripe_46 1 rfl rfl ?_
          refine x_get (pc := 47) X d_Runs_firstStripe_47 0 rfl fl_Runs_9 rfl ?_
          refine x_iload_n (pc := 50) X d_Runs_firstStripe_50 3 rfl rfl ?_
          refine x_iald (pc := 51) X d_Runs_firstStripe_51 1 rfl (Nat.le_of_ble_eq_true rfl) rfl h (fun h => ?_)
          refine x_aload_n (pc := 52) X d_Runs_firstStripe_52 1 rfl rfl ?_
          refine x_get (pc := 53) X d_Runs_firstStripe_53 0 rfl fl_Runs_15 rfl ?_
          refine x_iload_n (pc := 56) X d_Runs_firstStripe_56 3 rfl rfl ?_
          refine x_iald (pc := 57) X d_Runs_firstStripe_57 2 rfl (Nat.le_of_ble_eq_true rfl) rfl h (fun h => ?_)
          refine x_iadd (pc := 58) X d_Runs_firstStripe_58  ?_
          refine x_icmpgt (pc := 59) (tgt := 64) X d_Runs_firstStripe_59 rfl h (fun h => ?_) (fun h => ?_)
          · skip
            refine x_iinc (pc := 64) (ls2 := [(2, .int (zi (v2 + 1))), (3, .int (zi (((((rs v2) + 4) - 1) / 4) * 4))), (0, .ref a0), (1, .int (zi v1))]) X d_Runs_firstStripe_64 3 (Nat.le_of_ble_eq_true rfl) rfl rfl ?_
            refine x_goto (pc := 67) (tgt := 2) X d_Runs_firstStripe_67 rfl ?_
            refine x_ls (ls2 := [(0, .ref a0), (1, .int (zi v1)), (2, .int (zi (v2 + 1)))]) [2, 3, 0] rfl ?_
            exact ih v1 (v2 + 1) rm rs rz o h hR
          · skip
            refine x_iload_n (pc := 62) X d_Runs_firstStripe_62 0 rfl rfl ?_
            cases h
            exact x_iret (pc := 63) X hR d_Runs_firstStripe_63
set_option maxHeartbeats 4000000 in
set_option maxRecDepth 100000 in
theorem c_Runs_firstStripe (l : Launch) (D : va_G) (cI cB : ClassId) (a0 a1 a2 : Nat) (rm : Int) (rs : Int → Int) (rz : Int → Int) (x1 : Int) {o : Int} (h : m_Runs_firstStripe x1 rm rs rz = some o) : Ct l D cI cB y_Runs_firstStripe b_Runs_firstStripe 4 (some .int) { frames := 0, cells := 0, slots := 0, locals := 0 } [.ref a0, .int (zi x1)] (w_Runs cI cB a0 a1 a2 rm rs rz) (w_Runs cI cB a0 a1 a2 rm rs rz) (some (.int (zi o))) := by
  refine Ct.start (by decide) (Nat.le_of_ble_eq_true rfl) (fun G X hR => ?_)
  refine x_ls (ls2 := [(0, .ref a0), (1, .int (zi x1))]) [0, 1] rfl ?_
  unfold m_Runs_firstStripe at h
  refine x_iconst (pc := 0) X d_Runs_firstStripe_0  ?_
  refine x_istore_n (pc := 1) (ls2 := [(2, .int (zi 0)), (0, .ref a0), (1, .int (zi x1))]) X d_Runs_firstStripe_1 rfl (Nat.le_of_ble_eq_true rfl) rfl ?_
  refine x_ls (ls2 := [(0, .ref a0), (1, .int (zi x1)), (2, .int (zi 0))]) [1, 2, 0] rfl ?_
  exact l_Runs_firstStripe_2 X 5000 x1 0 rm rs rz o h hR
theorem d_Runs_closestTo_0 : decode b_Runs_closestTo 0 = .ok (.iconst (-1), 1) := by decide +kernel
theorem d_Runs_closestTo_1 : decode b_Runs_closestTo 1 = .ok (.istore_n 3, 1) := by decide +kernel
theorem d_Runs_closestTo_2 : decode b_Runs_closestTo 2 = .ok (.bipush 64, 2) := by decide +kernel
theorem d_Runs_closestTo_4 : decode b_Runs_closestTo 4 = .ok (.istore 4, 2) := by decide +kernel
theorem d_Runs_closestTo_6 : decode b_Runs_closestTo 6 = .ok (.iconst 0, 1) := by decide +kernel
theorem d_Runs_closestTo_7 : decode b_Runs_closestTo 7 = .ok (.istore 5, 2) := by decide +kernel
theorem d_Runs_closestTo_9 : decode b_Runs_closestTo 9 = .ok (.iload 5, 2) := by decide +kernel
theorem d_Runs_closestTo_11 : decode b_Runs_closestTo 11 = .ok (.aload_n 0, 1) := by decide +kernel
theorem d_Runs_closestTo_12 : decode b_Runs_closestTo 12 = .ok (.getfield 18, 3) := by decide +kernel
theorem d_Runs_closestTo_15 : decode b_Runs_closestTo 15 = .ok (.if_icmp .ge 88, 3) := by decide +kernel
theorem d_Runs_closestTo_18 : decode b_Runs_closestTo 18 = .ok (.iload 5, 2) := by decide +kernel
theorem d_Runs_closestTo_20 : decode b_Runs_closestTo 20 = .ok (.aload_n 0, 1) := by decide +kernel
theorem d_Runs_closestTo_21 : decode b_Runs_closestTo 21 = .ok (.getfield 9, 3) := by decide +kernel
theorem d_Runs_closestTo_24 : decode b_Runs_closestTo 24 = .ok (.arraylength, 1) := by decide +kernel
theorem d_Runs_closestTo_25 : decode b_Runs_closestTo 25 = .ok (.if_icmp .ge 78, 3) := by decide +kernel
theorem d_Runs_closestTo_28 : decode b_Runs_closestTo 28 = .ok (.iload 5, 2) := by decide +kernel
theorem d_Runs_closestTo_30 : decode b_Runs_closestTo 30 = .ok (.aload_n 0, 1) := by decide +kernel
theorem d_Runs_closestTo_31 : decode b_Runs_closestTo 31 = .ok (.getfield 15, 3) := by decide +kernel
theorem d_Runs_closestTo_34 : decode b_Runs_closestTo 34 = .ok (.arraylength, 1) := by decide +kernel
theorem d_Runs_closestTo_35 : decode b_Runs_closestTo 35 = .ok (.if_icmp .ge 68, 3) := by decide +kernel
theorem d_Runs_closestTo_38 : decode b_Runs_closestTo 38 = .ok (.aload_n 0, 1) := by decide +kernel
theorem d_Runs_closestTo_39 : decode b_Runs_closestTo 39 = .ok (.getfield 9, 3) := by decide +kernel
theorem d_Runs_closestTo_42 : decode b_Runs_closestTo 42 = .ok (.iload 5, 2) := by decide +kernel
theorem d_Runs_closestTo_44 : decode b_Runs_closestTo 44 = .ok (.iaload, 1) := by decide +kernel
theorem d_Runs_closestTo_45 : decode b_Runs_closestTo 45 = .ok (.iload_n 1, 1) := by decide +kernel
theorem d_Runs_closestTo_46 : decode b_Runs_closestTo 46 = .ok (.if_icmp .ge 15, 3) := by decide +kernel
theorem d_Runs_closestTo_49 : decode b_Runs_closestTo 49 = .ok (.iload_n 1, 1) := by decide +kernel
theorem d_Runs_closestTo_50 : decode b_Runs_closestTo 50 = .ok (.aload_n 0, 1) := by decide +kernel
theorem d_Runs_closestTo_51 : decode b_Runs_closestTo 51 = .ok (.getfield 9, 3) := by decide +kernel
theorem d_Runs_closestTo_54 : decode b_Runs_closestTo 54 = .ok (.iload 5, 2) := by decide +kernel
theorem d_Runs_closestTo_56 : decode b_Runs_closestTo 56 = .ok (.iaload, 1) := by decide +kernel
theorem d_Runs_closestTo_57 : decode b_Runs_closestTo 57 = .ok (.isub, 1) := by decide +kernel
theorem d_Runs_closestTo_58 : decode b_Runs_closestTo 58 = .ok (.goto 12, 3) := by decide +kernel
theorem d_Runs_closestTo_61 : decode b_Runs_closestTo 61 = .ok (.aload_n 0, 1) := by decide +kernel
theorem d_Runs_closestTo_62 : decode b_Runs_closestTo 62 = .ok (.getfield 9, 3) := by decide +kernel
theorem d_Runs_closestTo_65 : decode b_Runs_closestTo 65 = .ok (.iload 5, 2) := by decide +kernel
theorem d_Runs_closestTo_67 : decode b_Runs_closestTo 67 = .ok (.iaload, 1) := by decide +kernel
theorem d_Runs_closestTo_68 : decode b_Runs_closestTo 68 = .ok (.iload_n 1, 1) := by decide +kernel
theorem d_Runs_closestTo_69 : decode b_Runs_closestTo 69 = .ok (.isub, 1) := by decide +kernel
theorem d_Runs_closestTo_70 : decode b_Runs_closestTo 70 = .ok (.istore 6, 2) := by decide +kernel
theorem d_Runs_closestTo_72 : decode b_Runs_closestTo 72 = .ok (.aload_n 0, 1) := by decide +kernel
theorem d_Runs_closestTo_73 : decode b_Runs_closestTo 73 = .ok (.getfield 15, 3) := by decide +kernel
theorem d_Runs_closestTo_76 : decode b_Runs_closestTo 76 = .ok (.iload 5, 2) := by decide +kernel
theorem d_Runs_closestTo_78 : decode b_Runs_closestTo 78 = .ok (.iaload, 1) := by decide +kernel
theorem d_Runs_closestTo_79 : decode b_Runs_closestTo 79 = .ok (.iload_n 2, 1) := by decide +kernel
theorem d_Runs_closestTo_80 : decode b_Runs_closestTo 80 = .ok (.if_icmp .lt 17, 3) := by decide +kernel
theorem d_Runs_closestTo_83 : decode b_Runs_closestTo 83 = .ok (.iload 6, 2) := by decide +kernel
theorem d_Runs_closestTo_85 : decode b_Runs_closestTo 85 = .ok (.iload 4, 2) := by decide +kernel
theorem d_Runs_closestTo_87 : decode b_Runs_closestTo 87 = .ok (.if_icmp .ge 10, 3) := by decide +kernel
theorem d_Runs_closestTo_90 : decode b_Runs_closestTo 90 = .ok (.iload 5, 2) := by decide +kernel
theorem d_Runs_closestTo_92 : decode b_Runs_closestTo 92 = .ok (.istore_n 3, 1) := by decide +kernel
theorem d_Runs_closestTo_93 : decode b_Runs_closestTo 93 = .ok (.iload 6, 2) := by decide +kernel
theorem d_Runs_closestTo_95 : decode b_Runs_closestTo 95 = .ok (.istore 4, 2) := by decide +kernel
theorem d_Runs_closestTo_97 : decode b_Runs_closestTo 97 = .ok (.iinc 5 1, 3) := by decide +kernel
theorem d_Runs_closestTo_100 : decode b_Runs_closestTo 100 = .ok (.goto (-91), 3) := by decide +kernel
theorem d_Runs_closestTo_103 : decode b_Runs_closestTo 103 = .ok (.iload_n 3, 1) := by decide +kernel
theorem d_Runs_closestTo_104 : decode b_Runs_closestTo 104 = .ok (.ireturn, 1) := by decide +kernel
def m_Runs_closestTo_9 : Nat → Int → Int → Int → Int → Int → Int → (Int → Int) → (Int → Int) → Option (Int)
  | 0, _, _, _, _, _, _, _, _ => none
  | fuel + 1, v1, v2, v3, v4, v5, rm, rs, rz =>
  clt v5 rm (clt v5 32 (clt v5 32 (gd (zx v5 32) (jn (fun (z2 : Int) (z3 : Int) (z4 : Int) (z5 : Int) (z6 : Int) (z7 : Int) => gd (zx z6 32) (clt (rz z6) z3 (m_Runs_closestTo_9 fuel z2 z3 z4 z5 (z6 + 1) rm rs rz) (clt z7 z5 (m_Runs_closestTo_9 fuel z2 z3 z6 z7 (z6 + 1) rm rs rz) (m_Runs_closestTo_9 fuel z2 z3 z4 z5 (z6 + 1) rm rs rz)))) (fun j1 => clt (rs v5) v1 (gd (zx v5 32) (j1 v1 v2 v3 v4 v5 (v1 - (rs v5)))) (gd (zx v5 32) (j1 v1 v2 v3 v4 v5 ((rs v5) - v1)))))) (some (v3))) (some (v3))) (some (v3))
def m_Runs_closestTo (x1 : Int) (x2 : Int) (rm : Int) (rs : Int → Int) (rz : Int → Int) : Option (Int) :=
  m_Runs_closestTo_9 5000 x1 x2 (-1) 64 0 rm rs rz
set_option maxHeartbeats 4000000 in
set_option maxRecDepth 100000 in
theorem l_Runs_closestTo_9 {G : GT} {l : Launch} {D : va_G} {cI cB : ClassId} {a0 a1 a2 : Nat}  (X : Cx G l D cI cB b_Runs_closestTo y_Runs_closestTo.cls 7 { frames := 0, cells := 0, slots := 0, locals := 0 }) : ∀ (fuel : Nat) (v1 : Int) (v2 : Int) (v3 : Int) (v4 : Int) (v5 : Int) (rm : Int) (rs : Int → Int) (rz : Int → Int) (o : Int), m_Runs_closestTo_9 fuel v1 v2 v3 v4 v5 rm rs rz = some o → Rt G (some .int) (some (.int (zi o))) (w_Runs cI cB a0 a1 a2 rm rs rz) → Wx G 0 0 9 [(0, .ref a0), (1, .int (zi v1)), (2, .int (zi v2)), (3, .int (zi v3)), (4, .int (zi v4)), (5, .int (zi v5))] [] (w_Runs cI cB a0 a1 a2 rm rs rz) := by
  intro fuel
  induction fuel with
  | zero =>
    intro v1 v2 v3 v4 v5 rm rs rz o h
    exact absurd h (by simp [m_Runs_closestTo_9])
  | succ fuel ih =>
    intro v1 v2 v3 v4 v5 rm rs rz o h hR
    rw [m_Runs_closestTo_9] at h
    refine x_iload (pc := 9) X d_Runs_closestTo_9 5 rfl ?_
    refine x_aload_n (pc := 11) X d_Runs_closestTo_11 0 rfl rfl ?_
    refine x_get (pc := 12) X d_Runs_closestTo_12 0 rfl fl_Runs_18 rfl ?_
    refine x_icmpge (pc := 15) (tgt := 103) X d_Runs_closestTo_15 rfl h (fun h => ?_) (fun h => ?_)
    · skip
      refine x_iload_n (pc := 103) X d_Runs_closestTo_103 3 rfl rfl ?_
      cases h
      exact x_iret (pc := 104) X hR d_Runs_closestTo_104
    · skip
      refine x_iload (pc := 18) X d_Runs_closestTo_18 5 rfl ?_
      refine x_aload_n (pc := 20) X d_Runs_closestTo_20 0 rfl rfl ?_
      refine x_get (pc := 21) X d_Runs_closestTo_21 0 rfl fl_Runs_9 rfl ?_
      refine x_alen (pc := 24) (M := 32) X d_Runs_closestTo_24 1 rfl rfl ?_
      refine x_icmpge (pc := 25) (tgt := 103) X d_Runs_closestTo_25 rfl h (fun h => ?_) (fun h => ?_)
      · skip
        refine x_iload_n (pc := 103) X d_Runs_closestTo_103 3 rfl rfl ?_
        cases h
        exact x_iret (pc := 104) X hR d_Runs_closestTo_104
      · skip
        refine x_iload (pc := 28) X d_Runs_closestTo_28 5 rfl ?_
        refine x_aload_n (pc := 30) X d_Runs_closestTo_30 0 rfl rfl ?_
        refine x_get (pc := 31) X d_Runs_closestTo_31 0 rfl fl_Runs_15 rfl ?_
        refine x_alen (pc := 34) (M := 32) X d_Runs_closestTo_34 2 rfl rfl ?_
        refine x_icmpge (pc := 35) (tgt := 103) X d_Runs_closestTo_35 rfl h (fun h => ?_) (fun h => ?_)
        · skip
          refine x_iload_n (pc := 103) X d_Runs_closestTo_103 3 rfl rfl ?_
          cases h
          exact x_iret (pc := 104) X hR d_Runs_closestTo_104
        · skip
          refine x_aload_n (pc := 38) X d_Runs_closestTo_38 0 rfl rfl ?_
          refine x_get (pc := 39) X d_Runs_closestTo_39 0 rfl fl_Runs_9 rfl ?_
          refine x_iload (pc := 42) X d_Runs_closestTo_42 5 rfl ?_
          refine x_iald (pc := 44) X d_Runs_closestTo_44 1 rfl (Nat.le_of_ble_eq_true rfl) rfl h (fun h => ?_)
          refine x_iload_n (pc := 45) X d_Runs_closestTo_45 1 rfl rfl ?_
          obtain ⟨j1, hj8, h⟩ := jn_e h
          have J9 : ∀ (z2 : Int) (z3 : Int) (z4 : Int) (z5 : Int) (z6 : Int) (z7 : Int), j1 z2 z3 z4 z5 z6 z7 = some o → Wx G 0 0 70 [(0, .ref a0), (1, .int (zi z2)), (2, .int (zi z3)), (3, .int (zi z4)), (4, .int (zi z5)), (5, .int (zi z6))] [.int (zi z7)] (w_Runs cI cB a0 a1 a2 rm rs rz) := by
            intro z2 z3 z4 z5 z6 z7 h
            rw [hj8] at h
            (try dsimp only at h)
            refine x_istore (pc := 70) (ls2 := [(6, .int (zi z7)), (0, .ref a0), (1, .int (zi z2)), (2, .int (zi z3)), (3, .int (zi z4)), (4, .int (zi z5)), (5, .int (zi z6))]) X d_Runs_closestTo_70 (Nat.le_of_ble_eq_true rfl) rfl ?_
            refine x_aload_n (pc := 72) X d_Runs_closestTo_72 1 rfl rfl ?_
            refine x_get (pc := 73) X d_Runs_closestTo_73 0 rfl fl_Runs_15 rfl ?_
            refine x_iload (pc := 76) X d_Runs_closestTo_76 6 rfl ?_
            refine x_iald (pc := 78) X d_Runs_closestTo_78 2 rfl (Nat.le_of_ble_eq_true rfl) rfl h (fun h => ?_)
            refine x_iload_n (pc := 79) X d_Runs_closestTo_79 3 rfl rfl ?_
            refine x_icmplt (pc := 80) (tgt := 97) X d_Runs_closestTo_80 rfl h (fun h => ?_) (fun h => ?_)
            · skip
              refine x_iinc (pc := 97) (ls2 := [(5, .int (zi (z6 + 1))), (6, .int (zi z7)), (0, .ref a0), (1, .int (zi z2)), (2, .int (zi z3)), (3, .int (zi z4)), (4, .int (zi z5))]) X d_Runs_closestTo_97 6 (Nat.le_of_ble_eq_true rfl) rfl rfl ?_
              refine x_goto (pc := 100) (tgt := 9) X d_Runs_closestTo_100 rfl ?_
              refine x_ls (ls2 := [(0, .ref a0), (1, .int (zi z2)), (2, .int (zi z3)), (3, .int (zi z4)), (4, .int (zi z5)), (5, .int (zi (z6 + 1)))]) [2, 3, 4, 5, 6, 0] rfl ?_
              exact ih z2 z3 z4 z5 (z6 + 1) rm rs rz o h hR
            · skip
              refine x_iload (pc := 83) X d_Runs_closestTo_83 0 rfl ?_
              refine x_iload (pc := 85) X d_Runs_closestTo_85 5 rfl ?_
              refine x_icmpge (pc := 87) (tgt := 97) X d_Runs_closestTo_87 rfl h (fun h => ?_) (fun h => ?_)
              · skip
                refine x_iinc (pc := 97) (ls2 := [(5, .int (zi (z6 + 1))), (6, .int (zi z7)), (0, .ref a0), (1, .int (zi z2)), (2, .int (zi z3)), (3, .int (zi z4)), (4, .int (zi z5))]) X d_Runs_closestTo_97 6 (Nat.le_of_ble_eq_true rfl) rfl rfl ?_
                refine x_goto (pc := 100) (tgt := 9) X d_Runs_closestTo_100 rfl ?_
                refine x_ls (ls2 := [(0, .ref a0), (1, .int (zi z2)), (2, .int (zi z3)), (3, .int (zi z4)), (4, .int (zi z5)), (5, .int (zi (z6 + 1)))]) [2, 3, 4, 5, 6, 0] rfl ?_
                exact ih z2 z3 z4 z5 (z6 + 1) rm rs rz o h hR
              · skip
                refine x_iload (pc := 90) X d_Runs_closestTo_90 6 rfl ?_
                refine x_istore_n (pc := 92) (ls2 := [(3, .int (zi z6)), (6, .int (zi z7)), (0, .ref a0), (1, .int (zi z2)), (2, .int (zi z3)), (4, .int (zi z5)), (5, .int (zi z6))]) X d_Runs_closestTo_92 rfl (Nat.le_of_ble_eq_true rfl) rfl ?_
                refine x_iload (pc := 93) X d_Runs_closestTo_93 1 rfl ?_
                refine x_istore (pc := 95) (ls2 := [(4, .int (zi z7)), (3, .int (zi z6)), (6, .int (zi z7)), (0, .ref a0), (1, .int (zi z2)), (2, .int (zi z3)), (5, .int (zi z6))]) X d_Runs_closestTo_95 (Nat.le_of_ble_eq_true rfl) rfl ?_
                refine x_iinc (pc := 97) (ls2 := [(5, .int (zi (z6 + 1))), (4, .int (zi z7)), (3, .int (zi z6)), (6, .int (zi z7)), (0, .ref a0), (1, .int (zi z2)), (2, .int (zi z3))]) X d_Runs_closestTo_97 6 (Nat.le_of_ble_eq_true rfl) rfl rfl ?_
                refine x_goto (pc := 100) (tgt := 9) X d_Runs_closestTo_100 rfl ?_
                refine x_ls (ls2 := [(0, .ref a0), (1, .int (zi z2)), (2, .int (zi z3)), (3, .int (zi z6)), (4, .int (zi z7)), (5, .int (zi (z6 + 1)))]) [4, 5, 6, 2, 1, 0] rfl ?_
                exact ih z2 z3 z6 z7 (z6 + 1) rm rs rz o h hR
          clear hj8
          refine x_icmpge (pc := 46) (tgt := 61) X d_Runs_closestTo_46 rfl h (fun h => ?_) (fun h => ?_)
          · skip
            refine x_aload_n (pc := 61) X d_Runs_closestTo_61 0 rfl rfl ?_
            refine x_get (pc := 62) X d_Runs_closestTo_62 0 rfl fl_Runs_9 rfl ?_
            refine x_iload (pc := 65) X d_Runs_closestTo_65 5 rfl ?_
            refine x_iald (pc := 67) X d_Runs_closestTo_67 1 rfl (Nat.le_of_ble_eq_true rfl) rfl h (fun h => ?_)
            refine x_iload_n (pc := 68) X d_Runs_closestTo_68 1 rfl rfl ?_
            refine x_isub (pc := 69) X d_Runs_closestTo_69  ?_
            exact J9 v1 v2 v3 v4 v5 ((rs v5) - v1) h
          · skip
            refine x_iload_n (pc := 49) X d_Runs_closestTo_49 1 rfl rfl ?_
            refine x_aload_n (pc := 50) X d_Runs_closestTo_50 0 rfl rfl ?_
            refine x_get (pc := 51) X d_Runs_closestTo_51 0 rfl fl_Runs_9 rfl ?_
            refine x_iload (pc := 54) X d_Runs_closestTo_54 5 rfl ?_
            refine x_iald (pc := 56) X d_Runs_closestTo_56 1 rfl (Nat.le_of_ble_eq_true rfl) rfl h (fun h => ?_)
            refine x_isub (pc := 57) X d_Runs_closestTo_57  ?_
            refine x_goto (pc := 58) (tgt := 70) X d_Runs_closestTo_58 rfl ?_
            exact J9 v1 v2 v3 v4 v5 (v1 - (rs v5)) h
set_option maxHeartbeats 4000000 in
set_option maxRecDepth 100000 in
theorem c_Runs_closestTo (l : Launch) (D : va_G) (cI cB : ClassId) (a0 a1 a2 : Nat) (rm : Int) (rs : Int → Int) (rz : Int → Int) (x1 : Int) (x2 : Int) {o : Int} (h : m_Runs_closestTo x1 x2 rm rs rz = some o) : Ct l D cI cB y_Runs_closestTo b_Runs_closestTo 7 (some .int) { frames := 0, cells := 0, slots := 0, locals := 0 } [.ref a0, .int (zi x1), .int (zi x2)] (w_Runs cI cB a0 a1 a2 rm rs rz) (w_Runs cI cB a0 a1 a2 rm rs rz) (some (.int (zi o))) := by
  refine Ct.start (by decide) (Nat.le_of_ble_eq_true rfl) (fun G X hR => ?_)
  refine x_ls (ls2 := [(0, .ref a0), (1, .int (zi x1)), (2, .int (zi x2))]) [0, 1, 2] rfl ?_
  unfold m_Runs_closestTo at h
  refine x_iconst (pc := 0) X d_Runs_closestTo_0  ?_
  refine x_istore_n (pc := 1) (ls2 := [(3, .int (zi (-1))), (0, .ref a0), (1, .int (zi x1)), (2, .int (zi x2))]) X d_Runs_closestTo_1 rfl (Nat.le_of_ble_eq_true rfl) rfl ?_
  refine x_bipush (pc := 2) (v := 64) X d_Runs_closestTo_2 rfl ?_
  refine x_istore (pc := 4) (ls2 := [(4, .int (zi 64)), (3, .int (zi (-1))), (0, .ref a0), (1, .int (zi x1)), (2, .int (zi x2))]) X d_Runs_closestTo_4 (Nat.le_of_ble_eq_true rfl) rfl ?_
  refine x_iconst (pc := 6) X d_Runs_closestTo_6  ?_
  refine x_istore (pc := 7) (ls2 := [(5, .int (zi 0)), (4, .int (zi 64)), (3, .int (zi (-1))), (0, .ref a0), (1, .int (zi x1)), (2, .int (zi x2))]) X d_Runs_closestTo_7 (Nat.le_of_ble_eq_true rfl) rfl ?_
  refine x_ls (ls2 := [(0, .ref a0), (1, .int (zi x1)), (2, .int (zi x2)), (3, .int (zi (-1))), (4, .int (zi 64)), (5, .int (zi 0))]) [3, 4, 5, 2, 1, 0] rfl ?_
  exact l_Runs_closestTo_9 X 5000 x1 x2 (-1) 64 0 rm rs rz o h hR
theorem d_Runs_sizeAt_0 : decode b_Runs_sizeAt 0 = .ok (.iload_n 1, 1) := by decide +kernel
theorem d_Runs_sizeAt_1 : decode b_Runs_sizeAt 1 = .ok (.ifCond .lt 29, 3) := by decide +kernel
theorem d_Runs_sizeAt_4 : decode b_Runs_sizeAt 4 = .ok (.iload_n 1, 1) := by decide +kernel
theorem d_Runs_sizeAt_5 : decode b_Runs_sizeAt 5 = .ok (.aload_n 0, 1) := by decide +kernel
theorem d_Runs_sizeAt_6 : decode b_Runs_sizeAt 6 = .ok (.getfield 18, 3) := by decide +kernel
theorem d_Runs_sizeAt_9 : decode b_Runs_sizeAt 9 = .ok (.if_icmp .ge 21, 3) := by decide +kernel
theorem d_Runs_sizeAt_12 : decode b_Runs_sizeAt 12 = .ok (.iload_n 1, 1) := by decide +kernel
theorem d_Runs_sizeAt_13 : decode b_Runs_sizeAt 13 = .ok (.aload_n 0, 1) := by decide +kernel
theorem d_Runs_sizeAt_14 : decode b_Runs_sizeAt 14 = .ok (.getfield 15, 3) := by decide +kernel
theorem d_Runs_sizeAt_17 : decode b_Runs_sizeAt 17 = .ok (.arraylength, 1) := by decide +kernel
theorem d_Runs_sizeAt_18 : decode b_Runs_sizeAt 18 = .ok (.if_icmp .ge 12, 3) := by decide +kernel
theorem d_Runs_sizeAt_21 : decode b_Runs_sizeAt 21 = .ok (.aload_n 0, 1) := by decide +kernel
theorem d_Runs_sizeAt_22 : decode b_Runs_sizeAt 22 = .ok (.getfield 15, 3) := by decide +kernel
theorem d_Runs_sizeAt_25 : decode b_Runs_sizeAt 25 = .ok (.iload_n 1, 1) := by decide +kernel
theorem d_Runs_sizeAt_26 : decode b_Runs_sizeAt 26 = .ok (.iaload, 1) := by decide +kernel
theorem d_Runs_sizeAt_27 : decode b_Runs_sizeAt 27 = .ok (.goto 4, 3) := by decide +kernel
theorem d_Runs_sizeAt_30 : decode b_Runs_sizeAt 30 = .ok (.iconst 0, 1) := by decide +kernel
theorem d_Runs_sizeAt_31 : decode b_Runs_sizeAt 31 = .ok (.ireturn, 1) := by decide +kernel
def m_Runs_sizeAt (x1 : Int) (rm : Int) (rz : Int → Int) : Option (Int) :=
  clt x1 0 (some (0)) (clt x1 rm (clt x1 32 (gd (zx x1 32) (some ((rz x1)))) (some (0))) (some (0)))
set_option maxHeartbeats 4000000 in
set_option maxRecDepth 100000 in
theorem c_Runs_sizeAt (l : Launch) (D : va_G) (cI cB : ClassId) (a0 a1 a2 : Nat) (rm : Int) (rs : Int → Int) (rz : Int → Int) (x1 : Int) {o : Int} (h : m_Runs_sizeAt x1 rm rz = some o) : Ct l D cI cB y_Runs_sizeAt b_Runs_sizeAt 2 (some .int) { frames := 0, cells := 0, slots := 0, locals := 0 } [.ref a0, .int (zi x1)] (w_Runs cI cB a0 a1 a2 rm rs rz) (w_Runs cI cB a0 a1 a2 rm rs rz) (some (.int (zi o))) := by
  refine Ct.start (by decide) (Nat.le_of_ble_eq_true rfl) (fun G X hR => ?_)
  refine x_ls (ls2 := [(0, .ref a0), (1, .int (zi x1))]) [0, 1] rfl ?_
  unfold m_Runs_sizeAt at h
  refine x_iload_n (pc := 0) X d_Runs_sizeAt_0 1 rfl rfl ?_
  refine x_iflt (pc := 1) (tgt := 30) X d_Runs_sizeAt_1 rfl h (fun h => ?_) (fun h => ?_)
  · skip
    refine x_iconst (pc := 30) X d_Runs_sizeAt_30  ?_
    cases h
    exact x_iret (pc := 31) X hR d_Runs_sizeAt_31
  · skip
    refine x_iload_n (pc := 4) X d_Runs_sizeAt_4 1 rfl rfl ?_
    refine x_aload_n (pc := 5) X d_Runs_sizeAt_5 0 rfl rfl ?_
    refine x_get (pc := 6) X d_Runs_sizeAt_6 0 rfl fl_Runs_18 rfl ?_
    refine x_icmpge (pc := 9) (tgt := 30) X d_Runs_sizeAt_9 rfl h (fun h => ?_) (fun h => ?_)
    · skip
      refine x_iconst (pc := 30) X d_Runs_sizeAt_30  ?_
      cases h
      exact x_iret (pc := 31) X hR d_Runs_sizeAt_31
    · skip
      refine x_iload_n (pc := 12) X d_Runs_sizeAt_12 1 rfl rfl ?_
      refine x_aload_n (pc := 13) X d_Runs_sizeAt_13 0 rfl rfl ?_
      refine x_get (pc := 14) X d_Runs_sizeAt_14 0 rfl fl_Runs_15 rfl ?_
      refine x_alen (pc := 17) (M := 32) X d_Runs_sizeAt_17 2 rfl rfl ?_
      refine x_icmpge (pc := 18) (tgt := 30) X d_Runs_sizeAt_18 rfl h (fun h => ?_) (fun h => ?_)
      · skip
        refine x_iconst (pc := 30) X d_Runs_sizeAt_30  ?_
        cases h
        exact x_iret (pc := 31) X hR d_Runs_sizeAt_31
      · skip
        refine x_aload_n (pc := 21) X d_Runs_sizeAt_21 0 rfl rfl ?_
        refine x_get (pc := 22) X d_Runs_sizeAt_22 0 rfl fl_Runs_15 rfl ?_
        refine x_iload_n (pc := 25) X d_Runs_sizeAt_25 1 rfl rfl ?_
        refine x_iald (pc := 26) X d_Runs_sizeAt_26 2 rfl (Nat.le_of_ble_eq_true rfl) rfl h (fun h => ?_)
        refine x_goto (pc := 27) (tgt := 31) X d_Runs_sizeAt_27 rfl ?_
        cases h
        exact x_iret (pc := 31) X hR d_Runs_sizeAt_31
theorem d_Runs_greatest_0 : decode b_Runs_greatest 0 = .ok (.iconst (-1), 1) := by decide +kernel
theorem d_Runs_greatest_1 : decode b_Runs_greatest 1 = .ok (.istore_n 1, 1) := by decide +kernel
theorem d_Runs_greatest_2 : decode b_Runs_greatest 2 = .ok (.iconst 0, 1) := by decide +kernel
theorem d_Runs_greatest_3 : decode b_Runs_greatest 3 = .ok (.istore_n 2, 1) := by decide +kernel
theorem d_Runs_greatest_4 : decode b_Runs_greatest 4 = .ok (.iconst 0, 1) := by decide +kernel
theorem d_Runs_greatest_5 : decode b_Runs_greatest 5 = .ok (.istore_n 3, 1) := by decide +kernel
theorem d_Runs_greatest_6 : decode b_Runs_greatest 6 = .ok (.iload_n 3, 1) := by decide +kernel
theorem d_Runs_greatest_7 : decode b_Runs_greatest 7 = .ok (.aload_n 0, 1) := by decide +kernel
theorem d_Runs_greatest_8 : decode b_Runs_greatest 8 = .ok (.getfield 18, 3) := by decide +kernel
theorem d_Runs_greatest_11 : decode b_Runs_greatest 11 = .ok (.if_icmp .ge 37, 3) := by decide +kernel
theorem d_Runs_greatest_14 : decode b_Runs_greatest 14 = .ok (.iload_n 3, 1) := by decide +kernel
theorem d_Runs_greatest_15 : decode b_Runs_greatest 15 = .ok (.aload_n 0, 1) := by decide +kernel
theorem d_Runs_greatest_16 : decode b_Runs_greatest 16 = .ok (.getfield 15, 3) := by decide +kernel
theorem d_Runs_greatest_19 : decode b_Runs_greatest 19 = .ok (.arraylength, 1) := by decide +kernel
theorem d_Runs_greatest_20 : decode b_Runs_greatest 20 = .ok (.if_icmp .ge 28, 3) := by decide +kernel
theorem d_Runs_greatest_23 : decode b_Runs_greatest 23 = .ok (.aload_n 0, 1) := by decide +kernel
theorem d_Runs_greatest_24 : decode b_Runs_greatest 24 = .ok (.getfield 15, 3) := by decide +kernel
theorem d_Runs_greatest_27 : decode b_Runs_greatest 27 = .ok (.iload_n 3, 1) := by decide +kernel
theorem d_Runs_greatest_28 : decode b_Runs_greatest 28 = .ok (.iaload, 1) := by decide +kernel
theorem d_Runs_greatest_29 : decode b_Runs_greatest 29 = .ok (.iload_n 2, 1) := by decide +kernel
theorem d_Runs_greatest_30 : decode b_Runs_greatest 30 = .ok (.if_icmp .le 12, 3) := by decide +kernel
theorem d_Runs_greatest_33 : decode b_Runs_greatest 33 = .ok (.iload_n 3, 1) := by decide +kernel
theorem d_Runs_greatest_34 : decode b_Runs_greatest 34 = .ok (.istore_n 1, 1) := by decide +kernel
theorem d_Runs_greatest_35 : decode b_Runs_greatest 35 = .ok (.aload_n 0, 1) := by decide +kernel
theorem d_Runs_greatest_36 : decode b_Runs_greatest 36 = .ok (.getfield 15, 3) := by decide +kernel
theorem d_Runs_greatest_39 : decode b_Runs_greatest 39 = .ok (.iload_n 3, 1) := by decide +kernel
theorem d_Runs_greatest_40 : decode b_Runs_greatest 40 = .ok (.iaload, 1) := by decide +kernel
theorem d_Runs_greatest_41 : decode b_Runs_greatest 41 = .ok (.istore_n 2, 1) := by decide +kernel
theorem d_Runs_greatest_42 : decode b_Runs_greatest 42 = .ok (.iinc 3 1, 3) := by decide +kernel
theorem d_Runs_greatest_45 : decode b_Runs_greatest 45 = .ok (.goto (-39), 3) := by decide +kernel
theorem d_Runs_greatest_48 : decode b_Runs_greatest 48 = .ok (.iload_n 1, 1) := by decide +kernel
theorem d_Runs_greatest_49 : decode b_Runs_greatest 49 = .ok (.ireturn, 1) := by decide +kernel
def m_Runs_greatest_6 : Nat → Int → Int → Int → Int → (Int → Int) → Option (Int)
  | 0, _, _, _, _, _ => none
  | fuel + 1, v1, v2, v3, rm, rz =>
  clt v3 rm (clt v3 32 (gd (zx v3 32) (cle (rz v3) v2 (m_Runs_greatest_6 fuel v1 v2 (v3 + 1) rm rz) (gd (zx v3 32) (m_Runs_greatest_6 fuel v3 (rz v3) (v3 + 1) rm rz)))) (some (v1))) (some (v1))
def m_Runs_greatest  (rm : Int) (rz : Int → Int) : Option (Int) :=
  m_Runs_greatest_6 5000 (-1) 0 0 rm rz
set_option maxHeartbeats 4000000 in
set_option maxRecDepth 100000 in
theorem l_Runs_greatest_6 {G : GT} {l : Launch} {D : va_G} {cI cB : ClassId} {a0 a1 a2 : Nat} {rs : Int → Int} (X : Cx G l D cI cB b_Runs_greatest y_Runs_greatest.cls 4 { frames := 0, cells := 0, slots := 0, locals := 0 }) : ∀ (fuel : Nat) (v1 : Int) (v2 : Int) (v3 : Int) (rm : Int) (rz : Int → Int) (o : Int), m_Runs_greatest_6 fuel v1 v2 v3 rm rz = some o → Rt G (some .int) (some (.int (zi o))) (w_Runs cI cB a0 a1 a2 rm rs rz) → Wx G 0 0 6 [(0, .ref a0), (1, .int (zi v1)), (2, .int (zi v2)), (3, .int (zi v3))] [] (w_Runs cI cB a0 a1 a2 rm rs rz) := by
  intro fuel
  induction fuel with
  | zero =>
    intro v1 v2 v3 rm rz o h
    exact absurd h (by simp [m_Runs_greatest_6])
  | succ fuel ih =>
    intro v1 v2 v3 rm rz o h hR
    rw [m_Runs_greatest_6] at h
    refine x_iload_n (pc := 6) X d_Runs_greatest_6 3 rfl rfl ?_
    refine x_aload_n (pc := 7) X d_Runs_greatest_7 0 rfl rfl ?_
    refine x_get (pc := 8) X d_Runs_greatest_8 0 rfl fl_Runs_18 rfl ?_
    refine x_icmpge (pc := 11) (tgt := 48) X d_Runs_greatest_11 rfl h (fun h => ?_) (fun h => ?_)
    · skip
      refine x_iload_n (pc := 48) X d_Runs_greatest_48 1 rfl rfl ?_
      cases h
      exact x_iret (pc := 49) X hR d_Runs_greatest_49
    · skip
      refine x_iload_n (pc := 14) X d_Runs_greatest_14 3 rfl rfl ?_
      refine x_aload_n (pc := 15) X d_Runs_greatest_15 0 rfl rfl ?_
      refine x_get (pc := 16) X d_Runs_greatest_16 0 rfl fl_Runs_15 rfl ?_
      refine x_alen (pc := 19) (M := 32) X d_Runs_greatest_19 2 rfl rfl ?_
      refine x_icmpge (pc := 20) (tgt := 48) X d_Runs_greatest_20 rfl h (fun h => ?_) (fun h => ?_)
      · skip
        refine x_iload_n (pc := 48) X d_Runs_greatest_48 1 rfl rfl ?_
        cases h
        exact x_iret (pc := 49) X hR d_Runs_greatest_49
      · skip
        refine x_aload_n (pc := 23) X d_Runs_greatest_23 0 rfl rfl ?_
        refine x_get (pc := 24) X d_Runs_greatest_24 0 rfl fl_Runs_15 rfl ?_
        refine x_iload_n (pc := 27) X d_Runs_greatest_27 3 rfl rfl ?_
        refine x_iald (pc := 28) X d_Runs_greatest_28 2 rfl (Nat.le_of_ble_eq_true rfl) rfl h (fun h => ?_)
        refine x_iload_n (pc := 29) X d_Runs_greatest_29 2 rfl rfl ?_
        refine x_icmple (pc := 30) (tgt := 42) X d_Runs_greatest_30 rfl h (fun h => ?_) (fun h => ?_)
        · skip
          refine x_iinc (pc := 42) (ls2 := [(3, .int (zi (v3 + 1))), (0, .ref a0), (1, .int (zi v1)), (2, .int (zi v2))]) X d_Runs_greatest_42 3 (Nat.le_of_ble_eq_true rfl) rfl rfl ?_
          refine x_goto (pc := 45) (tgt := 6) X d_Runs_greatest_45 rfl ?_
          refine x_ls (ls2 := [(0, .ref a0), (1, .int (zi v1)), (2, .int (zi v2)), (3, .int (zi (v3 + 1)))]) [1, 2, 3, 0] rfl ?_
          exact ih v1 v2 (v3 + 1) rm rz o h hR
        · skip
          refine x_iload_n (pc := 33) X d_Runs_greatest_33 3 rfl rfl ?_
          refine x_istore_n (pc := 34) (ls2 := [(1, .int (zi v3)), (0, .ref a0), (2, .int (zi v2)), (3, .int (zi v3))]) X d_Runs_greatest_34 rfl (Nat.le_of_ble_eq_true rfl) rfl ?_
          refine x_aload_n (pc := 35) X d_Runs_greatest_35 1 rfl rfl ?_
          refine x_get (pc := 36) X d_Runs_greatest_36 0 rfl fl_Runs_15 rfl ?_
          refine x_iload_n (pc := 39) X d_Runs_greatest_39 3 rfl rfl ?_
          refine x_iald (pc := 40) X d_Runs_greatest_40 2 rfl (Nat.le_of_ble_eq_true rfl) rfl h (fun h => ?_)
          refine x_istore_n (pc := 41) (ls2 := [(2, .int (zi (rz v3))), (1, .int (zi v3)), (0, .ref a0), (3, .int (zi v3))]) X d_Runs_greatest_41 rfl (Nat.le_of_ble_eq_true rfl) rfl ?_
          refine x_iinc (pc := 42) (ls2 := [(3, .int (zi (v3 + 1))), (2, .int (zi (rz v3))), (1, .int (zi v3)), (0, .ref a0)]) X d_Runs_greatest_42 3 (Nat.le_of_ble_eq_true rfl) rfl rfl ?_
          refine x_goto (pc := 45) (tgt := 6) X d_Runs_greatest_45 rfl ?_
          refine x_ls (ls2 := [(0, .ref a0), (1, .int (zi v3)), (2, .int (zi (rz v3))), (3, .int (zi (v3 + 1)))]) [3, 2, 1, 0] rfl ?_
          exact ih v3 (rz v3) (v3 + 1) rm rz o h hR
set_option maxHeartbeats 4000000 in
set_option maxRecDepth 100000 in
theorem c_Runs_greatest (l : Launch) (D : va_G) (cI cB : ClassId) (a0 a1 a2 : Nat) (rm : Int) (rs : Int → Int) (rz : Int → Int)  {o : Int} (h : m_Runs_greatest rm rz = some o) : Ct l D cI cB y_Runs_greatest b_Runs_greatest 4 (some .int) { frames := 0, cells := 0, slots := 0, locals := 0 } [.ref a0] (w_Runs cI cB a0 a1 a2 rm rs rz) (w_Runs cI cB a0 a1 a2 rm rs rz) (some (.int (zi o))) := by
  refine Ct.start (by decide) (Nat.le_of_ble_eq_true rfl) (fun G X hR => ?_)
  refine x_ls (ls2 := [(0, .ref a0)]) [0] rfl ?_
  unfold m_Runs_greatest at h
  refine x_iconst (pc := 0) X d_Runs_greatest_0  ?_
  refine x_istore_n (pc := 1) (ls2 := [(1, .int (zi (-1))), (0, .ref a0)]) X d_Runs_greatest_1 rfl (Nat.le_of_ble_eq_true rfl) rfl ?_
  refine x_iconst (pc := 2) X d_Runs_greatest_2  ?_
  refine x_istore_n (pc := 3) (ls2 := [(2, .int (zi 0)), (1, .int (zi (-1))), (0, .ref a0)]) X d_Runs_greatest_3 rfl (Nat.le_of_ble_eq_true rfl) rfl ?_
  refine x_iconst (pc := 4) X d_Runs_greatest_4  ?_
  refine x_istore_n (pc := 5) (ls2 := [(3, .int (zi 0)), (2, .int (zi 0)), (1, .int (zi (-1))), (0, .ref a0)]) X d_Runs_greatest_5 rfl (Nat.le_of_ble_eq_true rfl) rfl ?_
  refine x_ls (ls2 := [(0, .ref a0), (1, .int (zi (-1))), (2, .int (zi 0)), (3, .int (zi 0))]) [3, 2, 1, 0] rfl ?_
  exact l_Runs_greatest_6 X 5000 (-1) 0 0 rm rz o h hR
theorem d_Runs_beginOf_0 : decode b_Runs_beginOf 0 = .ok (.aload_n 0, 1) := by decide +kernel
theorem d_Runs_beginOf_1 : decode b_Runs_beginOf 1 = .ok (.iload_n 3, 1) := by decide +kernel
theorem d_Runs_beginOf_2 : decode b_Runs_beginOf 2 = .ok (.invokevirtual 33, 3) := by decide +kernel
theorem d_Runs_beginOf_5 : decode b_Runs_beginOf 5 = .ok (.istore 4, 2) := by decide +kernel
theorem d_Runs_beginOf_7 : decode b_Runs_beginOf 7 = .ok (.aload_n 0, 1) := by decide +kernel
theorem d_Runs_beginOf_8 : decode b_Runs_beginOf 8 = .ok (.iload_n 2, 1) := by decide +kernel
theorem d_Runs_beginOf_9 : decode b_Runs_beginOf 9 = .ok (.iload_n 3, 1) := by decide +kernel
theorem d_Runs_beginOf_10 : decode b_Runs_beginOf 10 = .ok (.invokevirtual 36, 3) := by decide +kernel
theorem d_Runs_beginOf_13 : decode b_Runs_beginOf 13 = .ok (.ifCond .eq 7, 3) := by decide +kernel
theorem d_Runs_beginOf_16 : decode b_Runs_beginOf 16 = .ok (.iload_n 2, 1) := by decide +kernel
theorem d_Runs_beginOf_17 : decode b_Runs_beginOf 17 = .ok (.goto 9, 3) := by decide +kernel
theorem d_Runs_beginOf_20 : decode b_Runs_beginOf 20 = .ok (.aload_n 0, 1) := by decide +kernel
theorem d_Runs_beginOf_21 : decode b_Runs_beginOf 21 = .ok (.iload 4, 2) := by decide +kernel
theorem d_Runs_beginOf_23 : decode b_Runs_beginOf 23 = .ok (.invokevirtual 40, 3) := by decide +kernel
theorem d_Runs_beginOf_26 : decode b_Runs_beginOf 26 = .ok (.istore 5, 2) := by decide +kernel
theorem d_Runs_beginOf_28 : decode b_Runs_beginOf 28 = .ok (.iload_n 1, 1) := by decide +kernel
theorem d_Runs_beginOf_29 : decode b_Runs_beginOf 29 = .ok (.iconst 2, 1) := by decide +kernel
theorem d_Runs_beginOf_30 : decode b_Runs_beginOf 30 = .ok (.if_icmp .ne 16, 3) := by decide +kernel
theorem d_Runs_beginOf_33 : decode b_Runs_beginOf 33 = .ok (.iload_n 3, 1) := by decide +kernel
theorem d_Runs_beginOf_34 : decode b_Runs_beginOf 34 = .ok (.iconst 4, 1) := by decide +kernel
theorem d_Runs_beginOf_35 : decode b_Runs_beginOf 35 = .ok (.if_icmp .lt 11, 3) := by decide +kernel
theorem d_Runs_beginOf_38 : decode b_Runs_beginOf 38 = .ok (.aload_n 0, 1) := by decide +kernel
theorem d_Runs_beginOf_39 : decode b_Runs_beginOf 39 = .ok (.iload_n 3, 1) := by decide +kernel
theorem d_Runs_beginOf_40 : decode b_Runs_beginOf 40 = .ok (.invokevirtual 43, 3) := by decide +kernel
theorem d_Runs_beginOf_43 : decode b_Runs_beginOf 43 = .ok (.goto 4, 3) := by decide +kernel
theorem d_Runs_beginOf_46 : decode b_Runs_beginOf 46 = .ok (.iconst (-1), 1) := by decide +kernel
theorem d_Runs_beginOf_47 : decode b_Runs_beginOf 47 = .ok (.istore 6, 2) := by decide +kernel
theorem d_Runs_beginOf_49 : decode b_Runs_beginOf 49 = .ok (.iload_n 1, 1) := by decide +kernel
theorem d_Runs_beginOf_50 : decode b_Runs_beginOf 50 = .ok (.tableswitch 101 1 5 #[34, 37, 50, 59, 75], 34) := by decide +kernel
theorem d_Runs_beginOf_84 : decode b_Runs_beginOf 84 = .ok (.iload 5, 2) := by decide +kernel
theorem d_Runs_beginOf_86 : decode b_Runs_beginOf 86 = .ok (.ireturn, 1) := by decide +kernel
theorem d_Runs_beginOf_87 : decode b_Runs_beginOf 87 = .ok (.iload 6, 2) := by decide +kernel
theorem d_Runs_beginOf_89 : decode b_Runs_beginOf 89 = .ok (.ifCond .ge 8, 3) := by decide +kernel
theorem d_Runs_beginOf_92 : decode b_Runs_beginOf 92 = .ok (.iload 5, 2) := by decide +kernel
theorem d_Runs_beginOf_94 : decode b_Runs_beginOf 94 = .ok (.goto 5, 3) := by decide +kernel
theorem d_Runs_beginOf_97 : decode b_Runs_beginOf 97 = .ok (.iload 6, 2) := by decide +kernel
theorem d_Runs_beginOf_99 : decode b_Runs_beginOf 99 = .ok (.ireturn, 1) := by decide +kernel
theorem d_Runs_beginOf_100 : decode b_Runs_beginOf 100 = .ok (.aload_n 0, 1) := by decide +kernel
theorem d_Runs_beginOf_101 : decode b_Runs_beginOf 101 = .ok (.aload_n 0, 1) := by decide +kernel
theorem d_Runs_beginOf_102 : decode b_Runs_beginOf 102 = .ok (.invokevirtual 46, 3) := by decide +kernel
theorem d_Runs_beginOf_105 : decode b_Runs_beginOf 105 = .ok (.invokevirtual 40, 3) := by decide +kernel
theorem d_Runs_beginOf_108 : decode b_Runs_beginOf 108 = .ok (.ireturn, 1) := by decide +kernel
theorem d_Runs_beginOf_109 : decode b_Runs_beginOf 109 = .ok (.aload_n 0, 1) := by decide +kernel
theorem d_Runs_beginOf_110 : decode b_Runs_beginOf 110 = .ok (.iload 4, 2) := by decide +kernel
theorem d_Runs_beginOf_112 : decode b_Runs_beginOf 112 = .ok (.invokevirtual 40, 3) := by decide +kernel
theorem d_Runs_beginOf_115 : decode b_Runs_beginOf 115 = .ok (.aload_n 0, 1) := by decide +kernel
theorem d_Runs_beginOf_116 : decode b_Runs_beginOf 116 = .ok (.iload 4, 2) := by decide +kernel
theorem d_Runs_beginOf_118 : decode b_Runs_beginOf 118 = .ok (.invokevirtual 30, 3) := by decide +kernel
theorem d_Runs_beginOf_121 : decode b_Runs_beginOf 121 = .ok (.iadd, 1) := by decide +kernel
theorem d_Runs_beginOf_122 : decode b_Runs_beginOf 122 = .ok (.iload_n 3, 1) := by decide +kernel
theorem d_Runs_beginOf_123 : decode b_Runs_beginOf 123 = .ok (.isub, 1) := by decide +kernel
theorem d_Runs_beginOf_124 : decode b_Runs_beginOf 124 = .ok (.ireturn, 1) := by decide +kernel
theorem d_Runs_beginOf_125 : decode b_Runs_beginOf 125 = .ok (.iload_n 2, 1) := by decide +kernel
theorem d_Runs_beginOf_126 : decode b_Runs_beginOf 126 = .ok (.ifCond .lt 9, 3) := by decide +kernel
theorem d_Runs_beginOf_129 : decode b_Runs_beginOf 129 = .ok (.iload 5, 2) := by decide +kernel
theorem d_Runs_beginOf_131 : decode b_Runs_beginOf 131 = .ok (.iload_n 2, 1) := by decide +kernel
theorem d_Runs_beginOf_132 : decode b_Runs_beginOf 132 = .ok (.if_icmp .ne 8, 3) := by decide +kernel
theorem d_Runs_beginOf_135 : decode b_Runs_beginOf 135 = .ok (.iload 5, 2) := by decide +kernel
theorem d_Runs_beginOf_137 : decode b_Runs_beginOf 137 = .ok (.goto 13, 3) := by decide +kernel
theorem d_Runs_beginOf_140 : decode b_Runs_beginOf 140 = .ok (.aload_n 0, 1) := by decide +kernel
theorem d_Runs_beginOf_141 : decode b_Runs_beginOf 141 = .ok (.aload_n 0, 1) := by decide +kernel
theorem d_Runs_beginOf_142 : decode b_Runs_beginOf 142 = .ok (.iload_n 2, 1) := by decide +kernel
theorem d_Runs_beginOf_143 : decode b_Runs_beginOf 143 = .ok (.iload_n 3, 1) := by decide +kernel
theorem d_Runs_beginOf_144 : decode b_Runs_beginOf 144 = .ok (.invokevirtual 50, 3) := by decide +kernel
theorem d_Runs_beginOf_147 : decode b_Runs_beginOf 147 = .ok (.invokevirtual 40, 3) := by decide +kernel
theorem d_Runs_beginOf_150 : decode b_Runs_beginOf 150 = .ok (.ireturn, 1) := by decide +kernel
theorem d_Runs_beginOf_151 : decode b_Runs_beginOf 151 = .ok (.aload_n 0, 1) := by decide +kernel
theorem d_Runs_beginOf_152 : decode b_Runs_beginOf 152 = .ok (.iload 4, 2) := by decide +kernel
theorem d_Runs_beginOf_154 : decode b_Runs_beginOf 154 = .ok (.invokevirtual 40, 3) := by decide +kernel
theorem d_Runs_beginOf_157 : decode b_Runs_beginOf 157 = .ok (.ireturn, 1) := by decide +kernel
def m_Runs_beginOf (x1 : Int) (x2 : Int) (x3 : Int) (rm : Int) (rs : Int → Int) (rz : Int → Int) : Option (Int) :=
  bnd (m_Runs_leastFor x3 rm rz) (fun r1 => bnd (m_Runs_holds x2 x3 rm rs rz) (fun r3 => jn (fun (z6 : Int) (z7 : Int) (z8 : Int) (z9 : Int) (z10 : Int) => jn (fun (z12 : Int) (z13 : Int) (z14 : Int) (z15 : Int) (z16 : Int) (z17 : Int) => ceq z12 1 (some (z16)) (ceq z12 2 (clt z17 0 (some (z16)) (some (z17))) (ceq z12 3 (bnd (m_Runs_greatest rm rz) (fun r20 => bnd (m_Runs_startAt r20 rm rs) (fun r22 => some (r22)))) (ceq z12 4 (bnd (m_Runs_startAt z15 rm rs) (fun r24 => bnd (m_Runs_sizeAt z15 rm rz) (fun r26 => some (((r24 + r26) - z14))))) (ceq z12 5 (clt z13 0 (some (z16)) (ceq z16 z13 (some (z16)) (bnd (m_Runs_closestTo z13 z14 rm rs rz) (fun r28 => bnd (m_Runs_startAt r28 rm rs) (fun r30 => some (r30)))))) (bnd (m_Runs_startAt z15 rm rs) (fun r18 => some (r18)))))))) (fun j11 => jn (fun (z35 : Int) (z36 : Int) (z37 : Int) (z38 : Int) (z39 : Int) => j11 z35 z36 z37 z38 z39 (-1)) (fun j34 => ceq z6 2 (clt z8 4 (j34 z6 z7 z8 z9 z10) (bnd (m_Runs_firstStripe z8 rm rs rz) (fun r42 => j11 z6 z7 z8 z9 z10 r42))) (j34 z6 z7 z8 z9 z10)))) (fun j5 => ceq r3 0 (bnd (m_Runs_startAt r1 rm rs) (fun r46 => j5 x1 x2 x3 r1 r46)) (j5 x1 x2 x3 r1 x2))))
set_option maxHeartbeats 4000000 in
set_option maxRecDepth 100000 in
theorem c_Runs_beginOf (l : Launch) (D : va_G) (cI cB : ClassId) (a0 a1 a2 : Nat) (rm : Int) (rs : Int → Int) (rz : Int → Int) (x1 : Int) (x2 : Int) (x3 : Int) {o : Int} (h : m_Runs_beginOf x1 x2 x3 rm rs rz = some o) : Ct l D cI cB y_Runs_beginOf b_Runs_beginOf 7 (some .int) { frames := 1, cells := 0, slots := 0, locals := 26 } [.ref a0, .int (zi x1), .int (zi x2), .int (zi x3)] (w_Runs cI cB a0 a1 a2 rm rs rz) (w_Runs cI cB a0 a1 a2 rm rs rz) (some (.int (zi o))) := by
  refine Ct.start (by decide) (Nat.le_of_ble_eq_true rfl) (fun G X hR => ?_)
  refine x_ls (ls2 := [(0, .ref a0), (1, .int (zi x1)), (2, .int (zi x2)), (3, .int (zi x3))]) [0, 1, 2, 3] rfl ?_
  unfold m_Runs_beginOf at h
  refine x_aload_n (pc := 0) X d_Runs_beginOf_0 0 rfl rfl ?_
  refine x_iload_n (pc := 1) X d_Runs_beginOf_1 3 rfl rfl ?_
  obtain ⟨r1, h2, h⟩ := bnd_e h
  refine x_callV (pc := 2) (As := [.int (zi x3)]) (rest := []) (w2 := (w_Runs cI cB a0 a1 a2 rm rs rz)) X d_Runs_beginOf_2 lk_Runs_33 mv_Runs_leastFor (c_Runs_leastFor l D cI cB a0 a1 a2 rm rs rz x3 h2) ⟨(Nat.le_of_ble_eq_true rfl), (Nat.le_of_ble_eq_true rfl), (Nat.le_of_ble_eq_true rfl), (Nat.le_of_ble_eq_true rfl)⟩ 0 rfl rfl [0, 1, 2] rfl rfl rfl (Up.same rfl) rfl rfl (Nat.le_of_ble_eq_true rfl) ?_
  refine x_istore (pc := 5) (ls2 := [(4, .int (zi r1)), (0, .ref a0), (1, .int (zi x1)), (2, .int (zi x2)), (3, .int (zi x3))]) X d_Runs_beginOf_5 (Nat.le_of_ble_eq_true rfl) rfl ?_
  refine x_aload_n (pc := 7) X d_Runs_beginOf_7 1 rfl rfl ?_
  refine x_iload_n (pc := 8) X d_Runs_beginOf_8 3 rfl rfl ?_
  refine x_iload_n (pc := 9) X d_Runs_beginOf_9 4 rfl rfl ?_
  obtain ⟨r3, h4, h⟩ := bnd_e h
  refine x_callV (pc := 10) (As := [.int (zi x2), .int (zi x3)]) (rest := []) (w2 := (w_Runs cI cB a0 a1 a2 rm rs rz)) X d_Runs_beginOf_10 lk_Runs_36 mv_Runs_holds (c_Runs_holds l D cI cB a0 a1 a2 rm rs rz x2 x3 h4) ⟨(Nat.le_of_ble_eq_true rfl), (Nat.le_of_ble_eq_true rfl), (Nat.le_of_ble_eq_true rfl), (Nat.le_of_ble_eq_true rfl)⟩ 0 rfl rfl [0, 1, 2] rfl rfl rfl (Up.same rfl) rfl rfl (Nat.le_of_ble_eq_true rfl) ?_
  obtain ⟨j5, hj44, h⟩ := jn_e h
  have J45 : ∀ (z6 : Int) (z7 : Int) (z8 : Int) (z9 : Int) (z10 : Int), j5 z6 z7 z8 z9 z10 = some o → Wx G 0 0 26 [(0, .ref a0), (1, .int (zi z6)), (2, .int (zi z7)), (3, .int (zi z8)), (4, .int (zi z9))] [.int (zi z10)] (w_Runs cI cB a0 a1 a2 rm rs rz) := by
    intro z6 z7 z8 z9 z10 h
    rw [hj44] at h
    (try dsimp only at h)
    refine x_istore (pc := 26) (ls2 := [(5, .int (zi z10)), (0, .ref a0), (1, .int (zi z6)), (2, .int (zi z7)), (3, .int (zi z8)), (4, .int (zi z9))]) X d_Runs_beginOf_26 (Nat.le_of_ble_eq_true rfl) rfl ?_
    refine x_iload_n (pc := 28) X d_Runs_beginOf_28 2 rfl rfl ?_
    refine x_iconst (pc := 29) X d_Runs_beginOf_29  ?_
    obtain ⟨j11, hj32, h⟩ := jn_e h
    have J33 : ∀ (z12 : Int) (z13 : Int) (z14 : Int) (z15 : Int) (z16 : Int) (z17 : Int), j11 z12 z13 z14 z15 z16 z17 = some o → Wx G 0 0 47 [(0, .ref a0), (1, .int (zi z12)), (2, .int (zi z13)), (3, .int (zi z14)), (4, .int (zi z15)), (5, .int (zi z16))] [.int (zi z17)] (w_Runs cI cB a0 a1 a2 rm rs rz) := by
      intro z12 z13 z14 z15 z16 z17 h
      rw [hj32] at h
      (try dsimp only at h)
      refine x_istore (pc := 47) (ls2 := [(6, .int (zi z17)), (0, .ref a0), (1, .int (zi z12)), (2, .int (zi z13)), (3, .int (zi z14)), (4, .int (zi z15)), (5, .int (zi z16))]) X d_Runs_beginOf_47 (Nat.le_of_ble_eq_true rfl) rfl ?_
      refine x_iload_n (pc := 49) X d_Runs_beginOf_49 2 rfl rfl ?_
      obtain ⟨hz, h⟩ := ceq_e h
      rcases h with ⟨e0, h⟩ | ⟨n0, h⟩
      · refine x_tsIn (pc := 50) (v := 1) (tgt := 84) X d_Runs_beginOf_50 e0 ⟨by decide, by decide⟩ (by decide) (by decide) rfl rfl ?_
        refine x_iload (pc := 84) X d_Runs_beginOf_84 6 rfl ?_
        cases h
        exact x_iret (pc := 86) X hR d_Runs_beginOf_86
      obtain ⟨hz, h⟩ := ceq_e h
      rcases h with ⟨e1, h⟩ | ⟨n1, h⟩
      · refine x_tsIn (pc := 50) (v := 2) (tgt := 87) X d_Runs_beginOf_50 e1 ⟨by decide, by decide⟩ (by decide) (by decide) rfl rfl ?_
        refine x_iload (pc := 87) X d_Runs_beginOf_87 0 rfl ?_
        refine x_ifge (pc := 89) (tgt := 97) X d_Runs_beginOf_89 rfl h (fun h => ?_) (fun h => ?_)
        · skip
          refine x_iload (pc := 97) X d_Runs_beginOf_97 0 rfl ?_
          cases h
          exact x_iret (pc := 99) X hR d_Runs_beginOf_99
        · skip
          refine x_iload (pc := 92) X d_Runs_beginOf_92 6 rfl ?_
          refine x_goto (pc := 94) (tgt := 99) X d_Runs_beginOf_94 rfl ?_
          cases h
          exact x_iret (pc := 99) X hR d_Runs_beginOf_99
      obtain ⟨hz, h⟩ := ceq_e h
      rcases h with ⟨e2, h⟩ | ⟨n2, h⟩
      · refine x_tsIn (pc := 50) (v := 3) (tgt := 100) X d_Runs_beginOf_50 e2 ⟨by decide, by decide⟩ (by decide) (by decide) rfl rfl ?_
        refine x_aload_n (pc := 100) X d_Runs_beginOf_100 1 rfl rfl ?_
        refine x_aload_n (pc := 101) X d_Runs_beginOf_101 1 rfl rfl ?_
        obtain ⟨r20, h21, h⟩ := bnd_e h
        refine x_callV (pc := 102) (As := []) (rest := [.ref a0]) (w2 := (w_Runs cI cB a0 a1 a2 rm rs rz)) X d_Runs_beginOf_102 lk_Runs_46 mv_Runs_greatest (c_Runs_greatest l D cI cB a0 a1 a2 rm rs rz h21) ⟨(Nat.le_of_ble_eq_true rfl), (Nat.le_of_ble_eq_true rfl), (Nat.le_of_ble_eq_true rfl), (Nat.le_of_ble_eq_true rfl)⟩ 0 rfl rfl [0, 1, 2] rfl rfl rfl (Up.same rfl) rfl rfl (Nat.le_of_ble_eq_true rfl) ?_
        obtain ⟨r22, h23, h⟩ := bnd_e h
        refine x_callV (pc := 105) (As := [.int (zi r20)]) (rest := []) (w2 := (w_Runs cI cB a0 a1 a2 rm rs rz)) X d_Runs_beginOf_105 lk_Runs_40 mv_Runs_startAt (c_Runs_startAt l D cI cB a0 a1 a2 rm rs rz r20 h23) ⟨(Nat.le_of_ble_eq_true rfl), (Nat.le_of_ble_eq_true rfl), (Nat.le_of_ble_eq_true rfl), (Nat.le_of_ble_eq_true rfl)⟩ 0 rfl rfl [0, 1, 2] rfl rfl rfl (Up.same rfl) rfl rfl (Nat.le_of_ble_eq_true rfl) ?_
        cases h
        exact x_iret (pc := 108) X hR d_Runs_beginOf_108
      obtain ⟨hz, h⟩ := ceq_e h
      rcases h with ⟨e3, h⟩ | ⟨n3, h⟩
      · refine x_tsIn (pc := 50) (v := 4) (tgt := 109) X d_Runs_beginOf_50 e3 ⟨by decide, by decide⟩ (by decide) (by decide) rfl rfl ?_
        refine x_aload_n (pc := 109) X d_Runs_beginOf_109 1 rfl rfl ?_
        refine x_iload (pc := 110) X d_Runs_beginOf_110 5 rfl ?_
        obtain ⟨r24, h25, h⟩ := bnd_e h
        refine x_callV (pc := 112) (As := [.int (zi z15)]) (rest := []) (w2 := (w_Runs cI cB a0 a1 a2 rm rs rz)) X d_Runs_beginOf_112 lk_Runs_40 mv_Runs_startAt (c_Runs_startAt l D cI cB a0 a1 a2 rm rs rz z15 h25) ⟨(Nat.le_of_ble_eq_true rfl), (Nat.le_of_ble_eq_true rfl), (Nat.le_of_ble_eq_true rfl), (Nat.le_of_ble_eq_true rfl)⟩ 0 rfl rfl [0, 1, 2] rfl rfl rfl (Up.same rfl) rfl rfl (Nat.le_of_ble_eq_true rfl) ?_
        refine x_aload_n (pc := 115) X d_Runs_beginOf_115 1 rfl rfl ?_
        refine x_iload (pc := 116) X d_Runs_beginOf_116 5 rfl ?_
        obtain ⟨r26, h27, h⟩ := bnd_e h
        refine x_callV (pc := 118) (As := [.int (zi z15)]) (rest := [.int (zi r24)]) (w2 := (w_Runs cI cB a0 a1 a2 rm rs rz)) X d_Runs_beginOf_118 lk_Runs_30 mv_Runs_sizeAt (c_Runs_sizeAt l D cI cB a0 a1 a2 rm rs rz z15 h27) ⟨(Nat.le_of_ble_eq_true rfl), (Nat.le_of_ble_eq_true rfl), (Nat.le_of_ble_eq_true rfl), (Nat.le_of_ble_eq_true rfl)⟩ 0 rfl rfl [0, 1, 2] rfl rfl rfl (Up.same rfl) rfl rfl (Nat.le_of_ble_eq_true rfl) ?_
        refine x_iadd (pc := 121) X d_Runs_beginOf_121  ?_
        refine x_iload_n (pc := 122) X d_Runs_beginOf_122 4 rfl rfl ?_
        refine x_isub (pc := 123) X d_Runs_beginOf_123  ?_
        cases h
        exact x_iret (pc := 124) X hR d_Runs_beginOf_124
      obtain ⟨hz, h⟩ := ceq_e h
      rcases h with ⟨e4, h⟩ | ⟨n4, h⟩
      · refine x_tsIn (pc := 50) (v := 5) (tgt := 125) X d_Runs_beginOf_50 e4 ⟨by decide, by decide⟩ (by decide) (by decide) rfl rfl ?_
        refine x_iload_n (pc := 125) X d_Runs_beginOf_125 3 rfl rfl ?_
        refine x_iflt (pc := 126) (tgt := 135) X d_Runs_beginOf_126 rfl h (fun h => ?_) (fun h => ?_)
        · skip
          refine x_iload (pc := 135) X d_Runs_beginOf_135 6 rfl ?_
          refine x_goto (pc := 137) (tgt := 150) X d_Runs_beginOf_137 rfl ?_
          cases h
          exact x_iret (pc := 150) X hR d_Runs_beginOf_150
        · skip
          refine x_iload (pc := 129) X d_Runs_beginOf_129 6 rfl ?_
          refine x_iload_n (pc := 131) X d_Runs_beginOf_131 3 rfl rfl ?_
          refine x_icmpne (pc := 132) (tgt := 140) X d_Runs_beginOf_132 rfl h (fun h => ?_) (fun h => ?_)
          · skip
            refine x_aload_n (pc := 140) X d_Runs_beginOf_140 1 rfl rfl ?_
            refine x_aload_n (pc := 141) X d_Runs_beginOf_141 1 rfl rfl ?_
            refine x_iload_n (pc := 142) X d_Runs_beginOf_142 3 rfl rfl ?_
            refine x_iload_n (pc := 143) X d_Runs_beginOf_143 4 rfl rfl ?_
            obtain ⟨r28, h29, h⟩ := bnd_e h
            refine x_callV (pc := 144) (As := [.int (zi z13), .int (zi z14)]) (rest := [.ref a0]) (w2 := (w_Runs cI cB a0 a1 a2 rm rs rz)) X d_Runs_beginOf_144 lk_Runs_50 mv_Runs_closestTo (c_Runs_closestTo l D cI cB a0 a1 a2 rm rs rz z13 z14 h29) ⟨(Nat.le_of_ble_eq_true rfl), (Nat.le_of_ble_eq_true rfl), (Nat.le_of_ble_eq_true rfl), (Nat.le_of_ble_eq_true rfl)⟩ 0 rfl rfl [0, 1, 2] rfl rfl rfl (Up.same rfl) rfl rfl (Nat.le_of_ble_eq_true rfl) ?_
            obtain ⟨r30, h31, h⟩ := bnd_e h
            refine x_callV (pc := 147) (As := [.int (zi r28)]) (rest := []) (w2 := (w_Runs cI cB a0 a1 a2 rm rs rz)) X d_Runs_beginOf_147 lk_Runs_40 mv_Runs_startAt (c_Runs_startAt l D cI cB a0 a1 a2 rm rs rz r28 h31) ⟨(Nat.le_of_ble_eq_true rfl), (Nat.le_of_ble_eq_true rfl), (Nat.le_of_ble_eq_true rfl), (Nat.le_of_ble_eq_true rfl)⟩ 0 rfl rfl [0, 1, 2] rfl rfl rfl (Up.same rfl) rfl rfl (Nat.le_of_ble_eq_true rfl) ?_
            cases h
            exact x_iret (pc := 150) X hR d_Runs_beginOf_150
          · skip
            refine x_iload (pc := 135) X d_Runs_beginOf_135 6 rfl ?_
            refine x_goto (pc := 137) (tgt := 150) X d_Runs_beginOf_137 rfl ?_
            cases h
            exact x_iret (pc := 150) X hR d_Runs_beginOf_150
      refine x_tsOut (pc := 50) (tgt := 151) X d_Runs_beginOf_50 hz.1 (by omega) rfl ?_
      · skip
        refine x_aload_n (pc := 151) X d_Runs_beginOf_151 1 rfl rfl ?_
        refine x_iload (pc := 152) X d_Runs_beginOf_152 5 rfl ?_
        obtain ⟨r18, h19, h⟩ := bnd_e h
        refine x_callV (pc := 154) (As := [.int (zi z15)]) (rest := []) (w2 := (w_Runs cI cB a0 a1 a2 rm rs rz)) X d_Runs_beginOf_154 lk_Runs_40 mv_Runs_startAt (c_Runs_startAt l D cI cB a0 a1 a2 rm rs rz z15 h19) ⟨(Nat.le_of_ble_eq_true rfl), (Nat.le_of_ble_eq_true rfl), (Nat.le_of_ble_eq_true rfl), (Nat.le_of_ble_eq_true rfl)⟩ 0 rfl rfl [0, 1, 2] rfl rfl rfl (Up.same rfl) rfl rfl (Nat.le_of_ble_eq_true rfl) ?_
        cases h
        exact x_iret (pc := 157) X hR d_Runs_beginOf_157
    clear hj32
    obtain ⟨j34, hj40, h⟩ := jn_e h
    have J41 : ∀ (z35 : Int) (z36 : Int) (z37 : Int) (z38 : Int) (z39 : Int), j34 z35 z36 z37 z38 z39 = some o → Wx G 0 0 46 [(0, .ref a0), (1, .int (zi z35)), (2, .int (zi z36)), (3, .int (zi z37)), (4, .int (zi z38)), (5, .int (zi z39))] [] (w_Runs cI cB a0 a1 a2 rm rs rz) := by
      intro z35 z36 z37 z38 z39 h
      rw [hj40] at h
      (try dsimp only at h)
      refine x_iconst (pc := 46) X d_Runs_beginOf_46  ?_
      exact J33 z35 z36 z37 z38 z39 (-1) h
    clear hj40
    refine x_icmpne (pc := 30) (tgt := 46) X d_Runs_beginOf_30 rfl h (fun h => ?_) (fun h => ?_)
    · skip
      refine x_ls (ls2 := [(0, .ref a0), (1, .int (zi z6)), (2, .int (zi z7)), (3, .int (zi z8)), (4, .int (zi z9)), (5, .int (zi z10))]) [1, 2, 3, 4, 5, 0] rfl ?_
      exact J41 z6 z7 z8 z9 z10 h
    · skip
      refine x_iload_n (pc := 33) X d_Runs_beginOf_33 4 rfl rfl ?_
      refine x_iconst (pc := 34) X d_Runs_beginOf_34  ?_
      refine x_icmplt (pc := 35) (tgt := 46) X d_Runs_beginOf_35 rfl h (fun h => ?_) (fun h => ?_)
      · skip
        refine x_ls (ls2 := [(0, .ref a0), (1, .int (zi z6)), (2, .int (zi z7)), (3, .int (zi z8)), (4, .int (zi z9)), (5, .int (zi z10))]) [1, 2, 3, 4, 5, 0] rfl ?_
        exact J41 z6 z7 z8 z9 z10 h
      · skip
        refine x_aload_n (pc := 38) X d_Runs_beginOf_38 1 rfl rfl ?_
        refine x_iload_n (pc := 39) X d_Runs_beginOf_39 4 rfl rfl ?_
        obtain ⟨r42, h43, h⟩ := bnd_e h
        refine x_callV (pc := 40) (As := [.int (zi z8)]) (rest := []) (w2 := (w_Runs cI cB a0 a1 a2 rm rs rz)) X d_Runs_beginOf_40 lk_Runs_43 mv_Runs_firstStripe (c_Runs_firstStripe l D cI cB a0 a1 a2 rm rs rz z8 h43) ⟨(Nat.le_of_ble_eq_true rfl), (Nat.le_of_ble_eq_true rfl), (Nat.le_of_ble_eq_true rfl), (Nat.le_of_ble_eq_true rfl)⟩ 0 rfl rfl [0, 1, 2] rfl rfl rfl (Up.same rfl) rfl rfl (Nat.le_of_ble_eq_true rfl) ?_
        refine x_goto (pc := 43) (tgt := 47) X d_Runs_beginOf_43 rfl ?_
        refine x_ls (ls2 := [(0, .ref a0), (1, .int (zi z6)), (2, .int (zi z7)), (3, .int (zi z8)), (4, .int (zi z9)), (5, .int (zi z10))]) [1, 2, 3, 4, 5, 0] rfl ?_
        exact J33 z6 z7 z8 z9 z10 r42 h
  clear hj44
  refine x_ifeq (pc := 13) (tgt := 20) X d_Runs_beginOf_13 rfl h (fun h => ?_) (fun h => ?_)
  · skip
    refine x_aload_n (pc := 20) X d_Runs_beginOf_20 1 rfl rfl ?_
    refine x_iload (pc := 21) X d_Runs_beginOf_21 0 rfl ?_
    obtain ⟨r46, h47, h⟩ := bnd_e h
    refine x_callV (pc := 23) (As := [.int (zi r1)]) (rest := []) (w2 := (w_Runs cI cB a0 a1 a2 rm rs rz)) X d_Runs_beginOf_23 lk_Runs_40 mv_Runs_startAt (c_Runs_startAt l D cI cB a0 a1 a2 rm rs rz r1 h47) ⟨(Nat.le_of_ble_eq_true rfl), (Nat.le_of_ble_eq_true rfl), (Nat.le_of_ble_eq_true rfl), (Nat.le_of_ble_eq_true rfl)⟩ 0 rfl rfl [0, 1, 2] rfl rfl rfl (Up.same rfl) rfl rfl (Nat.le_of_ble_eq_true rfl) ?_
    refine x_ls (ls2 := [(0, .ref a0), (1, .int (zi x1)), (2, .int (zi x2)), (3, .int (zi x3)), (4, .int (zi r1))]) [1, 2, 3, 4, 0] rfl ?_
    exact J45 x1 x2 x3 r1 r46 h
  · skip
    refine x_iload_n (pc := 16) X d_Runs_beginOf_16 3 rfl rfl ?_
    refine x_goto (pc := 17) (tgt := 26) X d_Runs_beginOf_17 rfl ?_
    refine x_ls (ls2 := [(0, .ref a0), (1, .int (zi x1)), (2, .int (zi x2)), (3, .int (zi x3)), (4, .int (zi r1))]) [1, 2, 3, 4, 0] rfl ?_
    exact J45 x1 x2 x3 r1 x2 h
theorem d_Row_empty_0 : decode b_Row_empty 0 = .ok (.aload_n 0, 1) := by decide +kernel
theorem d_Row_empty_1 : decode b_Row_empty 1 = .ok (.iconst 0, 1) := by decide +kernel
theorem d_Row_empty_2 : decode b_Row_empty 2 = .ok (.putfield 21, 3) := by decide +kernel
theorem d_Row_empty_5 : decode b_Row_empty 5 = .ok (.return_, 1) := by decide +kernel
def m_Row_empty_W96  (mn : Int) : Option (Int) :=
  some (0)
set_option maxHeartbeats 4000000 in
set_option maxRecDepth 100000 in
theorem c_Row_empty_W96 (l : Launch) (D : va_G) (cI cB : ClassId) (a0 a1 : Nat) (mn : Int) (nu : Int → Int)  {o : Int} (h : m_Row_empty_W96 mn = some o) : Ct l D cI cB y_Row_empty b_Row_empty 1 none { frames := 0, cells := 0, slots := 0, locals := 0 } [.ref a0] (w_W96 cI cB a0 a1 mn nu) (w_W96 cI cB a0 a1 o nu) none := by
  refine Ct.start (by decide) (Nat.le_of_ble_eq_true rfl) (fun G X hR => ?_)
  refine x_ls (ls2 := [(0, .ref a0)]) [0] rfl ?_
  unfold m_Row_empty_W96 at h
  refine x_aload_n (pc := 0) X d_Row_empty_0 0 rfl rfl ?_
  refine x_iconst (pc := 1) X d_Row_empty_1  ?_
  refine x_put (pc := 2) (w2 := (w_W96 cI cB a0 a1 0 nu)) X d_Row_empty_2 0 rfl (fp_Row_21 _) (Nat.le_of_ble_eq_true rfl) rfl ?_
  cases h
  exact x_vret (pc := 5) X hR d_Row_empty_5
theorem d_Vol_orNothing_0 : decode b_Vol_orNothing 0 = .ok (.iload_n 0, 1) := by decide +kernel
theorem d_Vol_orNothing_1 : decode b_Vol_orNothing 1 = .ok (.ifCond .ge 8, 3) := by decide +kernel
theorem d_Vol_orNothing_4 : decode b_Vol_orNothing 4 = .ok (.bipush (-9), 2) := by decide +kernel
theorem d_Vol_orNothing_6 : decode b_Vol_orNothing 6 = .ok (.goto 4, 3) := by decide +kernel
theorem d_Vol_orNothing_9 : decode b_Vol_orNothing 9 = .ok (.iload_n 0, 1) := by decide +kernel
theorem d_Vol_orNothing_10 : decode b_Vol_orNothing 10 = .ok (.ireturn, 1) := by decide +kernel
def m_Vol_orNothing (x0 : Int)  : Option (Int) :=
  clt x0 0 (some ((-9))) (some (x0))
set_option maxHeartbeats 4000000 in
set_option maxRecDepth 100000 in
theorem c_Vol_orNothing (l : Launch) (D : va_G) (cI cB : ClassId)   (x0 : Int) {o : Int} (h : m_Vol_orNothing x0 = some o) : Ct l D cI cB y_Vol_orNothing b_Vol_orNothing 1 (some .int) { frames := 0, cells := 0, slots := 0, locals := 0 } [.int (zi x0)] [] [] (some (.int (zi o))) := by
  refine Ct.start (by decide) (Nat.le_of_ble_eq_true rfl) (fun G X hR => ?_)
  refine x_ls (ls2 := [(0, .int (zi x0))]) [0] rfl ?_
  unfold m_Vol_orNothing at h
  refine x_iload_n (pc := 0) X d_Vol_orNothing_0 0 rfl rfl ?_
  refine x_ifge (pc := 1) (tgt := 9) X d_Vol_orNothing_1 rfl h (fun h => ?_) (fun h => ?_)
  · skip
    refine x_iload_n (pc := 9) X d_Vol_orNothing_9 0 rfl rfl ?_
    cases h
    exact x_iret (pc := 10) X hR d_Vol_orNothing_10
  · skip
    refine x_bipush (pc := 4) (v := -9) X d_Vol_orNothing_4 rfl ?_
    refine x_goto (pc := 6) (tgt := 10) X d_Vol_orNothing_6 rfl ?_
    cases h
    exact x_iret (pc := 10) X hR d_Vol_orNothing_10
theorem d_Vol_depthOf_0 : decode b_Vol_depthOf 0 = .ok (.iload_n 0, 1) := by decide +kernel
theorem d_Vol_depthOf_1 : decode b_Vol_depthOf 1 = .ok (.iconst 4, 1) := by decide +kernel
theorem d_Vol_depthOf_2 : decode b_Vol_depthOf 2 = .ok (.if_icmp .gt 5, 3) := by decide +kernel
theorem d_Vol_depthOf_5 : decode b_Vol_depthOf 5 = .ok (.iconst 0, 1) := by decide +kernel
theorem d_Vol_depthOf_6 : decode b_Vol_depthOf 6 = .ok (.ireturn, 1) := by decide +kernel
theorem d_Vol_depthOf_7 : decode b_Vol_depthOf 7 = .ok (.iload_n 0, 1) := by decide +kernel
theorem d_Vol_depthOf_8 : decode b_Vol_depthOf 8 = .ok (.bipush 16, 2) := by decide +kernel
theorem d_Vol_depthOf_10 : decode b_Vol_depthOf 10 = .ok (.if_icmp .gt 7, 3) := by decide +kernel
theorem d_Vol_depthOf_13 : decode b_Vol_depthOf 13 = .ok (.iconst 1, 1) := by decide +kernel
theorem d_Vol_depthOf_14 : decode b_Vol_depthOf 14 = .ok (.goto 4, 3) := by decide +kernel
theorem d_Vol_depthOf_17 : decode b_Vol_depthOf 17 = .ok (.iconst 2, 1) := by decide +kernel
theorem d_Vol_depthOf_18 : decode b_Vol_depthOf 18 = .ok (.ireturn, 1) := by decide +kernel
def m_Vol_depthOf (x0 : Int)  : Option (Int) :=
  cle x0 4 (some (0)) (cle x0 16 (some (1)) (some (2)))
set_option maxHeartbeats 4000000 in
set_option maxRecDepth 100000 in
theorem c_Vol_depthOf (l : Launch) (D : va_G) (cI cB : ClassId)   (x0 : Int) {o : Int} (h : m_Vol_depthOf x0 = some o) : Ct l D cI cB y_Vol_depthOf b_Vol_depthOf 1 (some .int) { frames := 0, cells := 0, slots := 0, locals := 0 } [.int (zi x0)] [] [] (some (.int (zi o))) := by
  refine Ct.start (by decide) (Nat.le_of_ble_eq_true rfl) (fun G X hR => ?_)
  refine x_ls (ls2 := [(0, .int (zi x0))]) [0] rfl ?_
  unfold m_Vol_depthOf at h
  refine x_iload_n (pc := 0) X d_Vol_depthOf_0 0 rfl rfl ?_
  refine x_iconst (pc := 1) X d_Vol_depthOf_1  ?_
  refine x_icmpgt (pc := 2) (tgt := 7) X d_Vol_depthOf_2 rfl h (fun h => ?_) (fun h => ?_)
  · skip
    refine x_iload_n (pc := 7) X d_Vol_depthOf_7 0 rfl rfl ?_
    refine x_bipush (pc := 8) (v := 16) X d_Vol_depthOf_8 rfl ?_
    refine x_icmpgt (pc := 10) (tgt := 17) X d_Vol_depthOf_10 rfl h (fun h => ?_) (fun h => ?_)
    · skip
      refine x_iconst (pc := 17) X d_Vol_depthOf_17  ?_
      cases h
      exact x_iret (pc := 18) X hR d_Vol_depthOf_18
    · skip
      refine x_iconst (pc := 13) X d_Vol_depthOf_13  ?_
      refine x_goto (pc := 14) (tgt := 18) X d_Vol_depthOf_14 rfl ?_
      cases h
      exact x_iret (pc := 18) X hR d_Vol_depthOf_18
  · skip
    refine x_iconst (pc := 5) X d_Vol_depthOf_5  ?_
    cases h
    exact x_iret (pc := 6) X hR d_Vol_depthOf_6
theorem d_Vol_isEither_0 : decode b_Vol_isEither 0 = .ok (.iload_n 0, 1) := by decide +kernel
theorem d_Vol_isEither_1 : decode b_Vol_isEither 1 = .ok (.ifCond .eq 8, 3) := by decide +kernel
theorem d_Vol_isEither_4 : decode b_Vol_isEither 4 = .ok (.iload_n 0, 1) := by decide +kernel
theorem d_Vol_isEither_5 : decode b_Vol_isEither 5 = .ok (.iconst 1, 1) := by decide +kernel
theorem d_Vol_isEither_6 : decode b_Vol_isEither 6 = .ok (.if_icmp .ne 7, 3) := by decide +kernel
theorem d_Vol_isEither_9 : decode b_Vol_isEither 9 = .ok (.iconst 1, 1) := by decide +kernel
theorem d_Vol_isEither_10 : decode b_Vol_isEither 10 = .ok (.goto 4, 3) := by decide +kernel
theorem d_Vol_isEither_13 : decode b_Vol_isEither 13 = .ok (.iconst 0, 1) := by decide +kernel
theorem d_Vol_isEither_14 : decode b_Vol_isEither 14 = .ok (.ireturn, 1) := by decide +kernel
def m_Vol_isEither (x0 : Int)  : Option (Int) :=
  ceq x0 0 (some (1)) (ceq x0 1 (some (1)) (some (0)))
set_option maxHeartbeats 4000000 in
set_option maxRecDepth 100000 in
theorem c_Vol_isEither (l : Launch) (D : va_G) (cI cB : ClassId)   (x0 : Int) {o : Int} (h : m_Vol_isEither x0 = some o) : Ct l D cI cB y_Vol_isEither b_Vol_isEither 1 (some .boolean) { frames := 0, cells := 0, slots := 0, locals := 0 } [.int (zi x0)] [] [] (some (.int (zi o))) := by
  refine Ct.start (by decide) (Nat.le_of_ble_eq_true rfl) (fun G X hR => ?_)
  refine x_ls (ls2 := [(0, .int (zi x0))]) [0] rfl ?_
  unfold m_Vol_isEither at h
  refine x_iload_n (pc := 0) X d_Vol_isEither_0 0 rfl rfl ?_
  refine x_ifeq (pc := 1) (tgt := 9) X d_Vol_isEither_1 rfl h (fun h => ?_) (fun h => ?_)
  · skip
    refine x_iconst (pc := 9) X d_Vol_isEither_9  ?_
    refine x_goto (pc := 10) (tgt := 14) X d_Vol_isEither_10 rfl ?_
    cases h
    exact x_zret (pc := 14) X hR d_Vol_isEither_14 (Or.inr rfl)
  · skip
    refine x_iload_n (pc := 4) X d_Vol_isEither_4 0 rfl rfl ?_
    refine x_iconst (pc := 5) X d_Vol_isEither_5  ?_
    refine x_icmpne (pc := 6) (tgt := 13) X d_Vol_isEither_6 rfl h (fun h => ?_) (fun h => ?_)
    · skip
      refine x_iconst (pc := 13) X d_Vol_isEither_13  ?_
      cases h
      exact x_zret (pc := 14) X hR d_Vol_isEither_14 (Or.inl rfl)
    · skip
      refine x_iconst (pc := 9) X d_Vol_isEither_9  ?_
      refine x_goto (pc := 10) (tgt := 14) X d_Vol_isEither_10 rfl ?_
      cases h
      exact x_zret (pc := 14) X hR d_Vol_isEither_14 (Or.inr rfl)
theorem d_Runs_rankOfSize_0 : decode b_Runs_rankOfSize 0 = .ok (.iconst 0, 1) := by decide +kernel
theorem d_Runs_rankOfSize_1 : decode b_Runs_rankOfSize 1 = .ok (.istore_n 2, 1) := by decide +kernel
theorem d_Runs_rankOfSize_2 : decode b_Runs_rankOfSize 2 = .ok (.iconst 0, 1) := by decide +kernel
theorem d_Runs_rankOfSize_3 : decode b_Runs_rankOfSize 3 = .ok (.istore_n 3, 1) := by decide +kernel
theorem d_Runs_rankOfSize_4 : decode b_Runs_rankOfSize 4 = .ok (.iload_n 3, 1) := by decide +kernel
theorem d_Runs_rankOfSize_5 : decode b_Runs_rankOfSize 5 = .ok (.aload_n 0, 1) := by decide +kernel
theorem d_Runs_rankOfSize_6 : decode b_Runs_rankOfSize 6 = .ok (.getfield 18, 3) := by decide +kernel
theorem d_Runs_rankOfSize_9 : decode b_Runs_rankOfSize 9 = .ok (.if_icmp .ge 43, 3) := by decide +kernel
theorem d_Runs_rankOfSize_12 : decode b_Runs_rankOfSize 12 = .ok (.aload_n 0, 1) := by decide +kernel
theorem d_Runs_rankOfSize_13 : decode b_Runs_rankOfSize 13 = .ok (.iload_n 3, 1) := by decide +kernel
theorem d_Runs_rankOfSize_14 : decode b_Runs_rankOfSize 14 = .ok (.invokevirtual 30, 3) := by decide +kernel
theorem d_Runs_rankOfSize_17 : decode b_Runs_rankOfSize 17 = .ok (.aload_n 0, 1) := by decide +kernel
theorem d_Runs_rankOfSize_18 : decode b_Runs_rankOfSize 18 = .ok (.iload_n 1, 1) := by decide +kernel
theorem d_Runs_rankOfSize_19 : decode b_Runs_rankOfSize 19 = .ok (.invokevirtual 30, 3) := by decide +kernel
theorem d_Runs_rankOfSize_22 : decode b_Runs_rankOfSize 22 = .ok (.if_icmp .lt 21, 3) := by decide +kernel
theorem d_Runs_rankOfSize_25 : decode b_Runs_rankOfSize 25 = .ok (.aload_n 0, 1) := by decide +kernel
theorem d_Runs_rankOfSize_26 : decode b_Runs_rankOfSize 26 = .ok (.iload_n 3, 1) := by decide +kernel
theorem d_Runs_rankOfSize_27 : decode b_Runs_rankOfSize 27 = .ok (.invokevirtual 30, 3) := by decide +kernel
theorem d_Runs_rankOfSize_30 : decode b_Runs_rankOfSize 30 = .ok (.aload_n 0, 1) := by decide +kernel
theorem d_Runs_rankOfSize_31 : decode b_Runs_rankOfSize 31 = .ok (.iload_n 1, 1) := by decide +kernel
theorem d_Runs_rankOfSize_32 : decode b_Runs_rankOfSize 32 = .ok (.invokevirtual 30, 3) := by decide +kernel
theorem d_Runs_rankOfSize_35 : decode b_Runs_rankOfSize 35 = .ok (.if_icmp .ne 11, 3) := by decide +kernel
theorem d_Runs_rankOfSize_38 : decode b_Runs_rankOfSize 38 = .ok (.iload_n 3, 1) := by decide +kernel
theorem d_Runs_rankOfSize_39 : decode b_Runs_rankOfSize 39 = .ok (.iload_n 1, 1) := by decide +kernel
theorem d_Runs_rankOfSize_40 : decode b_Runs_rankOfSize 40 = .ok (.if_icmp .ge 6, 3) := by decide +kernel
theorem d_Runs_rankOfSize_43 : decode b_Runs_rankOfSize 43 = .ok (.iinc 2 1, 3) := by decide +kernel
theorem d_Runs_rankOfSize_46 : decode b_Runs_rankOfSize 46 = .ok (.iinc 3 1, 3) := by decide +kernel
theorem d_Runs_rankOfSize_49 : decode b_Runs_rankOfSize 49 = .ok (.goto (-45), 3) := by decide +kernel
theorem d_Runs_rankOfSize_52 : decode b_Runs_rankOfSize 52 = .ok (.iload_n 2, 1) := by decide +kernel
theorem d_Runs_rankOfSize_53 : decode b_Runs_rankOfSize 53 = .ok (.ireturn, 1) := by decide +kernel
def m_Runs_rankOfSize_4 : Nat → Int → Int → Int → Int → (Int → Int) → Option (Int)
  | 0, _, _, _, _, _ => none
  | fuel + 1, v1, v2, v3, rm, rz =>
  clt v3 rm (bnd (m_Runs_sizeAt v3 rm rz) (fun r1 => bnd (m_Runs_sizeAt v1 rm rz) (fun r3 => clt r1 r3 (m_Runs_rankOfSize_4 fuel v1 (v2 + 1) (v3 + 1) rm rz) (bnd (m_Runs_sizeAt v3 rm rz) (fun r5 => bnd (m_Runs_sizeAt v1 rm rz) (fun r7 => ceq r5 r7 (clt v3 v1 (m_Runs_rankOfSize_4 fuel v1 (v2 + 1) (v3 + 1) rm rz) (m_Runs_rankOfSize_4 fuel v1 v2 (v3 + 1) rm rz)) (m_Runs_rankOfSize_4 fuel v1 v2 (v3 + 1) rm rz))))))) (some (v2))
def m_Runs_rankOfSize (x1 : Int) (rm : Int) (rz : Int → Int) : Option (Int) :=
  m_Runs_rankOfSize_4 5000 x1 0 0 rm rz
set_option maxHeartbeats 4000000 in
set_option maxRecDepth 100000 in
theorem l_Runs_rankOfSize_4 {G : GT} {l : Launch} {D : va_G} {cI cB : ClassId} {a0 a1 a2 : Nat} {rs : Int → Int} (X : Cx G l D cI cB b_Runs_rankOfSize y_Runs_rankOfSize.cls 4 { frames := 1, cells := 0, slots := 0, locals := 21 }) : ∀ (fuel : Nat) (v1 : Int) (v2 : Int) (v3 : Int) (rm : Int) (rz : Int → Int) (o : Int), m_Runs_rankOfSize_4 fuel v1 v2 v3 rm rz = some o → Rt G (some .int) (some (.int (zi o))) (w_Runs cI cB a0 a1 a2 rm rs rz) → Wx G 0 0 4 [(0, .ref a0), (1, .int (zi v1)), (2, .int (zi v2)), (3, .int (zi v3))] [] (w_Runs cI cB a0 a1 a2 rm rs rz) := by
  intro fuel
  induction fuel with
  | zero =>
    intro v1 v2 v3 rm rz o h
    exact absurd h (by simp [m_Runs_rankOfSize_4])
  | succ fuel ih =>
    intro v1 v2 v3 rm rz o h hR
    rw [m_Runs_rankOfSize_4] at h
    refine x_iload_n (pc := 4) X d_Runs_rankOfSize_4 3 rfl rfl ?_
    refine x_aload_n (pc := 5) X d_Runs_rankOfSize_5 0 rfl rfl ?_
    refine x_get (pc := 6) X d_Runs_rankOfSize_6 0 rfl fl_Runs_18 rfl ?_
    refine x_icmpge (pc := 9) (tgt := 52) X d_Runs_rankOfSize_9 rfl h (fun h => ?_) (fun h => ?_)
    · skip
      refine x_iload_n (pc := 52) X d_Runs_rankOfSize_52 2 rfl rfl ?_
      cases h
      exact x_iret (pc := 53) X hR d_Runs_rankOfSize_53
    · skip
      refine x_aload_n (pc := 12) X d_Runs_rankOfSize_12 0 rfl rfl ?_
      refine x_iload_n (pc := 13) X d_Runs_rankOfSize_13 3 rfl rfl ?_
      obtain ⟨r1, h2, h⟩ := bnd_e h
      refine x_callV (pc := 14) (As := [.int (zi v3)]) (rest := []) (w2 := (w_Runs cI cB a0 a1 a2 rm rs rz)) X d_Runs_rankOfSize_14 lk_Runs_30 mv_Runs_sizeAt (c_Runs_sizeAt l D cI cB a0 a1 a2 rm rs rz v3 h2) ⟨(Nat.le_of_ble_eq_true rfl), (Nat.le_of_ble_eq_true rfl), (Nat.le_of_ble_eq_true rfl), (Nat.le_of_ble_eq_true rfl)⟩ 0 rfl rfl [0, 1, 2] rfl rfl rfl (Up.same rfl) rfl rfl (Nat.le_of_ble_eq_true rfl) ?_
      refine x_aload_n (pc := 17) X d_Runs_rankOfSize_17 0 rfl rfl ?_
      refine x_iload_n (pc := 18) X d_Runs_rankOfSize_18 1 rfl rfl ?_
      obtain ⟨r3, h4, h⟩ := bnd_e h
      refine x_callV (pc := 19) (As := [.int (zi v1)]) (rest := [.int (zi r1)]) (w2 := (w_Runs cI cB a0 a1 a2 rm rs rz)) X d_Runs_rankOfSize_19 lk_Runs_30 mv_Runs_sizeAt (c_Runs_sizeAt l D cI cB a0 a1 a2 rm rs rz v1 h4) ⟨(Nat.le_of_ble_eq_true rfl), (Nat.le_of_ble_eq_true rfl), (Nat.le_of_ble_eq_true rfl), (Nat.le_of_ble_eq_true rfl)⟩ 0 rfl rfl [0, 1, 2] rfl rfl rfl (Up.same rfl) rfl rfl (Nat.le_of_ble_eq_true rfl) ?_
      refine x_icmplt (pc := 22) (tgt := 43) X d_Runs_rankOfSize_22 rfl h (fun h => ?_) (fun h => ?_)
      · skip
        refine x_iinc (pc := 43) (ls2 := [(2, .int (zi (v2 + 1))), (0, .ref a0), (1, .int (zi v1)), (3, .int (zi v3))]) X d_Runs_rankOfSize_43 2 (Nat.le_of_ble_eq_true rfl) rfl rfl ?_
        refine x_iinc (pc := 46) (ls2 := [(3, .int (zi (v3 + 1))), (2, .int (zi (v2 + 1))), (0, .ref a0), (1, .int (zi v1))]) X d_Runs_rankOfSize_46 3 (Nat.le_of_ble_eq_true rfl) rfl rfl ?_
        refine x_goto (pc := 49) (tgt := 4) X d_Runs_rankOfSize_49 rfl ?_
        refine x_ls (ls2 := [(0, .ref a0), (1, .int (zi v1)), (2, .int (zi (v2 + 1))), (3, .int (zi (v3 + 1)))]) [2, 3, 1, 0] rfl ?_
        exact ih v1 (v2 + 1) (v3 + 1) rm rz o h hR
      · skip
        refine x_aload_n (pc := 25) X d_Runs_rankOfSize_25 0 rfl rfl ?_
        refine x_iload_n (pc := 26) X d_Runs_rankOfSize_26 3 rfl rfl ?_
        obtain ⟨r5, h6, h⟩ := bnd_e h
        refine x_callV (pc := 27) (As := [.int (zi v3)]) (rest := []) (w2 := (w_Runs cI cB a0 a1 a2 rm rs rz)) X d_Runs_rankOfSize_27 lk_Runs_30 mv_Runs_sizeAt (c_Runs_sizeAt l D cI cB a0 a1 a2 rm rs rz v3 h6) ⟨(Nat.le_of_ble_eq_true rfl), (Nat.le_of_ble_eq_true rfl), (Nat.le_of_ble_eq_true rfl), (Nat.le_of_ble_eq_true rfl)⟩ 0 rfl rfl [0, 1, 2] rfl rfl rfl (Up.same rfl) rfl rfl (Nat.le_of_ble_eq_true rfl) ?_
        refine x_aload_n (pc := 30) X d_Runs_rankOfSize_30 0 rfl rfl ?_
        refine x_iload_n (pc := 31) X d_Runs_rankOfSize_31 1 rfl rfl ?_
        obtain ⟨r7, h8, h⟩ := bnd_e h
        refine x_callV (pc := 32) (As := [.int (zi v1)]) (rest := [.int (zi r5)]) (w2 := (w_Runs cI cB a0 a1 a2 rm rs rz)) X d_Runs_rankOfSize_32 lk_Runs_30 mv_Runs_sizeAt (c_Runs_sizeAt l D cI cB a0 a1 a2 rm rs rz v1 h8) ⟨(Nat.le_of_ble_eq_true rfl), (Nat.le_of_ble_eq_true rfl), (Nat.le_of_ble_eq_true rfl), (Nat.le_of_ble_eq_true rfl)⟩ 0 rfl rfl [0, 1, 2] rfl rfl rfl (Up.same rfl) rfl rfl (Nat.le_of_ble_eq_true rfl) ?_
        refine x_icmpne (pc := 35) (tgt := 46) X d_Runs_rankOfSize_35 rfl h (fun h => ?_) (fun h => ?_)
        · skip
          refine x_iinc (pc := 46) (ls2 := [(3, .int (zi (v3 + 1))), (0, .ref a0), (1, .int (zi v1)), (2, .int (zi v2))]) X d_Runs_rankOfSize_46 3 (Nat.le_of_ble_eq_true rfl) rfl rfl ?_
          refine x_goto (pc := 49) (tgt := 4) X d_Runs_rankOfSize_49 rfl ?_
          refine x_ls (ls2 := [(0, .ref a0), (1, .int (zi v1)), (2, .int (zi v2)), (3, .int (zi (v3 + 1)))]) [1, 2, 3, 0] rfl ?_
          exact ih v1 v2 (v3 + 1) rm rz o h hR
        · skip
          refine x_iload_n (pc := 38) X d_Runs_rankOfSize_38 3 rfl rfl ?_
          refine x_iload_n (pc := 39) X d_Runs_rankOfSize_39 1 rfl rfl ?_
          refine x_icmpge (pc := 40) (tgt := 46) X d_Runs_rankOfSize_40 rfl h (fun h => ?_) (fun h => ?_)
          · skip
            refine x_iinc (pc := 46) (ls2 := [(3, .int (zi (v3 + 1))), (0, .ref a0), (1, .int (zi v1)), (2, .int (zi v2))]) X d_Runs_rankOfSize_46 3 (Nat.le_of_ble_eq_true rfl) rfl rfl ?_
            refine x_goto (pc := 49) (tgt := 4) X d_Runs_rankOfSize_49 rfl ?_
            refine x_ls (ls2 := [(0, .ref a0), (1, .int (zi v1)), (2, .int (zi v2)), (3, .int (zi (v3 + 1)))]) [1, 2, 3, 0] rfl ?_
            exact ih v1 v2 (v3 + 1) rm rz o h hR
          · skip
            refine x_iinc (pc := 43) (ls2 := [(2, .int (zi (v2 + 1))), (0, .ref a0), (1, .int (zi v1)), (3, .int (zi v3))]) X d_Runs_rankOfSize_43 2 (Nat.le_of_ble_eq_true rfl) rfl rfl ?_
            refine x_iinc (pc := 46) (ls2 := [(3, .int (zi (v3 + 1))), (2, .int (zi (v2 + 1))), (0, .ref a0), (1, .int (zi v1))]) X d_Runs_rankOfSize_46 3 (Nat.le_of_ble_eq_true rfl) rfl rfl ?_
            refine x_goto (pc := 49) (tgt := 4) X d_Runs_rankOfSize_49 rfl ?_
            refine x_ls (ls2 := [(0, .ref a0), (1, .int (zi v1)), (2, .int (zi (v2 + 1))), (3, .int (zi (v3 + 1)))]) [2, 3, 1, 0] rfl ?_
            exact ih v1 (v2 + 1) (v3 + 1) rm rz o h hR
set_option maxHeartbeats 4000000 in
set_option maxRecDepth 100000 in
theorem c_Runs_rankOfSize (l : Launch) (D : va_G) (cI cB : ClassId) (a0 a1 a2 : Nat) (rm : Int) (rs : Int → Int) (rz : Int → Int) (x1 : Int) {o : Int} (h : m_Runs_rankOfSize x1 rm rz = some o) : Ct l D cI cB y_Runs_rankOfSize b_Runs_rankOfSize 4 (some .int) { frames := 1, cells := 0, slots := 0, locals := 21 } [.ref a0, .int (zi x1)] (w_Runs cI cB a0 a1 a2 rm rs rz) (w_Runs cI cB a0 a1 a2 rm rs rz) (some (.int (zi o))) := by
  refine Ct.start (by decide) (Nat.le_of_ble_eq_true rfl) (fun G X hR => ?_)
  refine x_ls (ls2 := [(0, .ref a0), (1, .int (zi x1))]) [0, 1] rfl ?_
  unfold m_Runs_rankOfSize at h
  refine x_iconst (pc := 0) X d_Runs_rankOfSize_0  ?_
  refine x_istore_n (pc := 1) (ls2 := [(2, .int (zi 0)), (0, .ref a0), (1, .int (zi x1))]) X d_Runs_rankOfSize_1 rfl (Nat.le_of_ble_eq_true rfl) rfl ?_
  refine x_iconst (pc := 2) X d_Runs_rankOfSize_2  ?_
  refine x_istore_n (pc := 3) (ls2 := [(3, .int (zi 0)), (2, .int (zi 0)), (0, .ref a0), (1, .int (zi x1))]) X d_Runs_rankOfSize_3 rfl (Nat.le_of_ble_eq_true rfl) rfl ?_
  refine x_ls (ls2 := [(0, .ref a0), (1, .int (zi x1)), (2, .int (zi 0)), (3, .int (zi 0))]) [2, 3, 1, 0] rfl ?_
  exact l_Runs_rankOfSize_4 X 5000 x1 0 0 rm rz o h hR
theorem d_Runs_atRankOfSize_0 : decode b_Runs_atRankOfSize 0 = .ok (.iconst 0, 1) := by decide +kernel
theorem d_Runs_atRankOfSize_1 : decode b_Runs_atRankOfSize 1 = .ok (.istore_n 2, 1) := by decide +kernel
theorem d_Runs_atRankOfSize_2 : decode b_Runs_atRankOfSize 2 = .ok (.iload_n 2, 1) := by decide +kernel
theorem d_Runs_atRankOfSize_3 : decode b_Runs_atRankOfSize 3 = .ok (.aload_n 0, 1) := by decide +kernel
theorem d_Runs_atRankOfSize_4 : decode b_Runs_atRankOfSize 4 = .ok (.getfield 18, 3) := by decide +kernel
theorem d_Runs_atRankOfSize_7 : decode b_Runs_atRankOfSize 7 = .ok (.if_icmp .ge 20, 3) := by decide +kernel
theorem d_Runs_atRankOfSize_10 : decode b_Runs_atRankOfSize 10 = .ok (.aload_n 0, 1) := by decide +kernel
theorem d_Runs_atRankOfSize_11 : decode b_Runs_atRankOfSize 11 = .ok (.iload_n 2, 1) := by decide +kernel
theorem d_Runs_atRankOfSize_12 : decode b_Runs_atRankOfSize 12 = .ok (.invokevirtual 26, 3) := by decide +kernel
theorem d_Runs_atRankOfSize_15 : decode b_Runs_atRankOfSize 15 = .ok (.iload_n 1, 1) := by decide +kernel
theorem d_Runs_atRankOfSize_16 : decode b_Runs_atRankOfSize 16 = .ok (.if_icmp .ne 5, 3) := by decide +kernel
theorem d_Runs_atRankOfSize_19 : decode b_Runs_atRankOfSize 19 = .ok (.iload_n 2, 1) := by decide +kernel
theorem d_Runs_atRankOfSize_20 : decode b_Runs_atRankOfSize 20 = .ok (.ireturn, 1) := by decide +kernel
theorem d_Runs_atRankOfSize_21 : decode b_Runs_atRankOfSize 21 = .ok (.iinc 2 1, 3) := by decide +kernel
theorem d_Runs_atRankOfSize_24 : decode b_Runs_atRankOfSize 24 = .ok (.goto (-22), 3) := by decide +kernel
theorem d_Runs_atRankOfSize_27 : decode b_Runs_atRankOfSize 27 = .ok (.iconst (-1), 1) := by decide +kernel
theorem d_Runs_atRankOfSize_28 : decode b_Runs_atRankOfSize 28 = .ok (.ireturn, 1) := by decide +kernel
def m_Runs_atRankOfSize_2 : Nat → Int → Int → Int → (Int → Int) → Option (Int)
  | 0, _, _, _, _ => none
  | fuel + 1, v1, v2, rm, rz =>
  clt v2 rm (bnd (m_Runs_rankOfSize v2 rm rz) (fun r1 => ceq r1 v1 (some (v2)) (m_Runs_atRankOfSize_2 fuel v1 (v2 + 1) rm rz))) (some ((-1)))
def m_Runs_atRankOfSize (x1 : Int) (rm : Int) (rz : Int → Int) : Option (Int) :=
  m_Runs_atRankOfSize_2 5000 x1 0 rm rz
set_option maxHeartbeats 4000000 in
set_option maxRecDepth 100000 in
theorem l_Runs_atRankOfSize_2 {G : GT} {l : Launch} {D : va_G} {cI cB : ClassId} {a0 a1 a2 : Nat} {rs : Int → Int} (X : Cx G l D cI cB b_Runs_atRankOfSize y_Runs_atRankOfSize.cls 3 { frames := 2, cells := 0, slots := 0, locals := 44 }) : ∀ (fuel : Nat) (v1 : Int) (v2 : Int) (rm : Int) (rz : Int → Int) (o : Int), m_Runs_atRankOfSize_2 fuel v1 v2 rm rz = some o → Rt G (some .int) (some (.int (zi o))) (w_Runs cI cB a0 a1 a2 rm rs rz) → Wx G 0 0 2 [(0, .ref a0), (1, .int (zi v1)), (2, .int (zi v2))] [] (w_Runs cI cB a0 a1 a2 rm rs rz) := by
  intro fuel
  induction fuel with
  | zero =>
    intro v1 v2 rm rz o h
    exact absurd h (by simp [m_Runs_atRankOfSize_2])
  | succ fuel ih =>
    intro v1 v2 rm rz o h hR
    rw [m_Runs_atRankOfSize_2] at h
    refine x_iload_n (pc := 2) X d_Runs_atRankOfSize_2 2 rfl rfl ?_
    refine x_aload_n (pc := 3) X d_Runs_atRankOfSize_3 0 rfl rfl ?_
    refine x_get (pc := 4) X d_Runs_atRankOfSize_4 0 rfl fl_Runs_18 rfl ?_
    refine x_icmpge (pc := 7) (tgt := 27) X d_Runs_atRankOfSize_7 rfl h (fun h => ?_) (fun h => ?_)
    · skip
      refine x_iconst (pc := 27) X d_Runs_atRankOfSize_27  ?_
      cases h
      exact x_iret (pc := 28) X hR d_Runs_atRankOfSize_28
    · skip
      refine x_aload_n (pc := 10) X d_Runs_atRankOfSize_10 0 rfl rfl ?_
      refine x_iload_n (pc := 11) X d_Runs_atRankOfSize_11 2 rfl rfl ?_
      obtain ⟨r1, h2, h⟩ := bnd_e h
      refine x_callV (pc := 12) (As := [.int (zi v2)]) (rest := []) (w2 := (w_Runs cI cB a0 a1 a2 rm rs rz)) X d_Runs_atRankOfSize_12 lk_Runs_26 mv_Runs_rankOfSize (c_Runs_rankOfSize l D cI cB a0 a1 a2 rm rs rz v2 h2) ⟨(Nat.le_of_ble_eq_true rfl), (Nat.le_of_ble_eq_true rfl), (Nat.le_of_ble_eq_true rfl), (Nat.le_of_ble_eq_true rfl)⟩ 0 rfl rfl [0, 1, 2] rfl rfl rfl (Up.same rfl) rfl rfl (Nat.le_of_ble_eq_true rfl) ?_
      refine x_iload_n (pc := 15) X d_Runs_atRankOfSize_15 1 rfl rfl ?_
      refine x_icmpne (pc := 16) (tgt := 21) X d_Runs_atRankOfSize_16 rfl h (fun h => ?_) (fun h => ?_)
      · skip
        refine x_iinc (pc := 21) (ls2 := [(2, .int (zi (v2 + 1))), (0, .ref a0), (1, .int (zi v1))]) X d_Runs_atRankOfSize_21 2 (Nat.le_of_ble_eq_true rfl) rfl rfl ?_
        refine x_goto (pc := 24) (tgt := 2) X d_Runs_atRankOfSize_24 rfl ?_
        refine x_ls (ls2 := [(0, .ref a0), (1, .int (zi v1)), (2, .int (zi (v2 + 1)))]) [1, 2, 0] rfl ?_
        exact ih v1 (v2 + 1) rm rz o h hR
      · skip
        refine x_iload_n (pc := 19) X d_Runs_atRankOfSize_19 2 rfl rfl ?_
        cases h
        exact x_iret (pc := 20) X hR d_Runs_atRankOfSize_20
set_option maxHeartbeats 4000000 in
set_option maxRecDepth 100000 in
theorem c_Runs_atRankOfSize (l : Launch) (D : va_G) (cI cB : ClassId) (a0 a1 a2 : Nat) (rm : Int) (rs : Int → Int) (rz : Int → Int) (x1 : Int) {o : Int} (h : m_Runs_atRankOfSize x1 rm rz = some o) : Ct l D cI cB y_Runs_atRankOfSize b_Runs_atRankOfSize 3 (some .int) { frames := 2, cells := 0, slots := 0, locals := 44 } [.ref a0, .int (zi x1)] (w_Runs cI cB a0 a1 a2 rm rs rz) (w_Runs cI cB a0 a1 a2 rm rs rz) (some (.int (zi o))) := by
  refine Ct.start (by decide) (Nat.le_of_ble_eq_true rfl) (fun G X hR => ?_)
  refine x_ls (ls2 := [(0, .ref a0), (1, .int (zi x1))]) [0, 1] rfl ?_
  unfold m_Runs_atRankOfSize at h
  refine x_iconst (pc := 0) X d_Runs_atRankOfSize_0  ?_
  refine x_istore_n (pc := 1) (ls2 := [(2, .int (zi 0)), (0, .ref a0), (1, .int (zi x1))]) X d_Runs_atRankOfSize_1 rfl (Nat.le_of_ble_eq_true rfl) rfl ?_
  refine x_ls (ls2 := [(0, .ref a0), (1, .int (zi x1)), (2, .int (zi 0))]) [1, 2, 0] rfl ?_
  exact l_Runs_atRankOfSize_2 X 5000 x1 0 rm rz o h hR
theorem d_Vol_refusalOfSize_0 : decode b_Vol_refusalOfSize 0 = .ok (.iload_n 0, 1) := by decide +kernel
theorem d_Vol_refusalOfSize_1 : decode b_Vol_refusalOfSize 1 = .ok (.iconst 1, 1) := by decide +kernel
theorem d_Vol_refusalOfSize_2 : decode b_Vol_refusalOfSize 2 = .ok (.if_icmp .ge 6, 3) := by decide +kernel
theorem d_Vol_refusalOfSize_5 : decode b_Vol_refusalOfSize 5 = .ok (.bipush (-4), 2) := by decide +kernel
theorem d_Vol_refusalOfSize_7 : decode b_Vol_refusalOfSize 7 = .ok (.ireturn, 1) := by decide +kernel
theorem d_Vol_refusalOfSize_8 : decode b_Vol_refusalOfSize 8 = .ok (.iload_n 0, 1) := by decide +kernel
theorem d_Vol_refusalOfSize_9 : decode b_Vol_refusalOfSize 9 = .ok (.bipush 64, 2) := by decide +kernel
theorem d_Vol_refusalOfSize_11 : decode b_Vol_refusalOfSize 11 = .ok (.if_icmp .le 8, 3) := by decide +kernel
theorem d_Vol_refusalOfSize_14 : decode b_Vol_refusalOfSize 14 = .ok (.bipush (-6), 2) := by decide +kernel
theorem d_Vol_refusalOfSize_16 : decode b_Vol_refusalOfSize 16 = .ok (.goto 4, 3) := by decide +kernel
theorem d_Vol_refusalOfSize_19 : decode b_Vol_refusalOfSize 19 = .ok (.iconst 0, 1) := by decide +kernel
theorem d_Vol_refusalOfSize_20 : decode b_Vol_refusalOfSize 20 = .ok (.ireturn, 1) := by decide +kernel
def m_Vol_refusalOfSize (x0 : Int)  : Option (Int) :=
  clt x0 1 (some ((-4))) (cle x0 64 (some (0)) (some ((-6))))
set_option maxHeartbeats 4000000 in
set_option maxRecDepth 100000 in
theorem c_Vol_refusalOfSize (l : Launch) (D : va_G) (cI cB : ClassId)   (x0 : Int) {o : Int} (h : m_Vol_refusalOfSize x0 = some o) : Ct l D cI cB y_Vol_refusalOfSize b_Vol_refusalOfSize 1 (some .int) { frames := 0, cells := 0, slots := 0, locals := 0 } [.int (zi x0)] [] [] (some (.int (zi o))) := by
  refine Ct.start (by decide) (Nat.le_of_ble_eq_true rfl) (fun G X hR => ?_)
  refine x_ls (ls2 := [(0, .int (zi x0))]) [0] rfl ?_
  unfold m_Vol_refusalOfSize at h
  refine x_iload_n (pc := 0) X d_Vol_refusalOfSize_0 0 rfl rfl ?_
  refine x_iconst (pc := 1) X d_Vol_refusalOfSize_1  ?_
  refine x_icmpge (pc := 2) (tgt := 8) X d_Vol_refusalOfSize_2 rfl h (fun h => ?_) (fun h => ?_)
  · skip
    refine x_iload_n (pc := 8) X d_Vol_refusalOfSize_8 0 rfl rfl ?_
    refine x_bipush (pc := 9) (v := 64) X d_Vol_refusalOfSize_9 rfl ?_
    refine x_icmple (pc := 11) (tgt := 19) X d_Vol_refusalOfSize_11 rfl h (fun h => ?_) (fun h => ?_)
    · skip
      refine x_iconst (pc := 19) X d_Vol_refusalOfSize_19  ?_
      cases h
      exact x_iret (pc := 20) X hR d_Vol_refusalOfSize_20
    · skip
      refine x_bipush (pc := 14) (v := -6) X d_Vol_refusalOfSize_14 rfl ?_
      refine x_goto (pc := 16) (tgt := 20) X d_Vol_refusalOfSize_16 rfl ?_
      cases h
      exact x_iret (pc := 20) X hR d_Vol_refusalOfSize_20
  · skip
    refine x_bipush (pc := 5) (v := -4) X d_Vol_refusalOfSize_5 rfl ?_
    cases h
    exact x_iret (pc := 7) X hR d_Vol_refusalOfSize_7
theorem d_Vol_fileOfOrder_0 : decode b_Vol_fileOfOrder 0 = .ok (.iload_n 0, 1) := by decide +kernel
theorem d_Vol_fileOfOrder_1 : decode b_Vol_fileOfOrder 1 = .ok (.bipush 6, 2) := by decide +kernel
theorem d_Vol_fileOfOrder_3 : decode b_Vol_fileOfOrder 3 = .ok (.iconst 2, 1) := by decide +kernel
theorem d_Vol_fileOfOrder_4 : decode b_Vol_fileOfOrder 4 = .ok (.iload_n 1, 1) := by decide +kernel
theorem d_Vol_fileOfOrder_5 : decode b_Vol_fileOfOrder 5 = .ok (.imul, 1) := by decide +kernel
theorem d_Vol_fileOfOrder_6 : decode b_Vol_fileOfOrder 6 = .ok (.isub, 1) := by decide +kernel
theorem d_Vol_fileOfOrder_7 : decode b_Vol_fileOfOrder 7 = .ok (.ishr, 1) := by decide +kernel
theorem d_Vol_fileOfOrder_8 : decode b_Vol_fileOfOrder 8 = .ok (.iconst 3, 1) := by decide +kernel
theorem d_Vol_fileOfOrder_9 : decode b_Vol_fileOfOrder 9 = .ok (.iand, 1) := by decide +kernel
theorem d_Vol_fileOfOrder_10 : decode b_Vol_fileOfOrder 10 = .ok (.ireturn, 1) := by decide +kernel
def m_Vol_fileOfOrder (x0 : Int) (x1 : Int)  : Option (Int) :=
  some ((z_and (z_shr x0 (6 - (2 * x1))) 3))
set_option maxHeartbeats 4000000 in
set_option maxRecDepth 100000 in
theorem c_Vol_fileOfOrder (l : Launch) (D : va_G) (cI cB : ClassId)   (x0 : Int) (x1 : Int) {o : Int} (h : m_Vol_fileOfOrder x0 x1 = some o) : Ct l D cI cB y_Vol_fileOfOrder b_Vol_fileOfOrder 2 (some .int) { frames := 0, cells := 0, slots := 0, locals := 0 } [.int (zi x0), .int (zi x1)] [] [] (some (.int (zi o))) := by
  refine Ct.start (by decide) (Nat.le_of_ble_eq_true rfl) (fun G X hR => ?_)
  refine x_ls (ls2 := [(0, .int (zi x0)), (1, .int (zi x1))]) [0, 1] rfl ?_
  unfold m_Vol_fileOfOrder at h
  refine x_iload_n (pc := 0) X d_Vol_fileOfOrder_0 0 rfl rfl ?_
  refine x_bipush (pc := 1) (v := 6) X d_Vol_fileOfOrder_1 rfl ?_
  refine x_iconst (pc := 3) X d_Vol_fileOfOrder_3  ?_
  refine x_iload_n (pc := 4) X d_Vol_fileOfOrder_4 1 rfl rfl ?_
  refine x_imul (pc := 5) X d_Vol_fileOfOrder_5  ?_
  refine x_isub (pc := 6) X d_Vol_fileOfOrder_6  ?_
  refine x_ishr (pc := 7) X d_Vol_fileOfOrder_7  ?_
  refine x_iconst (pc := 8) X d_Vol_fileOfOrder_8  ?_
  refine x_iand (pc := 9) X d_Vol_fileOfOrder_9  ?_
  cases h
  exact x_iret (pc := 10) X hR d_Vol_fileOfOrder_10
theorem d_Mind_isOrder_0 : decode b_Mind_isOrder 0 = .ok (.iconst 0, 1) := by decide +kernel
theorem d_Mind_isOrder_1 : decode b_Mind_isOrder 1 = .ok (.istore_n 1, 1) := by decide +kernel
theorem d_Mind_isOrder_2 : decode b_Mind_isOrder 2 = .ok (.iconst 0, 1) := by decide +kernel
theorem d_Mind_isOrder_3 : decode b_Mind_isOrder 3 = .ok (.istore_n 2, 1) := by decide +kernel
theorem d_Mind_isOrder_4 : decode b_Mind_isOrder 4 = .ok (.iload_n 2, 1) := by decide +kernel
theorem d_Mind_isOrder_5 : decode b_Mind_isOrder 5 = .ok (.iconst 4, 1) := by decide +kernel
theorem d_Mind_isOrder_6 : decode b_Mind_isOrder 6 = .ok (.if_icmp .ge 19, 3) := by decide +kernel
theorem d_Mind_isOrder_9 : decode b_Mind_isOrder 9 = .ok (.iload_n 1, 1) := by decide +kernel
theorem d_Mind_isOrder_10 : decode b_Mind_isOrder 10 = .ok (.iconst 1, 1) := by decide +kernel
theorem d_Mind_isOrder_11 : decode b_Mind_isOrder 11 = .ok (.iload_n 0, 1) := by decide +kernel
theorem d_Mind_isOrder_12 : decode b_Mind_isOrder 12 = .ok (.iload_n 2, 1) := by decide +kernel
theorem d_Mind_isOrder_13 : decode b_Mind_isOrder 13 = .ok (.invokestatic 50, 3) := by decide +kernel
theorem d_Mind_isOrder_16 : decode b_Mind_isOrder 16 = .ok (.ishl, 1) := by decide +kernel
theorem d_Mind_isOrder_17 : decode b_Mind_isOrder 17 = .ok (.ior, 1) := by decide +kernel
theorem d_Mind_isOrder_18 : decode b_Mind_isOrder 18 = .ok (.istore_n 1, 1) := by decide +kernel
theorem d_Mind_isOrder_19 : decode b_Mind_isOrder 19 = .ok (.iinc 2 1, 3) := by decide +kernel
theorem d_Mind_isOrder_22 : decode b_Mind_isOrder 22 = .ok (.goto (-18), 3) := by decide +kernel
theorem d_Mind_isOrder_25 : decode b_Mind_isOrder 25 = .ok (.iload_n 1, 1) := by decide +kernel
theorem d_Mind_isOrder_26 : decode b_Mind_isOrder 26 = .ok (.bipush 15, 2) := by decide +kernel
theorem d_Mind_isOrder_28 : decode b_Mind_isOrder 28 = .ok (.if_icmp .ne 7, 3) := by decide +kernel
theorem d_Mind_isOrder_31 : decode b_Mind_isOrder 31 = .ok (.iconst 1, 1) := by decide +kernel
theorem d_Mind_isOrder_32 : decode b_Mind_isOrder 32 = .ok (.goto 4, 3) := by decide +kernel
theorem d_Mind_isOrder_35 : decode b_Mind_isOrder 35 = .ok (.iconst 0, 1) := by decide +kernel
theorem d_Mind_isOrder_36 : decode b_Mind_isOrder 36 = .ok (.ireturn, 1) := by decide +kernel
def m_Mind_isOrder_4 : Nat → Int → Int → Int → Option (Int)
  | 0, _, _, _ => none
  | fuel + 1, v0, v1, v2 =>
  clt v2 4 (bnd (m_Vol_fileOfOrder v0 v2) (fun r1 => m_Mind_isOrder_4 fuel v0 (z_or v1 (z_shl 1 r1)) (v2 + 1))) (ceq v1 15 (some (1)) (some (0)))
def m_Mind_isOrder (x0 : Int)  : Option (Int) :=
  m_Mind_isOrder_4 5000 x0 0 0
set_option maxHeartbeats 4000000 in
set_option maxRecDepth 100000 in
theorem l_Mind_isOrder_4 {G : GT} {l : Launch} {D : va_G} {cI cB : ClassId}   (X : Cx G l D cI cB b_Mind_isOrder y_Mind_isOrder.cls 3 { frames := 1, cells := 0, slots := 0, locals := 21 }) : ∀ (fuel : Nat) (v0 : Int) (v1 : Int) (v2 : Int) (o : Int), m_Mind_isOrder_4 fuel v0 v1 v2 = some o → Rt G (some .boolean) (some (.int (zi o))) [] → Wx G 0 0 4 [(0, .int (zi v0)), (1, .int (zi v1)), (2, .int (zi v2))] [] [] := by
  intro fuel
  induction fuel with
  | zero =>
    intro v0 v1 v2 o h
    exact absurd h (by simp [m_Mind_isOrder_4])
  | succ fuel ih =>
    intro v0 v1 v2 o h hR
    rw [m_Mind_isOrder_4] at h
    refine x_iload_n (pc := 4) X d_Mind_isOrder_4 2 rfl rfl ?_
    refine x_iconst (pc := 5) X d_Mind_isOrder_5  ?_
    refine x_icmpge (pc := 6) (tgt := 25) X d_Mind_isOrder_6 rfl h (fun h => ?_) (fun h => ?_)
    · skip
      refine x_iload_n (pc := 25) X d_Mind_isOrder_25 1 rfl rfl ?_
      refine x_bipush (pc := 26) (v := 15) X d_Mind_isOrder_26 rfl ?_
      refine x_icmpne (pc := 28) (tgt := 35) X d_Mind_isOrder_28 rfl h (fun h => ?_) (fun h => ?_)
      · skip
        refine x_iconst (pc := 35) X d_Mind_isOrder_35  ?_
        cases h
        exact x_zret (pc := 36) X hR d_Mind_isOrder_36 (Or.inl rfl)
      · skip
        refine x_iconst (pc := 31) X d_Mind_isOrder_31  ?_
        refine x_goto (pc := 32) (tgt := 36) X d_Mind_isOrder_32 rfl ?_
        cases h
        exact x_zret (pc := 36) X hR d_Mind_isOrder_36 (Or.inr rfl)
    · skip
      refine x_iload_n (pc := 9) X d_Mind_isOrder_9 1 rfl rfl ?_
      refine x_iconst (pc := 10) X d_Mind_isOrder_10  ?_
      refine x_iload_n (pc := 11) X d_Mind_isOrder_11 0 rfl rfl ?_
      refine x_iload_n (pc := 12) X d_Mind_isOrder_12 2 rfl rfl ?_
      obtain ⟨r1, h2, h⟩ := bnd_e h
      refine x_callS (pc := 13) (As := [.int (zi v0), .int (zi v2)]) (rest := [.int (zi 1), .int (zi v1)]) (w2 := []) X d_Mind_isOrder_13 lk_Mind_50 mv_Vol_fileOfOrder (c_Vol_fileOfOrder l D cI cB v0 v2 h2) ⟨(Nat.le_of_ble_eq_true rfl), (Nat.le_of_ble_eq_true rfl), (Nat.le_of_ble_eq_true rfl), (Nat.le_of_ble_eq_true rfl)⟩ [] rfl rfl rfl (Up.same rfl) rfl rfl (Nat.le_of_ble_eq_true rfl) ?_
      refine x_ishl (pc := 16) X d_Mind_isOrder_16  ?_
      refine x_ior (pc := 17) X d_Mind_isOrder_17  ?_
      refine x_istore_n (pc := 18) (ls2 := [(1, .int (zi (z_or v1 (z_shl 1 r1)))), (0, .int (zi v0)), (2, .int (zi v2))]) X d_Mind_isOrder_18 rfl (Nat.le_of_ble_eq_true rfl) rfl ?_
      refine x_iinc (pc := 19) (ls2 := [(2, .int (zi (v2 + 1))), (1, .int (zi (z_or v1 (z_shl 1 r1)))), (0, .int (zi v0))]) X d_Mind_isOrder_19 2 (Nat.le_of_ble_eq_true rfl) rfl rfl ?_
      refine x_goto (pc := 22) (tgt := 4) X d_Mind_isOrder_22 rfl ?_
      refine x_ls (ls2 := [(0, .int (zi v0)), (1, .int (zi (z_or v1 (z_shl 1 r1)))), (2, .int (zi (v2 + 1)))]) [2, 1, 0] rfl ?_
      exact ih v0 (z_or v1 (z_shl 1 r1)) (v2 + 1) o h hR
set_option maxHeartbeats 4000000 in
set_option maxRecDepth 100000 in
theorem c_Mind_isOrder (l : Launch) (D : va_G) (cI cB : ClassId)   (x0 : Int) {o : Int} (h : m_Mind_isOrder x0 = some o) : Ct l D cI cB y_Mind_isOrder b_Mind_isOrder 3 (some .boolean) { frames := 1, cells := 0, slots := 0, locals := 21 } [.int (zi x0)] [] [] (some (.int (zi o))) := by
  refine Ct.start (by decide) (Nat.le_of_ble_eq_true rfl) (fun G X hR => ?_)
  refine x_ls (ls2 := [(0, .int (zi x0))]) [0] rfl ?_
  unfold m_Mind_isOrder at h
  refine x_iconst (pc := 0) X d_Mind_isOrder_0  ?_
  refine x_istore_n (pc := 1) (ls2 := [(1, .int (zi 0)), (0, .int (zi x0))]) X d_Mind_isOrder_1 rfl (Nat.le_of_ble_eq_true rfl) rfl ?_
  refine x_iconst (pc := 2) X d_Mind_isOrder_2  ?_
  refine x_istore_n (pc := 3) (ls2 := [(2, .int (zi 0)), (1, .int (zi 0)), (0, .int (zi x0))]) X d_Mind_isOrder_3 rfl (Nat.le_of_ble_eq_true rfl) rfl ?_
  refine x_ls (ls2 := [(0, .int (zi x0)), (1, .int (zi 0)), (2, .int (zi 0))]) [2, 1, 0] rfl ?_
  exact l_Mind_isOrder_4 X 5000 x0 0 0 o h hR
theorem d_Vol_orderInDigits_0 : decode b_Vol_orderInDigits 0 = .ok (.iconst 0, 1) := by decide +kernel
theorem d_Vol_orderInDigits_1 : decode b_Vol_orderInDigits 1 = .ok (.istore_n 1, 1) := by decide +kernel
theorem d_Vol_orderInDigits_2 : decode b_Vol_orderInDigits 2 = .ok (.iconst 0, 1) := by decide +kernel
theorem d_Vol_orderInDigits_3 : decode b_Vol_orderInDigits 3 = .ok (.istore_n 2, 1) := by decide +kernel
theorem d_Vol_orderInDigits_4 : decode b_Vol_orderInDigits 4 = .ok (.iload_n 2, 1) := by decide +kernel
theorem d_Vol_orderInDigits_5 : decode b_Vol_orderInDigits 5 = .ok (.iconst 4, 1) := by decide +kernel
theorem d_Vol_orderInDigits_6 : decode b_Vol_orderInDigits 6 = .ok (.if_icmp .ge 22, 3) := by decide +kernel
theorem d_Vol_orderInDigits_9 : decode b_Vol_orderInDigits 9 = .ok (.bipush 10, 2) := by decide +kernel
theorem d_Vol_orderInDigits_11 : decode b_Vol_orderInDigits 11 = .ok (.iload_n 1, 1) := by decide +kernel
theorem d_Vol_orderInDigits_12 : decode b_Vol_orderInDigits 12 = .ok (.imul, 1) := by decide +kernel
theorem d_Vol_orderInDigits_13 : decode b_Vol_orderInDigits 13 = .ok (.iload_n 0, 1) := by decide +kernel
theorem d_Vol_orderInDigits_14 : decode b_Vol_orderInDigits 14 = .ok (.iload_n 2, 1) := by decide +kernel
theorem d_Vol_orderInDigits_15 : decode b_Vol_orderInDigits 15 = .ok (.invokestatic 294, 3) := by decide +kernel
theorem d_Vol_orderInDigits_18 : decode b_Vol_orderInDigits 18 = .ok (.iadd, 1) := by decide +kernel
theorem d_Vol_orderInDigits_19 : decode b_Vol_orderInDigits 19 = .ok (.iconst 1, 1) := by decide +kernel
theorem d_Vol_orderInDigits_20 : decode b_Vol_orderInDigits 20 = .ok (.iadd, 1) := by decide +kernel
theorem d_Vol_orderInDigits_21 : decode b_Vol_orderInDigits 21 = .ok (.istore_n 1, 1) := by decide +kernel
theorem d_Vol_orderInDigits_22 : decode b_Vol_orderInDigits 22 = .ok (.iinc 2 1, 3) := by decide +kernel
theorem d_Vol_orderInDigits_25 : decode b_Vol_orderInDigits 25 = .ok (.goto (-21), 3) := by decide +kernel
theorem d_Vol_orderInDigits_28 : decode b_Vol_orderInDigits 28 = .ok (.iload_n 1, 1) := by decide +kernel
theorem d_Vol_orderInDigits_29 : decode b_Vol_orderInDigits 29 = .ok (.ireturn, 1) := by decide +kernel
def m_Vol_orderInDigits_4 : Nat → Int → Int → Int → Option (Int)
  | 0, _, _, _ => none
  | fuel + 1, v0, v1, v2 =>
  clt v2 4 (bnd (m_Vol_fileOfOrder v0 v2) (fun r1 => m_Vol_orderInDigits_4 fuel v0 (((10 * v1) + r1) + 1) (v2 + 1))) (some (v1))
def m_Vol_orderInDigits (x0 : Int)  : Option (Int) :=
  m_Vol_orderInDigits_4 5000 x0 0 0
set_option maxHeartbeats 4000000 in
set_option maxRecDepth 100000 in
theorem l_Vol_orderInDigits_4 {G : GT} {l : Launch} {D : va_G} {cI cB : ClassId}   (X : Cx G l D cI cB b_Vol_orderInDigits y_Vol_orderInDigits.cls 3 { frames := 1, cells := 0, slots := 0, locals := 21 }) : ∀ (fuel : Nat) (v0 : Int) (v1 : Int) (v2 : Int) (o : Int), m_Vol_orderInDigits_4 fuel v0 v1 v2 = some o → Rt G (some .int) (some (.int (zi o))) [] → Wx G 0 0 4 [(0, .int (zi v0)), (1, .int (zi v1)), (2, .int (zi v2))] [] [] := by
  intro fuel
  induction fuel with
  | zero =>
    intro v0 v1 v2 o h
    exact absurd h (by simp [m_Vol_orderInDigits_4])
  | succ fuel ih =>
    intro v0 v1 v2 o h hR
    rw [m_Vol_orderInDigits_4] at h
    refine x_iload_n (pc := 4) X d_Vol_orderInDigits_4 2 rfl rfl ?_
    refine x_iconst (pc := 5) X d_Vol_orderInDigits_5  ?_
    refine x_icmpge (pc := 6) (tgt := 28) X d_Vol_orderInDigits_6 rfl h (fun h => ?_) (fun h => ?_)
    · skip
      refine x_iload_n (pc := 28) X d_Vol_orderInDigits_28 1 rfl rfl ?_
      cases h
      exact x_iret (pc := 29) X hR d_Vol_orderInDigits_29
    · skip
      refine x_bipush (pc := 9) (v := 10) X d_Vol_orderInDigits_9 rfl ?_
      refine x_iload_n (pc := 11) X d_Vol_orderInDigits_11 1 rfl rfl ?_
      refine x_imul (pc := 12) X d_Vol_orderInDigits_12  ?_
      refine x_iload_n (pc := 13) X d_Vol_orderInDigits_13 0 rfl rfl ?_
      refine x_iload_n (pc := 14) X d_Vol_orderInDigits_14 2 rfl rfl ?_
      obtain ⟨r1, h2, h⟩ := bnd_e h
      refine x_callS (pc := 15) (As := [.int (zi v0), .int (zi v2)]) (rest := [.int (zi (10 * v1))]) (w2 := []) X d_Vol_orderInDigits_15 lk_Vol_294 mv_Vol_fileOfOrder (c_Vol_fileOfOrder l D cI cB v0 v2 h2) ⟨(Nat.le_of_ble_eq_true rfl), (Nat.le_of_ble_eq_true rfl), (Nat.le_of_ble_eq_true rfl), (Nat.le_of_ble_eq_true rfl)⟩ [] rfl rfl rfl (Up.same rfl) rfl rfl (Nat.le_of_ble_eq_true rfl) ?_
      refine x_iadd (pc := 18) X d_Vol_orderInDigits_18  ?_
      refine x_iconst (pc := 19) X d_Vol_orderInDigits_19  ?_
      refine x_iadd (pc := 20) X d_Vol_orderInDigits_20  ?_
      refine x_istore_n (pc := 21) (ls2 := [(1, .int (zi (((10 * v1) + r1) + 1))), (0, .int (zi v0)), (2, .int (zi v2))]) X d_Vol_orderInDigits_21 rfl (Nat.le_of_ble_eq_true rfl) rfl ?_
      refine x_iinc (pc := 22) (ls2 := [(2, .int (zi (v2 + 1))), (1, .int (zi (((10 * v1) + r1) + 1))), (0, .int (zi v0))]) X d_Vol_orderInDigits_22 2 (Nat.le_of_ble_eq_true rfl) rfl rfl ?_
      refine x_goto (pc := 25) (tgt := 4) X d_Vol_orderInDigits_25 rfl ?_
      refine x_ls (ls2 := [(0, .int (zi v0)), (1, .int (zi (((10 * v1) + r1) + 1))), (2, .int (zi (v2 + 1)))]) [2, 1, 0] rfl ?_
      exact ih v0 (((10 * v1) + r1) + 1) (v2 + 1) o h hR
set_option maxHeartbeats 4000000 in
set_option maxRecDepth 100000 in
theorem c_Vol_orderInDigits (l : Launch) (D : va_G) (cI cB : ClassId)   (x0 : Int) {o : Int} (h : m_Vol_orderInDigits x0 = some o) : Ct l D cI cB y_Vol_orderInDigits b_Vol_orderInDigits 3 (some .int) { frames := 1, cells := 0, slots := 0, locals := 21 } [.int (zi x0)] [] [] (some (.int (zi o))) := by
  refine Ct.start (by decide) (Nat.le_of_ble_eq_true rfl) (fun G X hR => ?_)
  refine x_ls (ls2 := [(0, .int (zi x0))]) [0] rfl ?_
  unfold m_Vol_orderInDigits at h
  refine x_iconst (pc := 0) X d_Vol_orderInDigits_0  ?_
  refine x_istore_n (pc := 1) (ls2 := [(1, .int (zi 0)), (0, .int (zi x0))]) X d_Vol_orderInDigits_1 rfl (Nat.le_of_ble_eq_true rfl) rfl ?_
  refine x_iconst (pc := 2) X d_Vol_orderInDigits_2  ?_
  refine x_istore_n (pc := 3) (ls2 := [(2, .int (zi 0)), (1, .int (zi 0)), (0, .int (zi x0))]) X d_Vol_orderInDigits_3 rfl (Nat.le_of_ble_eq_true rfl) rfl ?_
  refine x_ls (ls2 := [(0, .int (zi x0)), (1, .int (zi 0)), (2, .int (zi 0))]) [2, 1, 0] rfl ?_
  exact l_Vol_orderInDigits_4 X 5000 x0 0 0 o h hR
theorem d_Vol_greatestDivisor_0 : decode b_Vol_greatestDivisor 0 = .ok (.iload_n 0, 1) := by decide +kernel
theorem d_Vol_greatestDivisor_1 : decode b_Vol_greatestDivisor 1 = .ok (.istore_n 2, 1) := by decide +kernel
theorem d_Vol_greatestDivisor_2 : decode b_Vol_greatestDivisor 2 = .ok (.iload_n 1, 1) := by decide +kernel
theorem d_Vol_greatestDivisor_3 : decode b_Vol_greatestDivisor 3 = .ok (.istore_n 3, 1) := by decide +kernel
theorem d_Vol_greatestDivisor_4 : decode b_Vol_greatestDivisor 4 = .ok (.iconst 0, 1) := by decide +kernel
theorem d_Vol_greatestDivisor_5 : decode b_Vol_greatestDivisor 5 = .ok (.istore 4, 2) := by decide +kernel
theorem d_Vol_greatestDivisor_7 : decode b_Vol_greatestDivisor 7 = .ok (.iload 4, 2) := by decide +kernel
theorem d_Vol_greatestDivisor_9 : decode b_Vol_greatestDivisor 9 = .ok (.bipush 100, 2) := by decide +kernel
theorem d_Vol_greatestDivisor_11 : decode b_Vol_greatestDivisor 11 = .ok (.if_icmp .ge 23, 3) := by decide +kernel
theorem d_Vol_greatestDivisor_14 : decode b_Vol_greatestDivisor 14 = .ok (.iload_n 3, 1) := by decide +kernel
theorem d_Vol_greatestDivisor_15 : decode b_Vol_greatestDivisor 15 = .ok (.ifCond .eq 19, 3) := by decide +kernel
theorem d_Vol_greatestDivisor_18 : decode b_Vol_greatestDivisor 18 = .ok (.iload_n 2, 1) := by decide +kernel
theorem d_Vol_greatestDivisor_19 : decode b_Vol_greatestDivisor 19 = .ok (.iload_n 3, 1) := by decide +kernel
theorem d_Vol_greatestDivisor_20 : decode b_Vol_greatestDivisor 20 = .ok (.irem, 1) := by decide +kernel
theorem d_Vol_greatestDivisor_21 : decode b_Vol_greatestDivisor 21 = .ok (.istore 5, 2) := by decide +kernel
theorem d_Vol_greatestDivisor_23 : decode b_Vol_greatestDivisor 23 = .ok (.iload_n 3, 1) := by decide +kernel
theorem d_Vol_greatestDivisor_24 : decode b_Vol_greatestDivisor 24 = .ok (.istore_n 2, 1) := by decide +kernel
theorem d_Vol_greatestDivisor_25 : decode b_Vol_greatestDivisor 25 = .ok (.iload 5, 2) := by decide +kernel
theorem d_Vol_greatestDivisor_27 : decode b_Vol_greatestDivisor 27 = .ok (.istore_n 3, 1) := by decide +kernel
theorem d_Vol_greatestDivisor_28 : decode b_Vol_greatestDivisor 28 = .ok (.iinc 4 1, 3) := by decide +kernel
theorem d_Vol_greatestDivisor_31 : decode b_Vol_greatestDivisor 31 = .ok (.goto (-24), 3) := by decide +kernel
theorem d_Vol_greatestDivisor_34 : decode b_Vol_greatestDivisor 34 = .ok (.iload_n 2, 1) := by decide +kernel
theorem d_Vol_greatestDivisor_35 : decode b_Vol_greatestDivisor 35 = .ok (.ireturn, 1) := by decide +kernel
def m_Vol_greatestDivisor_7 : Nat → Int → Int → Int → Option (Int)
  | 0, _, _, _ => none
  | fuel + 1, v2, v3, v4 =>
  clt v4 100 (ceq v3 0 (some (v2)) (gd (zx v2 2147483648 ∧ zp v3 2147483648) (m_Vol_greatestDivisor_7 fuel v3 (v2 % v3) (v4 + 1)))) (some (v2))
def m_Vol_greatestDivisor (x0 : Int) (x1 : Int)  : Option (Int) :=
  m_Vol_greatestDivisor_7 5000 x0 x1 0
set_option maxHeartbeats 4000000 in
set_option maxRecDepth 100000 in
theorem l_Vol_greatestDivisor_7 {G : GT} {l : Launch} {D : va_G} {cI cB : ClassId}   (X : Cx G l D cI cB b_Vol_greatestDivisor y_Vol_greatestDivisor.cls 6 { frames := 0, cells := 0, slots := 0, locals := 0 }) : ∀ (fuel : Nat) (v2 : Int) (v3 : Int) (v4 : Int) (o : Int), m_Vol_greatestDivisor_7 fuel v2 v3 v4 = some o → Rt G (some .int) (some (.int (zi o))) [] → Wx G 0 0 7 [(2, .int (zi v2)), (3, .int (zi v3)), (4, .int (zi v4))] [] [] := by
  intro fuel
  induction fuel with
  | zero =>
    intro v2 v3 v4 o h
    exact absurd h (by simp [m_Vol_greatestDivisor_7])
  | succ fuel ih =>
    intro v2 v3 v4 o h hR
    rw [m_Vol_greatestDivisor_7] at h
    refine x_iload (pc := 7) X d_Vol_greatestDivisor_7 2 rfl ?_
    refine x_bipush (pc := 9) (v := 100) X d_Vol_greatestDivisor_9 rfl ?_
    refine x_icmpge (pc := 11) (tgt := 34) X d_Vol_greatestDivisor_11 rfl h (fun h => ?_) (fun h => ?_)
    · skip
      refine x_iload_n (pc := 34) X d_Vol_greatestDivisor_34 0 rfl rfl ?_
      cases h
      exact x_iret (pc := 35) X hR d_Vol_greatestDivisor_35
    · skip
      refine x_iload_n (pc := 14) X d_Vol_greatestDivisor_14 1 rfl rfl ?_
      refine x_ifeq (pc := 15) (tgt := 34) X d_Vol_greatestDivisor_15 rfl h (fun h => ?_) (fun h => ?_)
      · skip
        refine x_iload_n (pc := 34) X d_Vol_greatestDivisor_34 0 rfl rfl ?_
        cases h
        exact x_iret (pc := 35) X hR d_Vol_greatestDivisor_35
      · skip
        refine x_iload_n (pc := 18) X d_Vol_greatestDivisor_18 0 rfl rfl ?_
        refine x_iload_n (pc := 19) X d_Vol_greatestDivisor_19 1 rfl rfl ?_
        refine x_irem (pc := 20) X d_Vol_greatestDivisor_20 h (fun h => ?_)
        refine x_istore (pc := 21) (ls2 := [(5, .int (zi (v2 % v3))), (2, .int (zi v2)), (3, .int (zi v3)), (4, .int (zi v4))]) X d_Vol_greatestDivisor_21 (Nat.le_of_ble_eq_true rfl) rfl ?_
        refine x_iload_n (pc := 23) X d_Vol_greatestDivisor_23 2 rfl rfl ?_
        refine x_istore_n (pc := 24) (ls2 := [(2, .int (zi v3)), (5, .int (zi (v2 % v3))), (3, .int (zi v3)), (4, .int (zi v4))]) X d_Vol_greatestDivisor_24 rfl (Nat.le_of_ble_eq_true rfl) rfl ?_
        refine x_iload (pc := 25) X d_Vol_greatestDivisor_25 1 rfl ?_
        refine x_istore_n (pc := 27) (ls2 := [(3, .int (zi (v2 % v3))), (2, .int (zi v3)), (5, .int (zi (v2 % v3))), (4, .int (zi v4))]) X d_Vol_greatestDivisor_27 rfl (Nat.le_of_ble_eq_true rfl) rfl ?_
        refine x_iinc (pc := 28) (ls2 := [(4, .int (zi (v4 + 1))), (3, .int (zi (v2 % v3))), (2, .int (zi v3)), (5, .int (zi (v2 % v3)))]) X d_Vol_greatestDivisor_28 3 (Nat.le_of_ble_eq_true rfl) rfl rfl ?_
        refine x_goto (pc := 31) (tgt := 7) X d_Vol_greatestDivisor_31 rfl ?_
        refine x_ls (ls2 := [(2, .int (zi v3)), (3, .int (zi (v2 % v3))), (4, .int (zi (v4 + 1)))]) [2, 1, 0] rfl ?_
        exact ih v3 (v2 % v3) (v4 + 1) o h hR
set_option maxHeartbeats 4000000 in
set_option maxRecDepth 100000 in
theorem c_Vol_greatestDivisor (l : Launch) (D : va_G) (cI cB : ClassId)   (x0 : Int) (x1 : Int) {o : Int} (h : m_Vol_greatestDivisor x0 x1 = some o) : Ct l D cI cB y_Vol_greatestDivisor b_Vol_greatestDivisor 6 (some .int) { frames := 0, cells := 0, slots := 0, locals := 0 } [.int (zi x0), .int (zi x1)] [] [] (some (.int (zi o))) := by
  refine Ct.start (by decide) (Nat.le_of_ble_eq_true rfl) (fun G X hR => ?_)
  refine x_ls (ls2 := [(0, .int (zi x0)), (1, .int (zi x1))]) [0, 1] rfl ?_
  unfold m_Vol_greatestDivisor at h
  refine x_iload_n (pc := 0) X d_Vol_greatestDivisor_0 0 rfl rfl ?_
  refine x_istore_n (pc := 1) (ls2 := [(2, .int (zi x0)), (0, .int (zi x0)), (1, .int (zi x1))]) X d_Vol_greatestDivisor_1 rfl (Nat.le_of_ble_eq_true rfl) rfl ?_
  refine x_iload_n (pc := 2) X d_Vol_greatestDivisor_2 2 rfl rfl ?_
  refine x_istore_n (pc := 3) (ls2 := [(3, .int (zi x1)), (2, .int (zi x0)), (0, .int (zi x0)), (1, .int (zi x1))]) X d_Vol_greatestDivisor_3 rfl (Nat.le_of_ble_eq_true rfl) rfl ?_
  refine x_iconst (pc := 4) X d_Vol_greatestDivisor_4  ?_
  refine x_istore (pc := 5) (ls2 := [(4, .int (zi 0)), (3, .int (zi x1)), (2, .int (zi x0)), (0, .int (zi x0)), (1, .int (zi x1))]) X d_Vol_greatestDivisor_5 (Nat.le_of_ble_eq_true rfl) rfl ?_
  refine x_ls (ls2 := [(2, .int (zi x0)), (3, .int (zi x1)), (4, .int (zi 0))]) [2, 1, 0] rfl ?_
  exact l_Vol_greatestDivisor_7 X 5000 x0 x1 0 o h hR
