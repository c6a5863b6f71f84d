noncomputable abbrev w_Text (cI cB : ClassId) (a0 a1 a2 : Nat) (smn : Int) (snu : Int → Int) : va_W := [(a0, .inr (4, [.ref a1])), (a1, .inr (2, [.ref a2, .int (zi smn)])), (a2, zA cI 96 snu)]
theorem d_Text_canGoOn_0 : decode b_Text_canGoOn 0 = .ok (.aload_n 0, 1) := by decide +kernel
theorem d_Text_canGoOn_1 : decode b_Text_canGoOn 1 = .ok (.getfield 14, 3) := by decide +kernel
theorem d_Text_canGoOn_4 : decode b_Text_canGoOn 4 = .ok (.iload_n 1, 1) := by decide +kernel
theorem d_Text_canGoOn_5 : decode b_Text_canGoOn 5 = .ok (.invokevirtual 28, 3) := by decide +kernel
theorem d_Text_canGoOn_8 : decode b_Text_canGoOn 8 = .ok (.istore_n 3, 1) := by decide +kernel
theorem d_Text_canGoOn_9 : decode b_Text_canGoOn 9 = .ok (.aload_n 0, 1) := by decide +kernel
theorem d_Text_canGoOn_10 : decode b_Text_canGoOn 10 = .ok (.getfield 14, 3) := by decide +kernel
theorem d_Text_canGoOn_13 : decode b_Text_canGoOn 13 = .ok (.iload_n 2, 1) := by decide +kernel
theorem d_Text_canGoOn_14 : decode b_Text_canGoOn 14 = .ok (.invokevirtual 28, 3) := by decide +kernel
theorem d_Text_canGoOn_17 : decode b_Text_canGoOn 17 = .ok (.istore 4, 2) := by decide +kernel
theorem d_Text_canGoOn_19 : decode b_Text_canGoOn 19 = .ok (.iload_n 3, 1) := by decide +kernel
theorem d_Text_canGoOn_20 : decode b_Text_canGoOn 20 = .ok (.invokestatic 32, 3) := by decide +kernel
theorem d_Text_canGoOn_23 : decode b_Text_canGoOn 23 = .ok (.istore 5, 2) := by decide +kernel
theorem d_Text_canGoOn_25 : decode b_Text_canGoOn 25 = .ok (.iload_n 2, 1) := by decide +kernel
theorem d_Text_canGoOn_26 : decode b_Text_canGoOn 26 = .ok (.iload_n 1, 1) := by decide +kernel
theorem d_Text_canGoOn_27 : decode b_Text_canGoOn 27 = .ok (.isub, 1) := by decide +kernel
theorem d_Text_canGoOn_28 : decode b_Text_canGoOn 28 = .ok (.istore 6, 2) := by decide +kernel
theorem d_Text_canGoOn_30 : decode b_Text_canGoOn 30 = .ok (.iload 6, 2) := by decide +kernel
theorem d_Text_canGoOn_32 : decode b_Text_canGoOn 32 = .ok (.ifCond .ne 14, 3) := by decide +kernel
theorem d_Text_canGoOn_35 : decode b_Text_canGoOn 35 = .ok (.iload 5, 2) := by decide +kernel
theorem d_Text_canGoOn_37 : decode b_Text_canGoOn 37 = .ok (.ifCond .le 7, 3) := by decide +kernel
theorem d_Text_canGoOn_40 : decode b_Text_canGoOn 40 = .ok (.iconst 1, 1) := by decide +kernel
theorem d_Text_canGoOn_41 : decode b_Text_canGoOn 41 = .ok (.goto 4, 3) := by decide +kernel
theorem d_Text_canGoOn_44 : decode b_Text_canGoOn 44 = .ok (.iconst 0, 1) := by decide +kernel
theorem d_Text_canGoOn_45 : decode b_Text_canGoOn 45 = .ok (.ireturn, 1) := by decide +kernel
theorem d_Text_canGoOn_46 : decode b_Text_canGoOn 46 = .ok (.iload 6, 2) := by decide +kernel
theorem d_Text_canGoOn_48 : decode b_Text_canGoOn 48 = .ok (.iload 5, 2) := by decide +kernel
theorem d_Text_canGoOn_50 : decode b_Text_canGoOn 50 = .ok (.if_icmp .gt 23, 3) := by decide +kernel
theorem d_Text_canGoOn_53 : decode b_Text_canGoOn 53 = .ok (.iload 4, 2) := by decide +kernel
theorem d_Text_canGoOn_55 : decode b_Text_canGoOn 55 = .ok (.bipush 48, 2) := by decide +kernel
theorem d_Text_canGoOn_57 : decode b_Text_canGoOn 57 = .ok (.if_icmp .lt 14, 3) := by decide +kernel
theorem d_Text_canGoOn_60 : decode b_Text_canGoOn 60 = .ok (.iload 4, 2) := by decide +kernel
theorem d_Text_canGoOn_62 : decode b_Text_canGoOn 62 = .ok (.bipush 57, 2) := by decide +kernel
theorem d_Text_canGoOn_64 : decode b_Text_canGoOn 64 = .ok (.if_icmp .gt 7, 3) := by decide +kernel
theorem d_Text_canGoOn_67 : decode b_Text_canGoOn 67 = .ok (.iconst 1, 1) := by decide +kernel
theorem d_Text_canGoOn_68 : decode b_Text_canGoOn 68 = .ok (.goto 4, 3) := by decide +kernel
theorem d_Text_canGoOn_71 : decode b_Text_canGoOn 71 = .ok (.iconst 0, 1) := by decide +kernel
theorem d_Text_canGoOn_72 : decode b_Text_canGoOn 72 = .ok (.ireturn, 1) := by decide +kernel
theorem d_Text_canGoOn_73 : decode b_Text_canGoOn 73 = .ok (.iload_n 3, 1) := by decide +kernel
theorem d_Text_canGoOn_74 : decode b_Text_canGoOn 74 = .ok (.bipush 107, 2) := by decide +kernel
theorem d_Text_canGoOn_76 : decode b_Text_canGoOn 76 = .ok (.if_icmp .ne 26, 3) := by decide +kernel
theorem d_Text_canGoOn_79 : decode b_Text_canGoOn 79 = .ok (.iload 6, 2) := by decide +kernel
theorem d_Text_canGoOn_81 : decode b_Text_canGoOn 81 = .ok (.iload 5, 2) := by decide +kernel
theorem d_Text_canGoOn_83 : decode b_Text_canGoOn 83 = .ok (.iconst 1, 1) := by decide +kernel
theorem d_Text_canGoOn_84 : decode b_Text_canGoOn 84 = .ok (.iadd, 1) := by decide +kernel
theorem d_Text_canGoOn_85 : decode b_Text_canGoOn 85 = .ok (.if_icmp .ne 17, 3) := by decide +kernel
theorem d_Text_canGoOn_88 : decode b_Text_canGoOn 88 = .ok (.iload 4, 2) := by decide +kernel
theorem d_Text_canGoOn_90 : decode b_Text_canGoOn 90 = .ok (.invokestatic 35, 3) := by decide +kernel
theorem d_Text_canGoOn_93 : decode b_Text_canGoOn 93 = .ok (.ifCond .lt 7, 3) := by decide +kernel
theorem d_Text_canGoOn_96 : decode b_Text_canGoOn 96 = .ok (.iconst 1, 1) := by decide +kernel
theorem d_Text_canGoOn_97 : decode b_Text_canGoOn 97 = .ok (.goto 4, 3) := by decide +kernel
theorem d_Text_canGoOn_100 : decode b_Text_canGoOn 100 = .ok (.iconst 0, 1) := by decide +kernel
theorem d_Text_canGoOn_101 : decode b_Text_canGoOn 101 = .ok (.ireturn, 1) := by decide +kernel
theorem d_Text_canGoOn_102 : decode b_Text_canGoOn 102 = .ok (.iload 4, 2) := by decide +kernel
theorem d_Text_canGoOn_104 : decode b_Text_canGoOn 104 = .ok (.bipush 59, 2) := by decide +kernel
theorem d_Text_canGoOn_106 : decode b_Text_canGoOn 106 = .ok (.if_icmp .ne 7, 3) := by decide +kernel
theorem d_Text_canGoOn_109 : decode b_Text_canGoOn 109 = .ok (.iconst 1, 1) := by decide +kernel
theorem d_Text_canGoOn_110 : decode b_Text_canGoOn 110 = .ok (.goto 4, 3) := by decide +kernel
theorem d_Text_canGoOn_113 : decode b_Text_canGoOn 113 = .ok (.iconst 0, 1) := by decide +kernel
theorem d_Text_canGoOn_114 : decode b_Text_canGoOn 114 = .ok (.ireturn, 1) := by decide +kernel
def m_Text_canGoOn (x1 : Int) (x2 : Int) (smn : Int) (snu : Int → Int) : Option (Int) :=
  bnd (m_Row_numberAt_W96 x1 smn snu) (fun r1 => bnd (m_Row_numberAt_W96 x2 smn snu) (fun r3 => bnd (m_Text_digitsBehind r1) (fun r5 => ceq (x2 - x1) 0 (cle r5 0 (some (0)) (some (1))) (cle (x2 - x1) r5 (clt r3 48 (some (0)) (cle r3 57 (some (1)) (some (0)))) (jn (fun (z8 : Int) => ceq z8 59 (some (1)) (some (0))) (fun j7 => ceq r1 107 (ceq (x2 - x1) (r5 + 1) (bnd (m_Text_kindOf r3) (fun r11 => clt r11 0 (some (0)) (some (1)))) (j7 r3)) (j7 r3)))))))
set_option maxHeartbeats 4000000 in
set_option maxRecDepth 100000 in
theorem c_Text_canGoOn (l : Launch) (D : va_G) (cI cB : ClassId) (a0 a1 a2 : Nat) (smn : Int) (snu : Int → Int) (x1 : Int) (x2 : Int) {o : Int} (h : m_Text_canGoOn x1 x2 smn snu = some o) : Ct l D cI cB y_Text_canGoOn b_Text_canGoOn 7 (some .boolean) { frames := 1, cells := 0, slots := 0, locals := 21 } [.ref a0, .int (zi x1), .int (zi x2)] (w_Text cI cB a0 a1 a2 smn snu) (w_Text cI cB a0 a1 a2 smn snu) (some (.int (zi o))) := by
  refine Ct.start (by decide) (Nat.le_of_ble_eq_true rfl) (fun G X hR => ?_)
  refine x_ls (ls2 := [(0, .ref a0), (1, .int (zi x1)), (2, .int (zi x2))]) [0, 1, 2] rfl ?_
  unfold m_Text_canGoOn at h
  refine x_aload_n (pc := 0) X d_Text_canGoOn_0 0 rfl rfl ?_
  refine x_get (pc := 1) X d_Text_canGoOn_1 0 rfl fl_Text_14 rfl ?_
  refine x_iload_n (pc := 4) X d_Text_canGoOn_4 1 rfl rfl ?_
  obtain ⟨r1, h2, h⟩ := bnd_e h
  refine x_callV (pc := 5) (As := [.int (zi x1)]) (rest := []) (w2 := (w_Text cI cB a0 a1 a2 smn snu)) X d_Text_canGoOn_5 lk_Text_28 mv_Row_numberAt (c_Row_numberAt_W96 l D cI cB a1 a2 smn snu x1 h2) ⟨(Nat.le_of_ble_eq_true rfl), (Nat.le_of_ble_eq_true rfl), (Nat.le_of_ble_eq_true rfl), (Nat.le_of_ble_eq_true rfl)⟩ 1 rfl rfl [1, 2] rfl rfl rfl (Up.same rfl) rfl rfl (Nat.le_of_ble_eq_true rfl) ?_
  refine x_istore_n (pc := 8) (ls2 := [(3, .int (zi r1)), (0, .ref a0), (1, .int (zi x1)), (2, .int (zi x2))]) X d_Text_canGoOn_8 rfl (Nat.le_of_ble_eq_true rfl) rfl ?_
  refine x_aload_n (pc := 9) X d_Text_canGoOn_9 1 rfl rfl ?_
  refine x_get (pc := 10) X d_Text_canGoOn_10 0 rfl fl_Text_14 rfl ?_
  refine x_iload_n (pc := 13) X d_Text_canGoOn_13 3 rfl rfl ?_
  obtain ⟨r3, h4, h⟩ := bnd_e h
  refine x_callV (pc := 14) (As := [.int (zi x2)]) (rest := []) (w2 := (w_Text cI cB a0 a1 a2 smn snu)) X d_Text_canGoOn_14 lk_Text_28 mv_Row_numberAt (c_Row_numberAt_W96 l D cI cB a1 a2 smn snu x2 h4) ⟨(Nat.le_of_ble_eq_true rfl), (Nat.le_of_ble_eq_true rfl), (Nat.le_of_ble_eq_true rfl), (Nat.le_of_ble_eq_true rfl)⟩ 1 rfl rfl [1, 2] rfl rfl rfl (Up.same rfl) rfl rfl (Nat.le_of_ble_eq_true rfl) ?_
  refine x_istore (pc := 17) (ls2 := [(4, .int (zi r3)), (3, .int (zi r1)), (0, .ref a0), (1, .int (zi x1)), (2, .int (zi x2))]) X d_Text_canGoOn_17 (Nat.le_of_ble_eq_true rfl) rfl ?_
  refine x_iload_n (pc := 19) X d_Text_canGoOn_19 1 rfl rfl ?_
  obtain ⟨r5, h6, h⟩ := bnd_e h
  refine x_callS (pc := 20) (As := [.int (zi r1)]) (rest := []) (w2 := (w_Text cI cB a0 a1 a2 smn snu)) X d_Text_canGoOn_20 lk_Text_32 mv_Text_digitsBehind (c_Text_digitsBehind l D cI cB r1 h6) ⟨(Nat.le_of_ble_eq_true rfl), (Nat.le_of_ble_eq_true rfl), (Nat.le_of_ble_eq_true rfl), (Nat.le_of_ble_eq_true rfl)⟩ [] rfl rfl rfl (Up.same rfl) rfl rfl (Nat.le_of_ble_eq_true rfl) ?_
  refine x_istore (pc := 23) (ls2 := [(5, .int (zi r5)), (4, .int (zi r3)), (3, .int (zi r1)), (0, .ref a0), (1, .int (zi x1)), (2, .int (zi x2))]) X d_Text_canGoOn_23 (Nat.le_of_ble_eq_true rfl) rfl ?_
  refine x_iload_n (pc := 25) X d_Text_canGoOn_25 5 rfl rfl ?_
  refine x_iload_n (pc := 26) X d_Text_canGoOn_26 4 rfl rfl ?_
  refine x_isub (pc := 27) X d_Text_canGoOn_27  ?_
  refine x_istore (pc := 28) (ls2 := [(6, .int (zi (x2 - x1))), (5, .int (zi r5)), (4, .int (zi r3)), (3, .int (zi r1)), (0, .ref a0), (1, .int (zi x1)), (2, .int (zi x2))]) X d_Text_canGoOn_28 (Nat.le_of_ble_eq_true rfl) rfl ?_
  refine x_iload (pc := 30) X d_Text_canGoOn_30 0 rfl ?_
  refine x_ifne (pc := 32) (tgt := 46) X d_Text_canGoOn_32 rfl h (fun h => ?_) (fun h => ?_)
  · skip
    refine x_iload (pc := 46) X d_Text_canGoOn_46 0 rfl ?_
    refine x_iload (pc := 48) X d_Text_canGoOn_48 1 rfl ?_
    refine x_icmpgt (pc := 50) (tgt := 73) X d_Text_canGoOn_50 rfl h (fun h => ?_) (fun h => ?_)
    · skip
      refine x_iload_n (pc := 73) X d_Text_canGoOn_73 3 rfl rfl ?_
      refine x_bipush (pc := 74) (v := 107) X d_Text_canGoOn_74 rfl ?_
      obtain ⟨j7, hj9, h⟩ := jn_e h
      have J10 : ∀ (z8 : Int), j7 z8 = some o → Wx G 0 0 102 [(4, .int (zi z8))] [] (w_Text cI cB a0 a1 a2 smn snu) := by
        intro z8 h
        rw [hj9] at h
        (try dsimp only at h)
        refine x_iload (pc := 102) X d_Text_canGoOn_102 0 rfl ?_
        refine x_bipush (pc := 104) (v := 59) X d_Text_canGoOn_104 rfl ?_
        refine x_icmpne (pc := 106) (tgt := 113) X d_Text_canGoOn_106 rfl h (fun h => ?_) (fun h => ?_)
        · skip
          refine x_iconst (pc := 113) X d_Text_canGoOn_113  ?_
          cases h
          exact x_zret (pc := 114) X hR d_Text_canGoOn_114 (Or.inl rfl)
        · skip
          refine x_iconst (pc := 109) X d_Text_canGoOn_109  ?_
          refine x_goto (pc := 110) (tgt := 114) X d_Text_canGoOn_110 rfl ?_
          cases h
          exact x_zret (pc := 114) X hR d_Text_canGoOn_114 (Or.inr rfl)
      clear hj9
      refine x_icmpne (pc := 76) (tgt := 102) X d_Text_canGoOn_76 rfl h (fun h => ?_) (fun h => ?_)
      · skip
        refine x_ls (ls2 := [(4, .int (zi r3))]) [2] rfl ?_
        exact J10 r3 h
      · skip
        refine x_iload (pc := 79) X d_Text_canGoOn_79 0 rfl ?_
        refine x_iload (pc := 81) X d_Text_canGoOn_81 1 rfl ?_
        refine x_iconst (pc := 83) X d_Text_canGoOn_83  ?_
        refine x_iadd (pc := 84) X d_Text_canGoOn_84  ?_
        refine x_icmpne (pc := 85) (tgt := 102) X d_Text_canGoOn_85 rfl h (fun h => ?_) (fun h => ?_)
        · skip
          refine x_ls (ls2 := [(4, .int (zi r3))]) [2] rfl ?_
          exact J10 r3 h
        · skip
          refine x_iload (pc := 88) X d_Text_canGoOn_88 2 rfl ?_
          obtain ⟨r11, h12, h⟩ := bnd_e h
          refine x_callS (pc := 90) (As := [.int (zi r3)]) (rest := []) (w2 := (w_Text cI cB a0 a1 a2 smn snu)) X d_Text_canGoOn_90 lk_Text_35 mv_Text_kindOf (c_Text_kindOf l D cI cB r3 h12) ⟨(Nat.le_of_ble_eq_true rfl), (Nat.le_of_ble_eq_true rfl), (Nat.le_of_ble_eq_true rfl), (Nat.le_of_ble_eq_true rfl)⟩ [] rfl rfl rfl (Up.same rfl) rfl rfl (Nat.le_of_ble_eq_true rfl) ?_
          refine x_iflt (pc := 93) (tgt := 100) X d_Text_canGoOn_93 rfl h (fun h => ?_) (fun h => ?_)
          · skip
            refine x_iconst (pc := 100) X d_Text_canGoOn_100  ?_
            cases h
            exact x_zret (pc := 101) X hR d_Text_canGoOn_101 (Or.inl rfl)
          · skip
            refine x_iconst (pc := 96) X d_Text_canGoOn_96  ?_
            refine x_goto (pc := 97) (tgt := 101) X d_Text_canGoOn_97 rfl ?_
            cases h
            exact x_zret (pc := 101) X hR d_Text_canGoOn_101 (Or.inr rfl)
    · skip
      refine x_iload (pc := 53) X d_Text_canGoOn_53 2 rfl ?_
      refine x_bipush (pc := 55) (v := 48) X d_Text_canGoOn_55 rfl ?_
      refine x_icmplt (pc := 57) (tgt := 71) X d_Text_canGoOn_57 rfl h (fun h => ?_) (fun h => ?_)
      · skip
        refine x_iconst (pc := 71) X d_Text_canGoOn_71  ?_
        cases h
        exact x_zret (pc := 72) X hR d_Text_canGoOn_72 (Or.inl rfl)
      · skip
        refine x_iload (pc := 60) X d_Text_canGoOn_60 2 rfl ?_
        refine x_bipush (pc := 62) (v := 57) X d_Text_canGoOn_62 rfl ?_
        refine x_icmpgt (pc := 64) (tgt := 71) X d_Text_canGoOn_64 rfl h (fun h => ?_) (fun h => ?_)
        · skip
          refine x_iconst (pc := 71) X d_Text_canGoOn_71  ?_
          cases h
          exact x_zret (pc := 72) X hR d_Text_canGoOn_72 (Or.inl rfl)
        · skip
          refine x_iconst (pc := 67) X d_Text_canGoOn_67  ?_
          refine x_goto (pc := 68) (tgt := 72) X d_Text_canGoOn_68 rfl ?_
          cases h
          exact x_zret (pc := 72) X hR d_Text_canGoOn_72 (Or.inr rfl)
  · skip
    refine x_iload (pc := 35) X d_Text_canGoOn_35 1 rfl ?_
    refine x_ifle (pc := 37) (tgt := 44) X d_Text_canGoOn_37 rfl h (fun h => ?_) (fun h => ?_)
    · skip
      refine x_iconst (pc := 44) X d_Text_canGoOn_44  ?_
      cases h
      exact x_zret (pc := 45) X hR d_Text_canGoOn_45 (Or.inl rfl)
    · skip
      refine x_iconst (pc := 40) X d_Text_canGoOn_40  ?_
      refine x_goto (pc := 41) (tgt := 45) X d_Text_canGoOn_41 rfl ?_
      cases h
      exact x_zret (pc := 45) X hR d_Text_canGoOn_45 (Or.inr rfl)
theorem d_Text_faultOfForm_0 : decode b_Text_faultOfForm 0 = .ok (.iconst 0, 1) := by decide +kernel
theorem d_Text_faultOfForm_1 : decode b_Text_faultOfForm 1 = .ok (.istore_n 1, 1) := by decide +kernel
theorem d_Text_faultOfForm_2 : decode b_Text_faultOfForm 2 = .ok (.iconst 0, 1) := by decide +kernel
theorem d_Text_faultOfForm_3 : decode b_Text_faultOfForm 3 = .ok (.istore_n 2, 1) := by decide +kernel
theorem d_Text_faultOfForm_4 : decode b_Text_faultOfForm 4 = .ok (.iload_n 2, 1) := by decide +kernel
theorem d_Text_faultOfForm_5 : decode b_Text_faultOfForm 5 = .ok (.aload_n 0, 1) := by decide +kernel
theorem d_Text_faultOfForm_6 : decode b_Text_faultOfForm 6 = .ok (.getfield 14, 3) := by decide +kernel
theorem d_Text_faultOfForm_9 : decode b_Text_faultOfForm 9 = .ok (.getfield 20, 3) := by decide +kernel
theorem d_Text_faultOfForm_12 : decode b_Text_faultOfForm 12 = .ok (.if_icmp .ge 41, 3) := by decide +kernel
theorem d_Text_faultOfForm_15 : decode b_Text_faultOfForm 15 = .ok (.aload_n 0, 1) := by decide +kernel
theorem d_Text_faultOfForm_16 : decode b_Text_faultOfForm 16 = .ok (.iload_n 1, 1) := by decide +kernel
theorem d_Text_faultOfForm_17 : decode b_Text_faultOfForm 17 = .ok (.iload_n 2, 1) := by decide +kernel
theorem d_Text_faultOfForm_18 : decode b_Text_faultOfForm 18 = .ok (.invokevirtual 24, 3) := by decide +kernel
theorem d_Text_faultOfForm_21 : decode b_Text_faultOfForm 21 = .ok (.ifCond .ne 9, 3) := by decide +kernel
theorem d_Text_faultOfForm_24 : decode b_Text_faultOfForm 24 = .ok (.sipush (-1000), 3) := by decide +kernel
theorem d_Text_faultOfForm_27 : decode b_Text_faultOfForm 27 = .ok (.iload_n 2, 1) := by decide +kernel
theorem d_Text_faultOfForm_28 : decode b_Text_faultOfForm 28 = .ok (.isub, 1) := by decide +kernel
theorem d_Text_faultOfForm_29 : decode b_Text_faultOfForm 29 = .ok (.ireturn, 1) := by decide +kernel
theorem d_Text_faultOfForm_30 : decode b_Text_faultOfForm 30 = .ok (.aload_n 0, 1) := by decide +kernel
theorem d_Text_faultOfForm_31 : decode b_Text_faultOfForm 31 = .ok (.getfield 14, 3) := by decide +kernel
theorem d_Text_faultOfForm_34 : decode b_Text_faultOfForm 34 = .ok (.iload_n 2, 1) := by decide +kernel
theorem d_Text_faultOfForm_35 : decode b_Text_faultOfForm 35 = .ok (.invokevirtual 28, 3) := by decide +kernel
theorem d_Text_faultOfForm_38 : decode b_Text_faultOfForm 38 = .ok (.bipush 59, 2) := by decide +kernel
theorem d_Text_faultOfForm_40 : decode b_Text_faultOfForm 40 = .ok (.if_icmp .ne 7, 3) := by decide +kernel
theorem d_Text_faultOfForm_43 : decode b_Text_faultOfForm 43 = .ok (.iload_n 2, 1) := by decide +kernel
theorem d_Text_faultOfForm_44 : decode b_Text_faultOfForm 44 = .ok (.iconst 1, 1) := by decide +kernel
theorem d_Text_faultOfForm_45 : decode b_Text_faultOfForm 45 = .ok (.iadd, 1) := by decide +kernel
theorem d_Text_faultOfForm_46 : decode b_Text_faultOfForm 46 = .ok (.istore_n 1, 1) := by decide +kernel
theorem d_Text_faultOfForm_47 : decode b_Text_faultOfForm 47 = .ok (.iinc 2 1, 3) := by decide +kernel
theorem d_Text_faultOfForm_50 : decode b_Text_faultOfForm 50 = .ok (.goto (-46), 3) := by decide +kernel
theorem d_Text_faultOfForm_53 : decode b_Text_faultOfForm 53 = .ok (.aload_n 0, 1) := by decide +kernel
theorem d_Text_faultOfForm_54 : decode b_Text_faultOfForm 54 = .ok (.getfield 14, 3) := by decide +kernel
theorem d_Text_faultOfForm_57 : decode b_Text_faultOfForm 57 = .ok (.getfield 20, 3) := by decide +kernel
theorem d_Text_faultOfForm_60 : decode b_Text_faultOfForm 60 = .ok (.ifCond .eq 14, 3) := by decide +kernel
theorem d_Text_faultOfForm_63 : decode b_Text_faultOfForm 63 = .ok (.iload_n 1, 1) := by decide +kernel
theorem d_Text_faultOfForm_64 : decode b_Text_faultOfForm 64 = .ok (.aload_n 0, 1) := by decide +kernel
theorem d_Text_faultOfForm_65 : decode b_Text_faultOfForm 65 = .ok (.getfield 14, 3) := by decide +kernel
theorem d_Text_faultOfForm_68 : decode b_Text_faultOfForm 68 = .ok (.getfield 20, 3) := by decide +kernel
theorem d_Text_faultOfForm_71 : decode b_Text_faultOfForm 71 = .ok (.if_icmp .ge 17, 3) := by decide +kernel
theorem d_Text_faultOfForm_74 : decode b_Text_faultOfForm 74 = .ok (.sipush (-1000), 3) := by decide +kernel
theorem d_Text_faultOfForm_77 : decode b_Text_faultOfForm 77 = .ok (.aload_n 0, 1) := by decide +kernel
theorem d_Text_faultOfForm_78 : decode b_Text_faultOfForm 78 = .ok (.getfield 14, 3) := by decide +kernel
theorem d_Text_faultOfForm_81 : decode b_Text_faultOfForm 81 = .ok (.getfield 20, 3) := by decide +kernel
theorem d_Text_faultOfForm_84 : decode b_Text_faultOfForm 84 = .ok (.isub, 1) := by decide +kernel
theorem d_Text_faultOfForm_85 : decode b_Text_faultOfForm 85 = .ok (.goto 4, 3) := by decide +kernel
theorem d_Text_faultOfForm_88 : decode b_Text_faultOfForm 88 = .ok (.iconst 0, 1) := by decide +kernel
theorem d_Text_faultOfForm_89 : decode b_Text_faultOfForm 89 = .ok (.ireturn, 1) := by decide +kernel
def m_Text_faultOfForm_4 : Nat → Int → Int → Int → (Int → Int) → Option (Int)
  | 0, _, _, _, _ => none
  | fuel + 1, v1, v2, smn, snu =>
  clt v2 smn (bnd (m_Text_canGoOn v1 v2 smn snu) (fun r1 => ceq r1 0 (some (((-1000) - v2))) (bnd (m_Row_numberAt_W96 v2 smn snu) (fun r3 => ceq r3 59 (m_Text_faultOfForm_4 fuel (v2 + 1) (v2 + 1) smn snu) (m_Text_faultOfForm_4 fuel v1 (v2 + 1) smn snu))))) (ceq smn 0 (some (((-1000) - smn))) (clt v1 smn (some (((-1000) - smn))) (some (0))))
def m_Text_faultOfForm  (smn : Int) (snu : Int → Int) : Option (Int) :=
  m_Text_faultOfForm_4 5000 0 0 smn snu
set_option maxHeartbeats 4000000 in
set_option maxRecDepth 100000 in
theorem l_Text_faultOfForm_4 {G : GT} {l : Launch} {D : va_G} {cI cB : ClassId} {a0 a1 a2 : Nat}  (X : Cx G l D cI cB b_Text_faultOfForm y_Text_faultOfForm.cls 3 { frames := 2, cells := 0, slots := 0, locals := 47 }) : ∀ (fuel : Nat) (v1 : Int) (v2 : Int) (smn : Int) (snu : Int → Int) (o : Int), m_Text_faultOfForm_4 fuel v1 v2 smn snu = some o → Rt G (some .int) (some (.int (zi o))) (w_Text cI cB a0 a1 a2 smn snu) → Wx G 0 0 4 [(0, .ref a0), (1, .int (zi v1)), (2, .int (zi v2))] [] (w_Text cI cB a0 a1 a2 smn snu) := by
  intro fuel
  induction fuel with
  | zero =>
    intro v1 v2 smn snu o h
    exact absurd h (by simp [m_Text_faultOfForm_4])
  | succ fuel ih =>
    intro v1 v2 smn snu o h hR
    rw [m_Text_faultOfForm_4] at h
    refine x_iload_n (pc := 4) X d_Text_faultOfForm_4 2 rfl rfl ?_
    refine x_aload_n (pc := 5) X d_Text_faultOfForm_5 0 rfl rfl ?_
    refine x_get (pc := 6) X d_Text_faultOfForm_6 0 rfl fl_Text_14 rfl ?_
    refine x_get (pc := 9) X d_Text_faultOfForm_9 1 rfl fl_Text_20 rfl ?_
    refine x_icmpge (pc := 12) (tgt := 53) X d_Text_faultOfForm_12 rfl h (fun h => ?_) (fun h => ?_)
    · skip
      refine x_aload_n (pc := 53) X d_Text_faultOfForm_53 0 rfl rfl ?_
      refine x_get (pc := 54) X d_Text_faultOfForm_54 0 rfl fl_Text_14 rfl ?_
      refine x_get (pc := 57) X d_Text_faultOfForm_57 1 rfl fl_Text_20 rfl ?_
      refine x_ifeq (pc := 60) (tgt := 74) X d_Text_faultOfForm_60 rfl h (fun h => ?_) (fun h => ?_)
      · skip
        refine x_sipush (pc := 74) (v := -1000) X d_Text_faultOfForm_74 (by decide +kernel) ?_
        refine x_aload_n (pc := 77) X d_Text_faultOfForm_77 0 rfl rfl ?_
        refine x_get (pc := 78) X d_Text_faultOfForm_78 0 rfl fl_Text_14 rfl ?_
        refine x_get (pc := 81) X d_Text_faultOfForm_81 1 rfl fl_Text_20 rfl ?_
        refine x_isub (pc := 84) X d_Text_faultOfForm_84  ?_
        refine x_goto (pc := 85) (tgt := 89) X d_Text_faultOfForm_85 rfl ?_
        cases h
        exact x_iret (pc := 89) X hR d_Text_faultOfForm_89
      · skip
        refine x_iload_n (pc := 63) X d_Text_faultOfForm_63 1 rfl rfl ?_
        refine x_aload_n (pc := 64) X d_Text_faultOfForm_64 0 rfl rfl ?_
        refine x_get (pc := 65) X d_Text_faultOfForm_65 0 rfl fl_Text_14 rfl ?_
        refine x_get (pc := 68) X d_Text_faultOfForm_68 1 rfl fl_Text_20 rfl ?_
        refine x_icmpge (pc := 71) (tgt := 88) X d_Text_faultOfForm_71 rfl h (fun h => ?_) (fun h => ?_)
        · skip
          refine x_iconst (pc := 88) X d_Text_faultOfForm_88  ?_
          cases h
          exact x_iret (pc := 89) X hR d_Text_faultOfForm_89
        · skip
          refine x_sipush (pc := 74) (v := -1000) X d_Text_faultOfForm_74 (by decide +kernel) ?_
          refine x_aload_n (pc := 77) X d_Text_faultOfForm_77 0 rfl rfl ?_
          refine x_get (pc := 78) X d_Text_faultOfForm_78 0 rfl fl_Text_14 rfl ?_
          refine x_get (pc := 81) X d_Text_faultOfForm_81 1 rfl fl_Text_20 rfl ?_
          refine x_isub (pc := 84) X d_Text_faultOfForm_84  ?_
          refine x_goto (pc := 85) (tgt := 89) X d_Text_faultOfForm_85 rfl ?_
          cases h
          exact x_iret (pc := 89) X hR d_Text_faultOfForm_89
    · skip
      refine x_aload_n (pc := 15) X d_Text_faultOfForm_15 0 rfl rfl ?_
      refine x_iload_n (pc := 16) X d_Text_faultOfForm_16 1 rfl rfl ?_
      refine x_iload_n (pc := 17) X d_Text_faultOfForm_17 2 rfl rfl ?_
      obtain ⟨r1, h2, h⟩ := bnd_e h
      refine x_callV (pc := 18) (As := [.int (zi v1), .int (zi v2)]) (rest := []) (w2 := (w_Text cI cB a0 a1 a2 smn snu)) X d_Text_faultOfForm_18 lk_Text_24 mv_Text_canGoOn (c_Text_canGoOn l D cI cB a0 a1 a2 smn snu v1 v2 h2) ⟨(Nat.le_of_ble_eq_true rfl), (Nat.le_of_ble_eq_true rfl), (Nat.le_of_ble_eq_true rfl), (Nat.le_of_ble_eq_true rfl)⟩ 0 rfl rfl [0, 1, 2] rfl rfl rfl (Up.same rfl) rfl rfl (Nat.le_of_ble_eq_true rfl) ?_
      refine x_ifne (pc := 21) (tgt := 30) X d_Text_faultOfForm_21 rfl h (fun h => ?_) (fun h => ?_)
      · skip
        refine x_aload_n (pc := 30) X d_Text_faultOfForm_30 0 rfl rfl ?_
        refine x_get (pc := 31) X d_Text_faultOfForm_31 0 rfl fl_Text_14 rfl ?_
        refine x_iload_n (pc := 34) X d_Text_faultOfForm_34 2 rfl rfl ?_
        obtain ⟨r3, h4, h⟩ := bnd_e h
        refine x_callV (pc := 35) (As := [.int (zi v2)]) (rest := []) (w2 := (w_Text cI cB a0 a1 a2 smn snu)) X d_Text_faultOfForm_35 lk_Text_28 mv_Row_numberAt (c_Row_numberAt_W96 l D cI cB a1 a2 smn snu v2 h4) ⟨(Nat.le_of_ble_eq_true rfl), (Nat.le_of_ble_eq_true rfl), (Nat.le_of_ble_eq_true rfl), (Nat.le_of_ble_eq_true rfl)⟩ 1 rfl rfl [1, 2] rfl rfl rfl (Up.same rfl) rfl rfl (Nat.le_of_ble_eq_true rfl) ?_
        refine x_bipush (pc := 38) (v := 59) X d_Text_faultOfForm_38 rfl ?_
        refine x_icmpne (pc := 40) (tgt := 47) X d_Text_faultOfForm_40 rfl h (fun h => ?_) (fun h => ?_)
        · skip
          refine x_iinc (pc := 47) (ls2 := [(2, .int (zi (v2 + 1))), (0, .ref a0), (1, .int (zi v1))]) X d_Text_faultOfForm_47 2 (Nat.le_of_ble_eq_true rfl) rfl rfl ?_
          refine x_goto (pc := 50) (tgt := 4) X d_Text_faultOfForm_50 rfl ?_
          refine x_ls (ls2 := [(0, .ref a0), (1, .int (zi v1)), (2, .int (zi (v2 + 1)))]) [1, 2, 0] rfl ?_
          exact ih v1 (v2 + 1) smn snu o h hR
        · skip
          refine x_iload_n (pc := 43) X d_Text_faultOfForm_43 2 rfl rfl ?_
          refine x_iconst (pc := 44) X d_Text_faultOfForm_44  ?_
          refine x_iadd (pc := 45) X d_Text_faultOfForm_45  ?_
          refine x_istore_n (pc := 46) (ls2 := [(1, .int (zi (v2 + 1))), (0, .ref a0), (2, .int (zi v2))]) X d_Text_faultOfForm_46 rfl (Nat.le_of_ble_eq_true rfl) rfl ?_
          refine x_iinc (pc := 47) (ls2 := [(2, .int (zi (v2 + 1))), (1, .int (zi (v2 + 1))), (0, .ref a0)]) X d_Text_faultOfForm_47 2 (Nat.le_of_ble_eq_true rfl) rfl rfl ?_
          refine x_goto (pc := 50) (tgt := 4) X d_Text_faultOfForm_50 rfl ?_
          refine x_ls (ls2 := [(0, .ref a0), (1, .int (zi (v2 + 1))), (2, .int (zi (v2 + 1)))]) [2, 1, 0] rfl ?_
          exact ih (v2 + 1) (v2 + 1) smn snu o h hR
      · skip
        refine x_sipush (pc := 24) (v := -1000) X d_Text_faultOfForm_24 (by decide +kernel) ?_
        refine x_iload_n (pc := 27) X d_Text_faultOfForm_27 2 rfl rfl ?_
        refine x_isub (pc := 28) X d_Text_faultOfForm_28  ?_
        cases h
        exact x_iret (pc := 29) X hR d_Text_faultOfForm_29
set_option maxHeartbeats 4000000 in
set_option maxRecDepth 100000 in
theorem c_Text_faultOfForm (l : Launch) (D : va_G) (cI cB : ClassId) (a0 a1 a2 : Nat) (smn : Int) (snu : Int → Int)  {o : Int} (h : m_Text_faultOfForm smn snu = some o) : Ct l D cI cB y_Text_faultOfForm b_Text_faultOfForm 3 (some .int) { frames := 2, cells := 0, slots := 0, locals := 47 } [.ref a0] (w_Text cI cB a0 a1 a2 smn snu) (w_Text cI cB a0 a1 a2 smn snu) (some (.int (zi o))) := by
  refine Ct.start (by decide) (Nat.le_of_ble_eq_true rfl) (fun G X hR => ?_)
  refine x_ls (ls2 := [(0, .ref a0)]) [0] rfl ?_
  unfold m_Text_faultOfForm at h
  refine x_iconst (pc := 0) X d_Text_faultOfForm_0  ?_
  refine x_istore_n (pc := 1) (ls2 := [(1, .int (zi 0)), (0, .ref a0)]) X d_Text_faultOfForm_1 rfl (Nat.le_of_ble_eq_true rfl) rfl ?_
  refine x_iconst (pc := 2) X d_Text_faultOfForm_2  ?_
  refine x_istore_n (pc := 3) (ls2 := [(2, .int (zi 0)), (1, .int (zi 0)), (0, .ref a0)]) X d_Text_faultOfForm_3 rfl (Nat.le_of_ble_eq_true rfl) rfl ?_
  refine x_ls (ls2 := [(0, .ref a0), (1, .int (zi 0)), (2, .int (zi 0))]) [2, 1, 0] rfl ?_
  exact l_Text_faultOfForm_4 X 5000 0 0 smn snu o h hR
theorem d_Text_digitAt_0 : decode b_Text_digitAt 0 = .ok (.aload_n 0, 1) := by decide +kernel
theorem d_Text_digitAt_1 : decode b_Text_digitAt 1 = .ok (.getfield 14, 3) := by decide +kernel
theorem d_Text_digitAt_4 : decode b_Text_digitAt 4 = .ok (.iload_n 1, 1) := by decide +kernel
theorem d_Text_digitAt_5 : decode b_Text_digitAt 5 = .ok (.invokevirtual 28, 3) := by decide +kernel
theorem d_Text_digitAt_8 : decode b_Text_digitAt 8 = .ok (.bipush 48, 2) := by decide +kernel
theorem d_Text_digitAt_10 : decode b_Text_digitAt 10 = .ok (.isub, 1) := by decide +kernel
theorem d_Text_digitAt_11 : decode b_Text_digitAt 11 = .ok (.ireturn, 1) := by decide +kernel
def m_Text_digitAt (x1 : Int) (smn : Int) (snu : Int → Int) : Option (Int) :=
  bnd (m_Row_numberAt_W96 x1 smn snu) (fun r1 => some ((r1 - 48)))
set_option maxHeartbeats 4000000 in
set_option maxRecDepth 100000 in
theorem c_Text_digitAt (l : Launch) (D : va_G) (cI cB : ClassId) (a0 a1 a2 : Nat) (smn : Int) (snu : Int → Int) (x1 : Int) {o : Int} (h : m_Text_digitAt x1 smn snu = some o) : Ct l D cI cB y_Text_digitAt b_Text_digitAt 2 (some .int) { frames := 1, cells := 0, slots := 0, locals := 21 } [.ref a0, .int (zi x1)] (w_Text cI cB a0 a1 a2 smn snu) (w_Text cI cB a0 a1 a2 smn snu) (some (.int (zi o))) := by
  refine Ct.start (by decide) (Nat.le_of_ble_eq_true rfl) (fun G X hR => ?_)
  refine x_ls (ls2 := [(0, .ref a0), (1, .int (zi x1))]) [0, 1] rfl ?_
  unfold m_Text_digitAt at h
  refine x_aload_n (pc := 0) X d_Text_digitAt_0 0 rfl rfl ?_
  refine x_get (pc := 1) X d_Text_digitAt_1 0 rfl fl_Text_14 rfl ?_
  refine x_iload_n (pc := 4) X d_Text_digitAt_4 1 rfl rfl ?_
  obtain ⟨r1, h2, h⟩ := bnd_e h
  refine x_callV (pc := 5) (As := [.int (zi x1)]) (rest := []) (w2 := (w_Text cI cB a0 a1 a2 smn snu)) X d_Text_digitAt_5 lk_Text_28 mv_Row_numberAt (c_Row_numberAt_W96 l D cI cB a1 a2 smn snu x1 h2) ⟨(Nat.le_of_ble_eq_true rfl), (Nat.le_of_ble_eq_true rfl), (Nat.le_of_ble_eq_true rfl), (Nat.le_of_ble_eq_true rfl)⟩ 1 rfl rfl [1, 2] rfl rfl rfl (Up.same rfl) rfl rfl (Nat.le_of_ble_eq_true rfl) ?_
  refine x_bipush (pc := 8) (v := 48) X d_Text_digitAt_8 rfl ?_
  refine x_isub (pc := 10) X d_Text_digitAt_10  ?_
  cases h
  exact x_iret (pc := 11) X hR d_Text_digitAt_11
noncomputable abbrev w_Text_Disk (cI cB : ClassId) (a0 a1 a2 a3 a4 a5 a6 a7 a8 a9 a10 a11 a12 : Nat) (smn : Int) (snu : Int → Int) (qow : Int → Int) (qbt : Int → Int) (qki : Int → Int) (qpl : Int → Int) (qva : Int → Int) (qwr : Int → Int) (qrm : Int) (qrs : Int → Int) (qrz : Int → Int) : va_W := [(a0, .inr (4, [.ref a1])), (a1, .inr (2, [.ref a2, .int (zi smn)])), (a2, zA cI 96 snu), (a3, .inr (0, [.ref a4, .ref a5, .ref a6, .ref a7, .ref a8, .ref a9, .ref a10])), (a4, zA cI 64 qow), (a5, zA cI 64 qbt), (a6, zA cI 4 qki), (a7, zA cI 96 qpl), (a8, zA cI 96 qva), (a9, zA cB 96 qwr), (a10, .inr (3, [.ref a11, .ref a12, .int (zi qrm)])), (a11, zA cI 32 qrs), (a12, zA cI 32 qrz)]
theorem d_Text_plays_0 : decode b_Text_plays 0 = .ok (.aload_n 0, 1) := by decide +kernel
theorem d_Text_plays_1 : decode b_Text_plays 1 = .ok (.iload_n 2, 1) := by decide +kernel
theorem d_Text_plays_2 : decode b_Text_plays 2 = .ok (.iconst 1, 1) := by decide +kernel
theorem d_Text_plays_3 : decode b_Text_plays 3 = .ok (.iadd, 1) := by decide +kernel
theorem d_Text_plays_4 : decode b_Text_plays 4 = .ok (.invokevirtual 42, 3) := by decide +kernel
theorem d_Text_plays_7 : decode b_Text_plays 7 = .ok (.istore_n 3, 1) := by decide +kernel
theorem d_Text_plays_8 : decode b_Text_plays 8 = .ok (.bipush 10, 2) := by decide +kernel
theorem d_Text_plays_10 : decode b_Text_plays 10 = .ok (.aload_n 0, 1) := by decide +kernel
theorem d_Text_plays_11 : decode b_Text_plays 11 = .ok (.iload_n 2, 1) := by decide +kernel
theorem d_Text_plays_12 : decode b_Text_plays 12 = .ok (.iconst 2, 1) := by decide +kernel
theorem d_Text_plays_13 : decode b_Text_plays 13 = .ok (.iadd, 1) := by decide +kernel
theorem d_Text_plays_14 : decode b_Text_plays 14 = .ok (.invokevirtual 42, 3) := by decide +kernel
theorem d_Text_plays_17 : decode b_Text_plays 17 = .ok (.imul, 1) := by decide +kernel
theorem d_Text_plays_18 : decode b_Text_plays 18 = .ok (.aload_n 0, 1) := by decide +kernel
theorem d_Text_plays_19 : decode b_Text_plays 19 = .ok (.iload_n 2, 1) := by decide +kernel
theorem d_Text_plays_20 : decode b_Text_plays 20 = .ok (.iconst 3, 1) := by decide +kernel
theorem d_Text_plays_21 : decode b_Text_plays 21 = .ok (.iadd, 1) := by decide +kernel
theorem d_Text_plays_22 : decode b_Text_plays 22 = .ok (.invokevirtual 42, 3) := by decide +kernel
theorem d_Text_plays_25 : decode b_Text_plays 25 = .ok (.iadd, 1) := by decide +kernel
theorem d_Text_plays_26 : decode b_Text_plays 26 = .ok (.istore 4, 2) := by decide +kernel
theorem d_Text_plays_28 : decode b_Text_plays 28 = .ok (.bipush 10, 2) := by decide +kernel
theorem d_Text_plays_30 : decode b_Text_plays 30 = .ok (.aload_n 0, 1) := by decide +kernel
theorem d_Text_plays_31 : decode b_Text_plays 31 = .ok (.iload_n 2, 1) := by decide +kernel
theorem d_Text_plays_32 : decode b_Text_plays 32 = .ok (.iconst 4, 1) := by decide +kernel
theorem d_Text_plays_33 : decode b_Text_plays 33 = .ok (.iadd, 1) := by decide +kernel
theorem d_Text_plays_34 : decode b_Text_plays 34 = .ok (.invokevirtual 42, 3) := by decide +kernel
theorem d_Text_plays_37 : decode b_Text_plays 37 = .ok (.imul, 1) := by decide +kernel
theorem d_Text_plays_38 : decode b_Text_plays 38 = .ok (.aload_n 0, 1) := by decide +kernel
theorem d_Text_plays_39 : decode b_Text_plays 39 = .ok (.iload_n 2, 1) := by decide +kernel
theorem d_Text_plays_40 : decode b_Text_plays 40 = .ok (.iconst 5, 1) := by decide +kernel
theorem d_Text_plays_41 : decode b_Text_plays 41 = .ok (.iadd, 1) := by decide +kernel
theorem d_Text_plays_42 : decode b_Text_plays 42 = .ok (.invokevirtual 42, 3) := by decide +kernel
theorem d_Text_plays_45 : decode b_Text_plays 45 = .ok (.iadd, 1) := by decide +kernel
theorem d_Text_plays_46 : decode b_Text_plays 46 = .ok (.istore 5, 2) := by decide +kernel
theorem d_Text_plays_48 : decode b_Text_plays 48 = .ok (.iload_n 3, 1) := by decide +kernel
theorem d_Text_plays_49 : decode b_Text_plays 49 = .ok (.invokestatic 45, 3) := by decide +kernel
theorem d_Text_plays_52 : decode b_Text_plays 52 = .ok (.ifCond .ne 5, 3) := by decide +kernel
theorem d_Text_plays_55 : decode b_Text_plays 55 = .ok (.iconst 0, 1) := by decide +kernel
theorem d_Text_plays_56 : decode b_Text_plays 56 = .ok (.ireturn, 1) := by decide +kernel
theorem d_Text_plays_57 : decode b_Text_plays 57 = .ok (.aload_n 0, 1) := by decide +kernel
theorem d_Text_plays_58 : decode b_Text_plays 58 = .ok (.getfield 14, 3) := by decide +kernel
theorem d_Text_plays_61 : decode b_Text_plays 61 = .ok (.iload_n 2, 1) := by decide +kernel
theorem d_Text_plays_62 : decode b_Text_plays 62 = .ok (.invokevirtual 28, 3) := by decide +kernel
theorem d_Text_plays_65 : decode b_Text_plays 65 = .ok (.lookupswitch 177 #[(97, 69), (99, 156), (102, 125), (112, 97), (115, 142), (119, 59)], 59) := by decide +kernel
theorem d_Text_plays_124 : decode b_Text_plays 124 = .ok (.aload_n 1, 1) := by decide +kernel
theorem d_Text_plays_125 : decode b_Text_plays 125 = .ok (.iload_n 3, 1) := by decide +kernel
theorem d_Text_plays_126 : decode b_Text_plays 126 = .ok (.iload 4, 2) := by decide +kernel
theorem d_Text_plays_128 : decode b_Text_plays 128 = .ok (.iload 5, 2) := by decide +kernel
theorem d_Text_plays_130 : decode b_Text_plays 130 = .ok (.invokevirtual 49, 3) := by decide +kernel
theorem d_Text_plays_133 : decode b_Text_plays 133 = .ok (.ireturn, 1) := by decide +kernel
theorem d_Text_plays_134 : decode b_Text_plays 134 = .ok (.iload 4, 2) := by decide +kernel
theorem d_Text_plays_136 : decode b_Text_plays 136 = .ok (.iload 5, 2) := by decide +kernel
theorem d_Text_plays_138 : decode b_Text_plays 138 = .ok (.invokestatic 55, 3) := by decide +kernel
theorem d_Text_plays_141 : decode b_Text_plays 141 = .ok (.ifCond .eq 19, 3) := by decide +kernel
theorem d_Text_plays_144 : decode b_Text_plays 144 = .ok (.aload_n 1, 1) := by decide +kernel
theorem d_Text_plays_145 : decode b_Text_plays 145 = .ok (.iload_n 3, 1) := by decide +kernel
theorem d_Text_plays_146 : decode b_Text_plays 146 = .ok (.iload 4, 2) := by decide +kernel
theorem d_Text_plays_148 : decode b_Text_plays 148 = .ok (.iload 5, 2) := by decide +kernel
theorem d_Text_plays_150 : decode b_Text_plays 150 = .ok (.invokevirtual 58, 3) := by decide +kernel
theorem d_Text_plays_153 : decode b_Text_plays 153 = .ok (.ifCond .lt 7, 3) := by decide +kernel
theorem d_Text_plays_156 : decode b_Text_plays 156 = .ok (.iconst 1, 1) := by decide +kernel
theorem d_Text_plays_157 : decode b_Text_plays 157 = .ok (.goto 4, 3) := by decide +kernel
theorem d_Text_plays_160 : decode b_Text_plays 160 = .ok (.iconst 0, 1) := by decide +kernel
theorem d_Text_plays_161 : decode b_Text_plays 161 = .ok (.ireturn, 1) := by decide +kernel
theorem d_Text_plays_162 : decode b_Text_plays 162 = .ok (.iload 4, 2) := by decide +kernel
theorem d_Text_plays_164 : decode b_Text_plays 164 = .ok (.iload 5, 2) := by decide +kernel
theorem d_Text_plays_166 : decode b_Text_plays 166 = .ok (.invokestatic 55, 3) := by decide +kernel
theorem d_Text_plays_169 : decode b_Text_plays 169 = .ok (.ifCond .eq 19, 3) := by decide +kernel
theorem d_Text_plays_172 : decode b_Text_plays 172 = .ok (.aload_n 1, 1) := by decide +kernel
theorem d_Text_plays_173 : decode b_Text_plays 173 = .ok (.iload_n 3, 1) := by decide +kernel
theorem d_Text_plays_174 : decode b_Text_plays 174 = .ok (.iload 4, 2) := by decide +kernel
theorem d_Text_plays_176 : decode b_Text_plays 176 = .ok (.iload 5, 2) := by decide +kernel
theorem d_Text_plays_178 : decode b_Text_plays 178 = .ok (.invokevirtual 62, 3) := by decide +kernel
theorem d_Text_plays_181 : decode b_Text_plays 181 = .ok (.ifCond .lt 7, 3) := by decide +kernel
theorem d_Text_plays_184 : decode b_Text_plays 184 = .ok (.iconst 1, 1) := by decide +kernel
theorem d_Text_plays_185 : decode b_Text_plays 185 = .ok (.goto 4, 3) := by decide +kernel
theorem d_Text_plays_188 : decode b_Text_plays 188 = .ok (.iconst 0, 1) := by decide +kernel
theorem d_Text_plays_189 : decode b_Text_plays 189 = .ok (.ireturn, 1) := by decide +kernel
theorem d_Text_plays_190 : decode b_Text_plays 190 = .ok (.aload_n 1, 1) := by decide +kernel
theorem d_Text_plays_191 : decode b_Text_plays 191 = .ok (.iload_n 3, 1) := by decide +kernel
theorem d_Text_plays_192 : decode b_Text_plays 192 = .ok (.sipush 1000, 3) := by decide +kernel
theorem d_Text_plays_195 : decode b_Text_plays 195 = .ok (.invokevirtual 65, 3) := by decide +kernel
theorem d_Text_plays_198 : decode b_Text_plays 198 = .ok (.ifCond .lt 7, 3) := by decide +kernel
theorem d_Text_plays_201 : decode b_Text_plays 201 = .ok (.iconst 1, 1) := by decide +kernel
theorem d_Text_plays_202 : decode b_Text_plays 202 = .ok (.goto 4, 3) := by decide +kernel
theorem d_Text_plays_205 : decode b_Text_plays 205 = .ok (.iconst 0, 1) := by decide +kernel
theorem d_Text_plays_206 : decode b_Text_plays 206 = .ok (.ireturn, 1) := by decide +kernel
theorem d_Text_plays_207 : decode b_Text_plays 207 = .ok (.aload_n 1, 1) := by decide +kernel
theorem d_Text_plays_208 : decode b_Text_plays 208 = .ok (.iload_n 3, 1) := by decide +kernel
theorem d_Text_plays_209 : decode b_Text_plays 209 = .ok (.invokevirtual 69, 3) := by decide +kernel
theorem d_Text_plays_212 : decode b_Text_plays 212 = .ok (.ifCond .lt 7, 3) := by decide +kernel
theorem d_Text_plays_215 : decode b_Text_plays 215 = .ok (.iconst 1, 1) := by decide +kernel
theorem d_Text_plays_216 : decode b_Text_plays 216 = .ok (.goto 4, 3) := by decide +kernel
theorem d_Text_plays_219 : decode b_Text_plays 219 = .ok (.iconst 0, 1) := by decide +kernel
theorem d_Text_plays_220 : decode b_Text_plays 220 = .ok (.ireturn, 1) := by decide +kernel
theorem d_Text_plays_221 : decode b_Text_plays 221 = .ok (.aload_n 1, 1) := by decide +kernel
theorem d_Text_plays_222 : decode b_Text_plays 222 = .ok (.iload_n 3, 1) := by decide +kernel
theorem d_Text_plays_223 : decode b_Text_plays 223 = .ok (.iload 4, 2) := by decide +kernel
theorem d_Text_plays_225 : decode b_Text_plays 225 = .ok (.invokevirtual 65, 3) := by decide +kernel
theorem d_Text_plays_228 : decode b_Text_plays 228 = .ok (.pop, 1) := by decide +kernel
theorem d_Text_plays_229 : decode b_Text_plays 229 = .ok (.aload_n 1, 1) := by decide +kernel
theorem d_Text_plays_230 : decode b_Text_plays 230 = .ok (.invokevirtual 72, 3) := by decide +kernel
theorem d_Text_plays_233 : decode b_Text_plays 233 = .ok (.ifCond .lt 7, 3) := by decide +kernel
theorem d_Text_plays_236 : decode b_Text_plays 236 = .ok (.iconst 1, 1) := by decide +kernel
theorem d_Text_plays_237 : decode b_Text_plays 237 = .ok (.goto 4, 3) := by decide +kernel
theorem d_Text_plays_240 : decode b_Text_plays 240 = .ok (.iconst 0, 1) := by decide +kernel
theorem d_Text_plays_241 : decode b_Text_plays 241 = .ok (.ireturn, 1) := by decide +kernel
theorem d_Text_plays_242 : decode b_Text_plays 242 = .ok (.aload_n 1, 1) := by decide +kernel
theorem d_Text_plays_243 : decode b_Text_plays 243 = .ok (.iload_n 3, 1) := by decide +kernel
theorem d_Text_plays_244 : decode b_Text_plays 244 = .ok (.aload_n 0, 1) := by decide +kernel
theorem d_Text_plays_245 : decode b_Text_plays 245 = .ok (.getfield 14, 3) := by decide +kernel
theorem d_Text_plays_248 : decode b_Text_plays 248 = .ok (.iload_n 2, 1) := by decide +kernel
theorem d_Text_plays_249 : decode b_Text_plays 249 = .ok (.iconst 2, 1) := by decide +kernel
theorem d_Text_plays_250 : decode b_Text_plays 250 = .ok (.iadd, 1) := by decide +kernel
theorem d_Text_plays_251 : decode b_Text_plays 251 = .ok (.invokevirtual 28, 3) := by decide +kernel
theorem d_Text_plays_254 : decode b_Text_plays 254 = .ok (.invokestatic 35, 3) := by decide +kernel
theorem d_Text_plays_257 : decode b_Text_plays 257 = .ok (.invokevirtual 76, 3) := by decide +kernel
theorem d_Text_plays_260 : decode b_Text_plays 260 = .ok (.iconst 1, 1) := by decide +kernel
theorem d_Text_plays_261 : decode b_Text_plays 261 = .ok (.ireturn, 1) := by decide +kernel
def m_Text_plays (x2 : Int) (smn : Int) (snu : Int → Int) (qow : Int → Int) (qbt : Int → Int) (qki : Int → Int) (qpl : Int → Int) (qva : Int → Int) (qwr : Int → Int) (qrm : Int) (qrs : Int → Int) (qrz : Int → Int) : Option (Int × (Int → Int) × (Int → Int) × (Int → Int) × (Int → Int) × (Int → Int) × (Int → Int) × Int × (Int → Int) × (Int → Int)) :=
  bnd (m_Text_digitAt (x2 + 1) smn snu) (fun r1 => bnd (m_Text_digitAt (x2 + 2) smn snu) (fun r3 => bnd (m_Text_digitAt (x2 + 3) smn snu) (fun r5 => bnd (m_Text_digitAt (x2 + 4) smn snu) (fun r7 => bnd (m_Text_digitAt (x2 + 5) smn snu) (fun r9 => bnd (m_Vol_isFile r1) (fun r11 => ceq r11 0 (some (0, qow, qbt, qki, qpl, qva, qwr, qrm, qrs, qrz)) (bnd (m_Row_numberAt_W96 x2 smn snu) (fun r13 => ceq r13 97 (bnd (m_Text_isSeries ((10 * r3) + r5) ((10 * r7) + r9)) (fun r21 => ceq r21 0 (some (0, qow, qbt, qki, qpl, qva, qwr, qrm, qrs, qrz)) (bnd (m_Disk_putHoles r1 ((10 * r3) + r5) ((10 * r7) + r9) qow qki qpl qva qrm qrs qrz) (fun r23 => clt r23.1 0 (some (0, r23.2.1, qbt, qki, r23.2.2.1, qva, qwr, r23.2.2.2.1, r23.2.2.2.2.1, r23.2.2.2.2.2)) (some (1, r23.2.1, qbt, qki, r23.2.2.1, qva, qwr, r23.2.2.2.1, r23.2.2.2.2.1, r23.2.2.2.2.2)))))) (ceq r13 99 (bnd (m_Disk_flushUpTo r1 ((10 * r3) + r5) qow qbt qki qpl qva qwr qrm qrs qrz) (fun r25 => bnd (m_Disk_dropWaiting r25.2.2.2.2.1) (fun r27 => clt r27.1 0 (some (0, r25.2.1, r25.2.2.1, qki, r25.2.2.2.1, r27.2, r25.2.2.2.2.2.1, r25.2.2.2.2.2.2.1, r25.2.2.2.2.2.2.2.1, r25.2.2.2.2.2.2.2.2)) (some (1, r25.2.1, r25.2.2.1, qki, r25.2.2.2.1, r27.2, r25.2.2.2.2.2.1, r25.2.2.2.2.2.2.1, r25.2.2.2.2.2.2.2.1, r25.2.2.2.2.2.2.2.2))))) (ceq r13 102 (bnd (m_Disk_flushUpTo r1 1000 qow qbt qki qpl qva qwr qrm qrs qrz) (fun r29 => clt r29.1 0 (some (0, r29.2.1, r29.2.2.1, qki, r29.2.2.2.1, r29.2.2.2.2.1, r29.2.2.2.2.2.1, r29.2.2.2.2.2.2.1, r29.2.2.2.2.2.2.2.1, r29.2.2.2.2.2.2.2.2)) (some (1, r29.2.1, r29.2.2.1, qki, r29.2.2.2.1, r29.2.2.2.2.1, r29.2.2.2.2.2.1, r29.2.2.2.2.2.2.1, r29.2.2.2.2.2.2.2.1, r29.2.2.2.2.2.2.2.2)))) (ceq r13 112 (bnd (m_Text_isSeries ((10 * r3) + r5) ((10 * r7) + r9)) (fun r31 => ceq r31 0 (some (0, qow, qbt, qki, qpl, qva, qwr, qrm, qrs, qrz)) (bnd (m_Disk_punchOut r1 ((10 * r3) + r5) ((10 * r7) + r9) qow qpl qva qwr) (fun r33 => clt r33.1 0 (some (0, r33.2.1, qbt, qki, r33.2.2.1, r33.2.2.2.1, r33.2.2.2.2, qrm, qrs, qrz)) (some (1, r33.2.1, qbt, qki, r33.2.2.1, r33.2.2.2.1, r33.2.2.2.2, qrm, qrs, qrz)))))) (ceq r13 115 (bnd (m_Disk_settleDown r1 qow qbt qpl qrm qrs qrz) (fun r35 => clt r35.1 0 (some (0, r35.2.1, r35.2.2.1, qki, r35.2.2.2.1, qva, qwr, r35.2.2.2.2.1, r35.2.2.2.2.2.1, r35.2.2.2.2.2.2)) (some (1, r35.2.1, r35.2.2.1, qki, r35.2.2.2.1, qva, qwr, r35.2.2.2.2.1, r35.2.2.2.2.2.1, r35.2.2.2.2.2.2)))) (ceq r13 119 (bnd (m_Disk_sayAt r1 ((10 * r3) + r5) ((10 * r7) + r9) qow qpl qva) (fun r37 => gd (zb r37.1) (some (r37.1, qow, qbt, qki, qpl, r37.2, qwr, qrm, qrs, qrz)))) (bnd (m_Row_numberAt_W96 (x2 + 2) smn snu) (fun r15 => bnd (m_Text_kindOf r15) (fun r17 => bnd (m_Disk_turnKind r1 r17 qki) (fun r19 => some (1, qow, qbt, r19, qpl, qva, qwr, qrm, qrs, qrz))))))))))))))))))
set_option maxHeartbeats 4000000 in
set_option maxRecDepth 100000 in
theorem c_Text_plays (l : Launch) (D : va_G) (cI cB : ClassId) (a0 a1 a2 a3 a4 a5 a6 a7 a8 a9 a10 a11 a12 : Nat) (smn : Int) (snu : Int → Int) (qow : Int → Int) (qbt : Int → Int) (qki : Int → Int) (qpl : Int → Int) (qva : Int → Int) (qwr : Int → Int) (qrm : Int) (qrs : Int → Int) (qrz : Int → Int) (x2 : Int) {o : Int × (Int → Int) × (Int → Int) × (Int → Int) × (Int → Int) × (Int → Int) × (Int → Int) × Int × (Int → Int) × (Int → Int)} (h : m_Text_plays x2 smn snu qow qbt qki qpl qva qwr qrm qrs qrz = some o) : Ct l D cI cB y_Text_plays b_Text_plays 6 (some .boolean) { frames := 4, cells := 0, slots := 0, locals := 104 } [.ref a0, .ref a3, .int (zi x2)] (w_Text_Disk cI cB a0 a1 a2 a3 a4 a5 a6 a7 a8 a9 a10 a11 a12 smn snu qow qbt qki qpl qva qwr qrm qrs qrz) (w_Text_Disk cI cB a0 a1 a2 a3 a4 a5 a6 a7 a8 a9 a10 a11 a12 smn snu o.2.1 o.2.2.1 o.2.2.2.1 o.2.2.2.2.1 o.2.2.2.2.2.1 o.2.2.2.2.2.2.1 o.2.2.2.2.2.2.2.1 o.2.2.2.2.2.2.2.2.1 o.2.2.2.2.2.2.2.2.2) (some (.int (zi o.1))) := by
  refine Ct.start (by decide) (Nat.le_of_ble_eq_true rfl) (fun G X hR => ?_)
  refine x_ls (ls2 := [(0, .ref a0), (1, .ref a3), (2, .int (zi x2))]) [0, 1, 2] rfl ?_
  unfold m_Text_plays at h
  refine x_aload_n (pc := 0) X d_Text_plays_0 0 rfl rfl ?_
  refine x_iload_n (pc := 1) X d_Text_plays_1 2 rfl rfl ?_
  refine x_iconst (pc := 2) X d_Text_plays_2  ?_
  refine x_iadd (pc := 3) X d_Text_plays_3  ?_
  obtain ⟨r1, h2, h⟩ := bnd_e h
  refine x_callV (pc := 4) (As := [.int (zi (x2 + 1))]) (rest := []) (w2 := (w_Text_Disk cI cB a0 a1 a2 a3 a4 a5 a6 a7 a8 a9 a10 a11 a12 smn snu qow qbt qki qpl qva qwr qrm qrs qrz)) X d_Text_plays_4 lk_Text_42 mv_Text_digitAt (c_Text_digitAt l D cI cB a0 a1 a2 smn snu (x2 + 1) h2) ⟨(Nat.le_of_ble_eq_true rfl), (Nat.le_of_ble_eq_true rfl), (Nat.le_of_ble_eq_true rfl), (Nat.le_of_ble_eq_true rfl)⟩ 0 rfl rfl [0, 1, 2] rfl rfl rfl (Up.same rfl) rfl rfl (Nat.le_of_ble_eq_true rfl) ?_
  refine x_istore_n (pc := 7) (ls2 := [(3, .int (zi r1)), (0, .ref a0), (1, .ref a3), (2, .int (zi x2))]) X d_Text_plays_7 rfl (Nat.le_of_ble_eq_true rfl) rfl ?_
  refine x_bipush (pc := 8) (v := 10) X d_Text_plays_8 rfl ?_
  refine x_aload_n (pc := 10) X d_Text_plays_10 1 rfl rfl ?_
  refine x_iload_n (pc := 11) X d_Text_plays_11 3 rfl rfl ?_
  refine x_iconst (pc := 12) X d_Text_plays_12  ?_
  refine x_iadd (pc := 13) X d_Text_plays_13  ?_
  obtain ⟨r3, h4, h⟩ := bnd_e h
  refine x_callV (pc := 14) (As := [.int (zi (x2 + 2))]) (rest := [.int (zi 10)]) (w2 := (w_Text_Disk cI cB a0 a1 a2 a3 a4 a5 a6 a7 a8 a9 a10 a11 a12 smn snu qow qbt qki qpl qva qwr qrm qrs qrz)) X d_Text_plays_14 lk_Text_42 mv_Text_digitAt (c_Text_digitAt l D cI cB a0 a1 a2 smn snu (x2 + 2) h4) ⟨(Nat.le_of_ble_eq_true rfl), (Nat.le_of_ble_eq_true rfl), (Nat.le_of_ble_eq_true rfl), (Nat.le_of_ble_eq_true rfl)⟩ 0 rfl rfl [0, 1, 2] rfl rfl rfl (Up.same rfl) rfl rfl (Nat.le_of_ble_eq_true rfl) ?_
  refine x_imul (pc := 17) X d_Text_plays_17  ?_
  refine x_aload_n (pc := 18) X d_Text_plays_18 1 rfl rfl ?_
  refine x_iload_n (pc := 19) X d_Text_plays_19 3 rfl rfl ?_
  refine x_iconst (pc := 20) X d_Text_plays_20  ?_
  refine x_iadd (pc := 21) X d_Text_plays_21  ?_
  obtain ⟨r5, h6, h⟩ := bnd_e h
  refine x_callV (pc := 22) (As := [.int (zi (x2 + 3))]) (rest := [.int (zi (10 * r3))]) (w2 := (w_Text_Disk cI cB a0 a1 a2 a3 a4 a5 a6 a7 a8 a9 a10 a11 a12 smn snu qow qbt qki qpl qva qwr qrm qrs qrz)) X d_Text_plays_22 lk_Text_42 mv_Text_digitAt (c_Text_digitAt l D cI cB a0 a1 a2 smn snu (x2 + 3) h6) ⟨(Nat.le_of_ble_eq_true rfl), (Nat.le_of_ble_eq_true rfl), (Nat.le_of_ble_eq_true rfl), (Nat.le_of_ble_eq_true rfl)⟩ 0 rfl rfl [0, 1, 2] rfl rfl rfl (Up.same rfl) rfl rfl (Nat.le_of_ble_eq_true rfl) ?_
  refine x_iadd (pc := 25) X d_Text_plays_25  ?_
  refine x_istore (pc := 26) (ls2 := [(4, .int (zi ((10 * r3) + r5))), (3, .int (zi r1)), (0, .ref a0), (1, .ref a3), (2, .int (zi x2))]) X d_Text_plays_26 (Nat.le_of_ble_eq_true rfl) rfl ?_
  refine x_bipush (pc := 28) (v := 10) X d_Text_plays_28 rfl ?_
  refine x_aload_n (pc := 30) X d_Text_plays_30 2 rfl rfl ?_
  refine x_iload_n (pc := 31) X d_Text_plays_31 4 rfl rfl ?_
  refine x_iconst (pc := 32) X d_Text_plays_32  ?_
  refine x_iadd (pc := 33) X d_Text_plays_33  ?_
  obtain ⟨r7, h8, h⟩ := bnd_e h
  refine x_callV (pc := 34) (As := [.int (zi (x2 + 4))]) (rest := [.int (zi 10)]) (w2 := (w_Text_Disk cI cB a0 a1 a2 a3 a4 a5 a6 a7 a8 a9 a10 a11 a12 smn snu qow qbt qki qpl qva qwr qrm qrs qrz)) X d_Text_plays_34 lk_Text_42 mv_Text_digitAt (c_Text_digitAt l D cI cB a0 a1 a2 smn snu (x2 + 4) h8) ⟨(Nat.le_of_ble_eq_true rfl), (Nat.le_of_ble_eq_true rfl), (Nat.le_of_ble_eq_true rfl), (Nat.le_of_ble_eq_true rfl)⟩ 0 rfl rfl [0, 1, 2] rfl rfl rfl (Up.same rfl) rfl rfl (Nat.le_of_ble_eq_true rfl) ?_
  refine x_imul (pc := 37) X d_Text_plays_37  ?_
  refine x_aload_n (pc := 38) X d_Text_plays_38 2 rfl rfl ?_
  refine x_iload_n (pc := 39) X d_Text_plays_39 4 rfl rfl ?_
  refine x_iconst (pc := 40) X d_Text_plays_40  ?_
  refine x_iadd (pc := 41) X d_Text_plays_41  ?_
  obtain ⟨r9, h10, h⟩ := bnd_e h
  refine x_callV (pc := 42) (As := [.int (zi (x2 + 5))]) (rest := [.int (zi (10 * r7))]) (w2 := (w_Text_Disk cI cB a0 a1 a2 a3 a4 a5 a6 a7 a8 a9 a10 a11 a12 smn snu qow qbt qki qpl qva qwr qrm qrs qrz)) X d_Text_plays_42 lk_Text_42 mv_Text_digitAt (c_Text_digitAt l D cI cB a0 a1 a2 smn snu (x2 + 5) h10) ⟨(Nat.le_of_ble_eq_true rfl), (Nat.le_of_ble_eq_true rfl), (Nat.le_of_ble_eq_true rfl), (Nat.le_of_ble_eq_true rfl)⟩ 0 rfl rfl [0, 1, 2] rfl rfl rfl (Up.same rfl) rfl rfl (Nat.le_of_ble_eq_true rfl) ?_
  refine x_iadd (pc := 45) X d_Text_plays_45  ?_
  refine x_istore (pc := 46) (ls2 := [(5, .int (zi ((10 * r7) + r9))), (4, .int (zi ((10 * r3) + r5))), (3, .int (zi r1)), (0, .ref a0), (1, .ref a3), (2, .int (zi x2))]) X d_Text_plays_46 (Nat.le_of_ble_eq_true rfl) rfl ?_
  refine x_iload_n (pc := 48) X d_Text_plays_48 2 rfl rfl ?_
  obtain ⟨r11, h12, h⟩ := bnd_e h
  refine x_callS (pc := 49) (As := [.int (zi r1)]) (rest := []) (w2 := (w_Text_Disk cI cB a0 a1 a2 a3 a4 a5 a6 a7 a8 a9 a10 a11 a12 smn snu qow qbt qki qpl qva qwr qrm qrs qrz)) X d_Text_plays_49 lk_Text_45 mv_Vol_isFile (c_Vol_isFile l D cI cB r1 h12) ⟨(Nat.le_of_ble_eq_true rfl), (Nat.le_of_ble_eq_true rfl), (Nat.le_of_ble_eq_true rfl), (Nat.le_of_ble_eq_true rfl)⟩ [] rfl rfl rfl (Up.same rfl) rfl rfl (Nat.le_of_ble_eq_true rfl) ?_
  refine x_ifne (pc := 52) (tgt := 57) X d_Text_plays_52 rfl h (fun h => ?_) (fun h => ?_)
  · skip
    refine x_aload_n (pc := 57) X d_Text_plays_57 3 rfl rfl ?_
    refine x_get (pc := 58) X d_Text_plays_58 0 rfl fl_Text_14 rfl ?_
    refine x_iload_n (pc := 61) X d_Text_plays_61 5 rfl rfl ?_
    obtain ⟨r13, h14, h⟩ := bnd_e h
    refine x_callV (pc := 62) (As := [.int (zi x2)]) (rest := []) (w2 := (w_Text_Disk cI cB a0 a1 a2 a3 a4 a5 a6 a7 a8 a9 a10 a11 a12 smn snu qow qbt qki qpl qva qwr qrm qrs qrz)) X d_Text_plays_62 lk_Text_28 mv_Row_numberAt (c_Row_numberAt_W96 l D cI cB a1 a2 smn snu x2 h14) ⟨(Nat.le_of_ble_eq_true rfl), (Nat.le_of_ble_eq_true rfl), (Nat.le_of_ble_eq_true rfl), (Nat.le_of_ble_eq_true rfl)⟩ 1 rfl rfl [1, 2] rfl rfl rfl (Up.same rfl) rfl rfl (Nat.le_of_ble_eq_true rfl) ?_
    obtain ⟨hz, h⟩ := ceq_e h
    rcases h with ⟨e0, h⟩ | ⟨n0, h⟩
    · refine x_lk (pc := 65) (tgt := 134) X d_Text_plays_65 hz.1 (by decide) (by rw [e0]; try rfl) rfl ?_
      refine x_iload (pc := 134) X d_Text_plays_134 1 rfl ?_
      refine x_iload (pc := 136) X d_Text_plays_136 0 rfl ?_
      obtain ⟨r21, h22, h⟩ := bnd_e h
      refine x_callS (pc := 138) (As := [.int (zi ((10 * r3) + r5)), .int (zi ((10 * r7) + r9))]) (rest := []) (w2 := (w_Text_Disk cI cB a0 a1 a2 a3 a4 a5 a6 a7 a8 a9 a10 a11 a12 smn snu qow qbt qki qpl qva qwr qrm qrs qrz)) X d_Text_plays_138 lk_Text_55 mv_Text_isSeries (c_Text_isSeries l D cI cB ((10 * r3) + r5) ((10 * r7) + r9) h22) ⟨(Nat.le_of_ble_eq_true rfl), (Nat.le_of_ble_eq_true rfl), (Nat.le_of_ble_eq_true rfl), (Nat.le_of_ble_eq_true rfl)⟩ [] rfl rfl rfl (Up.same rfl) rfl rfl (Nat.le_of_ble_eq_true rfl) ?_
      refine x_ifeq (pc := 141) (tgt := 160) X d_Text_plays_141 rfl h (fun h => ?_) (fun h => ?_)
      · skip
        refine x_iconst (pc := 160) X d_Text_plays_160  ?_
        cases h
        exact x_zret (pc := 161) X hR d_Text_plays_161 (Or.inl rfl)
      · skip
        refine x_aload_n (pc := 144) X d_Text_plays_144 4 rfl rfl ?_
        refine x_iload_n (pc := 145) X d_Text_plays_145 2 rfl rfl ?_
        refine x_iload (pc := 146) X d_Text_plays_146 1 rfl ?_
        refine x_iload (pc := 148) X d_Text_plays_148 0 rfl ?_
        obtain ⟨r23, h24, h⟩ := bnd_e h
        refine x_callV (pc := 150) (As := [.int (zi r1), .int (zi ((10 * r3) + r5)), .int (zi ((10 * r7) + r9))]) (rest := []) (w2 := (w_Text_Disk cI cB a0 a1 a2 a3 a4 a5 a6 a7 a8 a9 a10 a11 a12 smn snu r23.2.1 qbt qki r23.2.2.1 qva qwr r23.2.2.2.1 r23.2.2.2.2.1 r23.2.2.2.2.2)) X d_Text_plays_150 lk_Text_58 mv_Disk_putHoles (c_Disk_putHoles l D cI cB a3 a4 a5 a6 a7 a8 a9 a10 a11 a12 qow qbt qki qpl qva qwr qrm qrs qrz r1 ((10 * r3) + r5) ((10 * r7) + r9) h24) ⟨(Nat.le_of_ble_eq_true rfl), (Nat.le_of_ble_eq_true rfl), (Nat.le_of_ble_eq_true rfl), (Nat.le_of_ble_eq_true rfl)⟩ 3 rfl rfl [3, 4, 5, 6, 7, 8, 9, 10, 11, 12] rfl rfl rfl (Up.of [0, 1, 2] [(a0, .inr (4, [.ref a1])), (a1, .inr (2, [.ref a2, .int (zi smn)])), (a2, zA cI 96 snu)] rfl rfl rfl 13 rfl (by decide +kernel)) rfl rfl (Nat.le_of_ble_eq_true rfl) ?_
        refine x_iflt (pc := 153) (tgt := 160) X d_Text_plays_153 rfl h (fun h => ?_) (fun h => ?_)
        · skip
          refine x_iconst (pc := 160) X d_Text_plays_160  ?_
          cases h
          exact x_zret (pc := 161) X hR d_Text_plays_161 (Or.inl rfl)
        · skip
          refine x_iconst (pc := 156) X d_Text_plays_156  ?_
          refine x_goto (pc := 157) (tgt := 161) X d_Text_plays_157 rfl ?_
          cases h
          exact x_zret (pc := 161) X hR d_Text_plays_161 (Or.inr rfl)
    obtain ⟨hz, h⟩ := ceq_e h
    rcases h with ⟨e1, h⟩ | ⟨n1, h⟩
    · refine x_lk (pc := 65) (tgt := 221) X d_Text_plays_65 hz.1 (by decide) (by rw [e1]; try rfl) rfl ?_
      refine x_aload_n (pc := 221) X d_Text_plays_221 4 rfl rfl ?_
      refine x_iload_n (pc := 222) X d_Text_plays_222 2 rfl rfl ?_
      refine x_iload (pc := 223) X d_Text_plays_223 1 rfl ?_
      obtain ⟨r25, h26, h⟩ := bnd_e h
      refine x_callV (pc := 225) (As := [.int (zi r1), .int (zi ((10 * r3) + r5))]) (rest := []) (w2 := (w_Text_Disk cI cB a0 a1 a2 a3 a4 a5 a6 a7 a8 a9 a10 a11 a12 smn snu r25.2.1 r25.2.2.1 qki r25.2.2.2.1 r25.2.2.2.2.1 r25.2.2.2.2.2.1 r25.2.2.2.2.2.2.1 r25.2.2.2.2.2.2.2.1 r25.2.2.2.2.2.2.2.2)) X d_Text_plays_225 lk_Text_65 mv_Disk_flushUpTo (c_Disk_flushUpTo l D cI cB a3 a4 a5 a6 a7 a8 a9 a10 a11 a12 qow qbt qki qpl qva qwr qrm qrs qrz r1 ((10 * r3) + r5) h26) ⟨(Nat.le_of_ble_eq_true rfl), (Nat.le_of_ble_eq_true rfl), (Nat.le_of_ble_eq_true rfl), (Nat.le_of_ble_eq_true rfl)⟩ 3 rfl rfl [3, 4, 5, 6, 7, 8, 9, 10, 11, 12] rfl rfl rfl (Up.of [0, 1, 2] [(a0, .inr (4, [.ref a1])), (a1, .inr (2, [.ref a2, .int (zi smn)])), (a2, zA cI 96 snu)] rfl rfl rfl 13 rfl (by decide +kernel)) rfl rfl (Nat.le_of_ble_eq_true rfl) ?_
      refine x_pop (pc := 228) X d_Text_plays_228 rfl ?_
      refine x_aload_n (pc := 229) X d_Text_plays_229 4 rfl rfl ?_
      obtain ⟨r27, h28, h⟩ := bnd_e h
      refine x_callV (pc := 230) (As := []) (rest := []) (w2 := (w_Text_Disk cI cB a0 a1 a2 a3 a4 a5 a6 a7 a8 a9 a10 a11 a12 smn snu r25.2.1 r25.2.2.1 qki r25.2.2.2.1 r27.2 r25.2.2.2.2.2.1 r25.2.2.2.2.2.2.1 r25.2.2.2.2.2.2.2.1 r25.2.2.2.2.2.2.2.2)) X d_Text_plays_230 lk_Text_72 mv_Disk_dropWaiting (c_Disk_dropWaiting l D cI cB a3 a4 a5 a6 a7 a8 a9 a10 a11 a12 r25.2.1 r25.2.2.1 qki r25.2.2.2.1 r25.2.2.2.2.1 r25.2.2.2.2.2.1 r25.2.2.2.2.2.2.1 r25.2.2.2.2.2.2.2.1 r25.2.2.2.2.2.2.2.2 h28) ⟨(Nat.le_of_ble_eq_true rfl), (Nat.le_of_ble_eq_true rfl), (Nat.le_of_ble_eq_true rfl), (Nat.le_of_ble_eq_true rfl)⟩ 3 rfl rfl [3, 4, 5, 6, 7, 8, 9, 10, 11, 12] rfl rfl rfl (Up.of [0, 1, 2] [(a0, .inr (4, [.ref a1])), (a1, .inr (2, [.ref a2, .int (zi smn)])), (a2, zA cI 96 snu)] rfl rfl rfl 13 rfl (by decide +kernel)) rfl rfl (Nat.le_of_ble_eq_true rfl) ?_
      refine x_iflt (pc := 233) (tgt := 240) X d_Text_plays_233 rfl h (fun h => ?_) (fun h => ?_)
      · skip
        refine x_iconst (pc := 240) X d_Text_plays_240  ?_
        cases h
        exact x_zret (pc := 241) X hR d_Text_plays_241 (Or.inl rfl)
      · skip
        refine x_iconst (pc := 236) X d_Text_plays_236  ?_
        refine x_goto (pc := 237) (tgt := 241) X d_Text_plays_237 rfl ?_
        cases h
        exact x_zret (pc := 241) X hR d_Text_plays_241 (Or.inr rfl)
    obtain ⟨hz, h⟩ := ceq_e h
    rcases h with ⟨e2, h⟩ | ⟨n2, h⟩
    · refine x_lk (pc := 65) (tgt := 190) X d_Text_plays_65 hz.1 (by decide) (by rw [e2]; try rfl) rfl ?_
      refine x_aload_n (pc := 190) X d_Text_plays_190 4 rfl rfl ?_
      refine x_iload_n (pc := 191) X d_Text_plays_191 2 rfl rfl ?_
      refine x_sipush (pc := 192) (v := 1000) X d_Text_plays_192 (by decide +kernel) ?_
      obtain ⟨r29, h30, h⟩ := bnd_e h
      refine x_callV (pc := 195) (As := [.int (zi r1), .int (zi 1000)]) (rest := []) (w2 := (w_Text_Disk cI cB a0 a1 a2 a3 a4 a5 a6 a7 a8 a9 a10 a11 a12 smn snu r29.2.1 r29.2.2.1 qki r29.2.2.2.1 r29.2.2.2.2.1 r29.2.2.2.2.2.1 r29.2.2.2.2.2.2.1 r29.2.2.2.2.2.2.2.1 r29.2.2.2.2.2.2.2.2)) X d_Text_plays_195 lk_Text_65 mv_Disk_flushUpTo (c_Disk_flushUpTo l D cI cB a3 a4 a5 a6 a7 a8 a9 a10 a11 a12 qow qbt qki qpl qva qwr qrm qrs qrz r1 1000 h30) ⟨(Nat.le_of_ble_eq_true rfl), (Nat.le_of_ble_eq_true rfl), (Nat.le_of_ble_eq_true rfl), (Nat.le_of_ble_eq_true rfl)⟩ 3 rfl rfl [3, 4, 5, 6, 7, 8, 9, 10, 11, 12] rfl rfl rfl (Up.of [0, 1, 2] [(a0, .inr (4, [.ref a1])), (a1, .inr (2, [.ref a2, .int (zi smn)])), (a2, zA cI 96 snu)] rfl rfl rfl 13 rfl (by decide +kernel)) rfl rfl (Nat.le_of_ble_eq_true rfl) ?_
      refine x_iflt (pc := 198) (tgt := 205) X d_Text_plays_198 rfl h (fun h => ?_) (fun h => ?_)
      · skip
        refine x_iconst (pc := 205) X d_Text_plays_205  ?_
        cases h
        exact x_zret (pc := 206) X hR d_Text_plays_206 (Or.inl rfl)
      · skip
        refine x_iconst (pc := 201) X d_Text_plays_201  ?_
        refine x_goto (pc := 202) (tgt := 206) X d_Text_plays_202 rfl ?_
        cases h
        exact x_zret (pc := 206) X hR d_Text_plays_206 (Or.inr rfl)
    obtain ⟨hz, h⟩ := ceq_e h
    rcases h with ⟨e3, h⟩ | ⟨n3, h⟩
    · refine x_lk (pc := 65) (tgt := 162) X d_Text_plays_65 hz.1 (by decide) (by rw [e3]; try rfl) rfl ?_
      refine x_iload (pc := 162) X d_Text_plays_162 1 rfl ?_
      refine x_iload (pc := 164) X d_Text_plays_164 0 rfl ?_
      obtain ⟨r31, h32, h⟩ := bnd_e h
      refine x_callS (pc := 166) (As := [.int (zi ((10 * r3) + r5)), .int (zi ((10 * r7) + r9))]) (rest := []) (w2 := (w_Text_Disk cI cB a0 a1 a2 a3 a4 a5 a6 a7 a8 a9 a10 a11 a12 smn snu qow qbt qki qpl qva qwr qrm qrs qrz)) X d_Text_plays_166 lk_Text_55 mv_Text_isSeries (c_Text_isSeries l D cI cB ((10 * r3) + r5) ((10 * r7) + r9) h32) ⟨(Nat.le_of_ble_eq_true rfl), (Nat.le_of_ble_eq_true rfl), (Nat.le_of_ble_eq_true rfl), (Nat.le_of_ble_eq_true rfl)⟩ [] rfl rfl rfl (Up.same rfl) rfl rfl (Nat.le_of_ble_eq_true rfl) ?_
      refine x_ifeq (pc := 169) (tgt := 188) X d_Text_plays_169 rfl h (fun h => ?_) (fun h => ?_)
      · skip
        refine x_iconst (pc := 188) X d_Text_plays_188  ?_
        cases h
        exact x_zret (pc := 189) X hR d_Text_plays_189 (Or.inl rfl)
      · skip
        refine x_aload_n (pc := 172) X d_Text_plays_172 4 rfl rfl ?_
        refine x_iload_n (pc := 173) X d_Text_plays_173 2 rfl rfl ?_
        refine x_iload (pc := 174) X d_Text_plays_174 1 rfl ?_
        refine x_iload (pc := 176) X d_Text_plays_176 0 rfl ?_
        obtain ⟨r33, h34, h⟩ := bnd_e h
        refine x_callV (pc := 178) (As := [.int (zi r1), .int (zi ((10 * r3) + r5)), .int (zi ((10 * r7) + r9))]) (rest := []) (w2 := (w_Text_Disk cI cB a0 a1 a2 a3 a4 a5 a6 a7 a8 a9 a10 a11 a12 smn snu r33.2.1 qbt qki r33.2.2.1 r33.2.2.2.1 r33.2.2.2.2 qrm qrs qrz)) X d_Text_plays_178 lk_Text_62 mv_Disk_punchOut (c_Disk_punchOut l D cI cB a3 a4 a5 a6 a7 a8 a9 a10 a11 a12 qow qbt qki qpl qva qwr qrm qrs qrz r1 ((10 * r3) + r5) ((10 * r7) + r9) h34) ⟨(Nat.le_of_ble_eq_true rfl), (Nat.le_of_ble_eq_true rfl), (Nat.le_of_ble_eq_true rfl), (Nat.le_of_ble_eq_true rfl)⟩ 3 rfl rfl [3, 4, 5, 6, 7, 8, 9, 10, 11, 12] rfl rfl rfl (Up.of [0, 1, 2] [(a0, .inr (4, [.ref a1])), (a1, .inr (2, [.ref a2, .int (zi smn)])), (a2, zA cI 96 snu)] rfl rfl rfl 13 rfl (by decide +kernel)) rfl rfl (Nat.le_of_ble_eq_true rfl) ?_
        refine x_iflt (pc := 181) (tgt := 188) X d_Text_plays_181 rfl h (fun h => ?_) (fun h => ?_)
        · skip
          refine x_iconst (pc := 188) X d_Text_plays_188  ?_
          cases h
          exact x_zret (pc := 189) X hR d_Text_plays_189 (Or.inl rfl)
        · skip
          refine x_iconst (pc := 184) X d_Text_plays_184  ?_
          refine x_goto (pc := 185) (tgt := 189) X d_Text_plays_185 rfl ?_
          cases h
          exact x_zret (pc := 189) X hR d_Text_plays_189 (Or.inr rfl)
    obtain ⟨hz, h⟩ := ceq_e h
    rcases h with ⟨e4, h⟩ | ⟨n4, h⟩
    · refine x_lk (pc := 65) (tgt := 207) X d_Text_plays_65 hz.1 (by decide) (by rw [e4]; try rfl) rfl ?_
      refine x_aload_n (pc := 207) X d_Text_plays_207 4 rfl rfl ?_
      refine x_iload_n (pc := 208) X d_Text_plays_208 2 rfl rfl ?_
      obtain ⟨r35, h36, h⟩ := bnd_e h
      refine x_callV (pc := 209) (As := [.int (zi r1)]) (rest := []) (w2 := (w_Text_Disk cI cB a0 a1 a2 a3 a4 a5 a6 a7 a8 a9 a10 a11 a12 smn snu r35.2.1 r35.2.2.1 qki r35.2.2.2.1 qva qwr r35.2.2.2.2.1 r35.2.2.2.2.2.1 r35.2.2.2.2.2.2)) X d_Text_plays_209 lk_Text_69 mv_Disk_settleDown (c_Disk_settleDown l D cI cB a3 a4 a5 a6 a7 a8 a9 a10 a11 a12 qow qbt qki qpl qva qwr qrm qrs qrz r1 h36) ⟨(Nat.le_of_ble_eq_true rfl), (Nat.le_of_ble_eq_true rfl), (Nat.le_of_ble_eq_true rfl), (Nat.le_of_ble_eq_true rfl)⟩ 3 rfl rfl [3, 4, 5, 6, 7, 8, 9, 10, 11, 12] rfl rfl rfl (Up.of [0, 1, 2] [(a0, .inr (4, [.ref a1])), (a1, .inr (2, [.ref a2, .int (zi smn)])), (a2, zA cI 96 snu)] rfl rfl rfl 13 rfl (by decide +kernel)) rfl rfl (Nat.le_of_ble_eq_true rfl) ?_
      refine x_iflt (pc := 212) (tgt := 219) X d_Text_plays_212 rfl h (fun h => ?_) (fun h => ?_)
      · skip
        refine x_iconst (pc := 219) X d_Text_plays_219  ?_
        cases h
        exact x_zret (pc := 220) X hR d_Text_plays_220 (Or.inl rfl)
      · skip
        refine x_iconst (pc := 215) X d_Text_plays_215  ?_
        refine x_goto (pc := 216) (tgt := 220) X d_Text_plays_216 rfl ?_
        cases h
        exact x_zret (pc := 220) X hR d_Text_plays_220 (Or.inr rfl)
    obtain ⟨hz, h⟩ := ceq_e h
    rcases h with ⟨e5, h⟩ | ⟨n5, h⟩
    · refine x_lk (pc := 65) (tgt := 124) X d_Text_plays_65 hz.1 (by decide) (by rw [e5]; try rfl) rfl ?_
      refine x_aload_n (pc := 124) X d_Text_plays_124 4 rfl rfl ?_
      refine x_iload_n (pc := 125) X d_Text_plays_125 2 rfl rfl ?_
      refine x_iload (pc := 126) X d_Text_plays_126 1 rfl ?_
      refine x_iload (pc := 128) X d_Text_plays_128 0 rfl ?_
      obtain ⟨r37, h38, h⟩ := bnd_e h
      refine x_callV (pc := 130) (As := [.int (zi r1), .int (zi ((10 * r3) + r5)), .int (zi ((10 * r7) + r9))]) (rest := []) (w2 := (w_Text_Disk cI cB a0 a1 a2 a3 a4 a5 a6 a7 a8 a9 a10 a11 a12 smn snu qow qbt qki qpl r37.2 qwr qrm qrs qrz)) X d_Text_plays_130 lk_Text_49 mv_Disk_sayAt (c_Disk_sayAt l D cI cB a3 a4 a5 a6 a7 a8 a9 a10 a11 a12 qow qbt qki qpl qva qwr qrm qrs qrz r1 ((10 * r3) + r5) ((10 * r7) + r9) h38) ⟨(Nat.le_of_ble_eq_true rfl), (Nat.le_of_ble_eq_true rfl), (Nat.le_of_ble_eq_true rfl), (Nat.le_of_ble_eq_true rfl)⟩ 3 rfl rfl [3, 4, 5, 6, 7, 8, 9, 10, 11, 12] rfl rfl rfl (Up.of [0, 1, 2] [(a0, .inr (4, [.ref a1])), (a1, .inr (2, [.ref a2, .int (zi smn)])), (a2, zA cI 96 snu)] rfl rfl rfl 13 rfl (by decide +kernel)) rfl rfl (Nat.le_of_ble_eq_true rfl) ?_
      obtain ⟨hz0, h⟩ := gd_e h
      cases h
      exact x_zret (pc := 133) X hR d_Text_plays_133 hz0
    refine x_lk (pc := 65) (off := 177) (tgt := 242) X d_Text_plays_65 hz.1 (by decide) (by rw [Op.lookupswitch.offset_cons, if_neg (fun e => n0 e.symm), Op.lookupswitch.offset_cons, if_neg (fun e => n1 e.symm), Op.lookupswitch.offset_cons, if_neg (fun e => n2 e.symm), Op.lookupswitch.offset_cons, if_neg (fun e => n3 e.symm), Op.lookupswitch.offset_cons, if_neg (fun e => n4 e.symm), Op.lookupswitch.offset_cons, if_neg (fun e => n5 e.symm)]; rfl) rfl ?_
    · skip
      refine x_aload_n (pc := 242) X d_Text_plays_242 4 rfl rfl ?_
      refine x_iload_n (pc := 243) X d_Text_plays_243 2 rfl rfl ?_
      refine x_aload_n (pc := 244) X d_Text_plays_244 3 rfl rfl ?_
      refine x_get (pc := 245) X d_Text_plays_245 0 rfl fl_Text_14 rfl ?_
      refine x_iload_n (pc := 248) X d_Text_plays_248 5 rfl rfl ?_
      refine x_iconst (pc := 249) X d_Text_plays_249  ?_
      refine x_iadd (pc := 250) X d_Text_plays_250  ?_
      obtain ⟨r15, h16, h⟩ := bnd_e h
      refine x_callV (pc := 251) (As := [.int (zi (x2 + 2))]) (rest := [.int (zi r1), .ref a3]) (w2 := (w_Text_Disk cI cB a0 a1 a2 a3 a4 a5 a6 a7 a8 a9 a10 a11 a12 smn snu qow qbt qki qpl qva qwr qrm qrs qrz)) X d_Text_plays_251 lk_Text_28 mv_Row_numberAt (c_Row_numberAt_W96 l D cI cB a1 a2 smn snu (x2 + 2) h16) ⟨(Nat.le_of_ble_eq_true rfl), (Nat.le_of_ble_eq_true rfl), (Nat.le_of_ble_eq_true rfl), (Nat.le_of_ble_eq_true rfl)⟩ 1 rfl rfl [1, 2] rfl rfl rfl (Up.same rfl) rfl rfl (Nat.le_of_ble_eq_true rfl) ?_
      obtain ⟨r17, h18, h⟩ := bnd_e h
      refine x_callS (pc := 254) (As := [.int (zi r15)]) (rest := [.int (zi r1), .ref a3]) (w2 := (w_Text_Disk cI cB a0 a1 a2 a3 a4 a5 a6 a7 a8 a9 a10 a11 a12 smn snu qow qbt qki qpl qva qwr qrm qrs qrz)) X d_Text_plays_254 lk_Text_35 mv_Text_kindOf (c_Text_kindOf l D cI cB r15 h18) ⟨(Nat.le_of_ble_eq_true rfl), (Nat.le_of_ble_eq_true rfl), (Nat.le_of_ble_eq_true rfl), (Nat.le_of_ble_eq_true rfl)⟩ [] rfl rfl rfl (Up.same rfl) rfl rfl (Nat.le_of_ble_eq_true rfl) ?_
      obtain ⟨r19, h20, h⟩ := bnd_e h
      refine x_callV (pc := 257) (As := [.int (zi r1), .int (zi r17)]) (rest := []) (w2 := (w_Text_Disk cI cB a0 a1 a2 a3 a4 a5 a6 a7 a8 a9 a10 a11 a12 smn snu qow qbt r19 qpl qva qwr qrm qrs qrz)) X d_Text_plays_257 lk_Text_76 mv_Disk_turnKind (c_Disk_turnKind l D cI cB a3 a4 a5 a6 a7 a8 a9 a10 a11 a12 qow qbt qki qpl qva qwr qrm qrs qrz r1 r17 h20) ⟨(Nat.le_of_ble_eq_true rfl), (Nat.le_of_ble_eq_true rfl), (Nat.le_of_ble_eq_true rfl), (Nat.le_of_ble_eq_true rfl)⟩ 3 rfl rfl [3, 4, 5, 6, 7, 8, 9, 10, 11, 12] rfl rfl rfl (Up.of [0, 1, 2] [(a0, .inr (4, [.ref a1])), (a1, .inr (2, [.ref a2, .int (zi smn)])), (a2, zA cI 96 snu)] rfl rfl rfl 13 rfl (by decide +kernel)) rfl rfl (Nat.le_of_ble_eq_true rfl) ?_
      refine x_iconst (pc := 260) X d_Text_plays_260  ?_
      cases h
      exact x_zret (pc := 261) X hR d_Text_plays_261 (Or.inr rfl)
  · skip
    refine x_iconst (pc := 55) X d_Text_plays_55  ?_
    cases h
    exact x_zret (pc := 56) X hR d_Text_plays_56 (Or.inl rfl)
theorem d_Text_playOn_0 : decode b_Text_playOn 0 = .ok (.iconst 0, 1) := by decide +kernel
theorem d_Text_playOn_1 : decode b_Text_playOn 1 = .ok (.istore_n 2, 1) := by decide +kernel
theorem d_Text_playOn_2 : decode b_Text_playOn 2 = .ok (.iconst 0, 1) := by decide +kernel
theorem d_Text_playOn_3 : decode b_Text_playOn 3 = .ok (.istore_n 3, 1) := by decide +kernel
theorem d_Text_playOn_4 : decode b_Text_playOn 4 = .ok (.iconst 0, 1) := by decide +kernel
theorem d_Text_playOn_5 : decode b_Text_playOn 5 = .ok (.istore 4, 2) := by decide +kernel
theorem d_Text_playOn_7 : decode b_Text_playOn 7 = .ok (.iload 4, 2) := by decide +kernel
theorem d_Text_playOn_9 : decode b_Text_playOn 9 = .ok (.aload_n 0, 1) := by decide +kernel
theorem d_Text_playOn_10 : decode b_Text_playOn 10 = .ok (.getfield 14, 3) := by decide +kernel
theorem d_Text_playOn_13 : decode b_Text_playOn 13 = .ok (.getfield 20, 3) := by decide +kernel
theorem d_Text_playOn_16 : decode b_Text_playOn 16 = .ok (.if_icmp .ge 46, 3) := by decide +kernel
theorem d_Text_playOn_19 : decode b_Text_playOn 19 = .ok (.aload_n 0, 1) := by decide +kernel
theorem d_Text_playOn_20 : decode b_Text_playOn 20 = .ok (.getfield 14, 3) := by decide +kernel
theorem d_Text_playOn_23 : decode b_Text_playOn 23 = .ok (.iload 4, 2) := by decide +kernel
theorem d_Text_playOn_25 : decode b_Text_playOn 25 = .ok (.invokevirtual 28, 3) := by decide +kernel
theorem d_Text_playOn_28 : decode b_Text_playOn 28 = .ok (.bipush 59, 2) := by decide +kernel
theorem d_Text_playOn_30 : decode b_Text_playOn 30 = .ok (.if_icmp .ne 26, 3) := by decide +kernel
theorem d_Text_playOn_33 : decode b_Text_playOn 33 = .ok (.aload_n 0, 1) := by decide +kernel
theorem d_Text_playOn_34 : decode b_Text_playOn 34 = .ok (.aload_n 1, 1) := by decide +kernel
theorem d_Text_playOn_35 : decode b_Text_playOn 35 = .ok (.iload_n 2, 1) := by decide +kernel
theorem d_Text_playOn_36 : decode b_Text_playOn 36 = .ok (.invokevirtual 38, 3) := by decide +kernel
theorem d_Text_playOn_39 : decode b_Text_playOn 39 = .ok (.ifCond .ne 9, 3) := by decide +kernel
theorem d_Text_playOn_42 : decode b_Text_playOn 42 = .ok (.sipush (-2000), 3) := by decide +kernel
theorem d_Text_playOn_45 : decode b_Text_playOn 45 = .ok (.iload_n 2, 1) := by decide +kernel
theorem d_Text_playOn_46 : decode b_Text_playOn 46 = .ok (.isub, 1) := by decide +kernel
theorem d_Text_playOn_47 : decode b_Text_playOn 47 = .ok (.ireturn, 1) := by decide +kernel
theorem d_Text_playOn_48 : decode b_Text_playOn 48 = .ok (.iinc 3 1, 3) := by decide +kernel
theorem d_Text_playOn_51 : decode b_Text_playOn 51 = .ok (.iload 4, 2) := by decide +kernel
theorem d_Text_playOn_53 : decode b_Text_playOn 53 = .ok (.iconst 1, 1) := by decide +kernel
theorem d_Text_playOn_54 : decode b_Text_playOn 54 = .ok (.iadd, 1) := by decide +kernel
theorem d_Text_playOn_55 : decode b_Text_playOn 55 = .ok (.istore_n 2, 1) := by decide +kernel
theorem d_Text_playOn_56 : decode b_Text_playOn 56 = .ok (.iinc 4 1, 3) := by decide +kernel
theorem d_Text_playOn_59 : decode b_Text_playOn 59 = .ok (.goto (-52), 3) := by decide +kernel
theorem d_Text_playOn_62 : decode b_Text_playOn 62 = .ok (.iload_n 3, 1) := by decide +kernel
theorem d_Text_playOn_63 : decode b_Text_playOn 63 = .ok (.ireturn, 1) := by decide +kernel
def m_Text_playOn_7 : Nat → Int → Int → Int → Int → (Int → Int) → (Int → Int) → (Int → Int) → (Int → Int) → (Int → Int) → (Int → Int) → (Int → Int) → Int → (Int → Int) → (Int → Int) → Option (Int × (Int → Int) × (Int → Int) × (Int → Int) × (Int → Int) × (Int → Int) × (Int → Int) × Int × (Int → Int) × (Int → Int))
  | 0, _, _, _, _, _, _, _, _, _, _, _, _, _, _ => none
  | fuel + 1, v2, v3, v4, smn, snu, qow, qbt, qki, qpl, qva, qwr, qrm, qrs, qrz =>
  clt v4 smn (bnd (m_Row_numberAt_W96 v4 smn snu) (fun r1 => ceq r1 59 (bnd (m_Text_plays v2 smn snu qow qbt qki qpl qva qwr qrm qrs qrz) (fun r3 => ceq r3.1 0 (some (((-2000) - v2), r3.2.1, r3.2.2.1, r3.2.2.2.1, r3.2.2.2.2.1, r3.2.2.2.2.2.1, r3.2.2.2.2.2.2.1, r3.2.2.2.2.2.2.2.1, r3.2.2.2.2.2.2.2.2.1, r3.2.2.2.2.2.2.2.2.2)) (m_Text_playOn_7 fuel (v4 + 1) (v3 + 1) (v4 + 1) smn snu r3.2.1 r3.2.2.1 r3.2.2.2.1 r3.2.2.2.2.1 r3.2.2.2.2.2.1 r3.2.2.2.2.2.2.1 r3.2.2.2.2.2.2.2.1 r3.2.2.2.2.2.2.2.2.1 r3.2.2.2.2.2.2.2.2.2))) (m_Text_playOn_7 fuel v2 v3 (v4 + 1) smn snu qow qbt qki qpl qva qwr qrm qrs qrz))) (some (v3, qow, qbt, qki, qpl, qva, qwr, qrm, qrs, qrz))
def m_Text_playOn  (smn : Int) (snu : Int → Int) (qow : Int → Int) (qbt : Int → Int) (qki : Int → Int) (qpl : Int → Int) (qva : Int → Int) (qwr : Int → Int) (qrm : Int) (qrs : Int → Int) (qrz : Int → Int) : Option (Int × (Int → Int) × (Int → Int) × (Int → Int) × (Int → Int) × (Int → Int) × (Int → Int) × Int × (Int → Int) × (Int → Int)) :=
  m_Text_playOn_7 5000 0 0 0 smn snu qow qbt qki qpl qva qwr qrm qrs qrz
set_option maxHeartbeats 4000000 in
set_option maxRecDepth 100000 in
theorem l_Text_playOn_7 {G : GT} {l : Launch} {D : va_G} {cI cB : ClassId} {a0 a1 a2 a3 a4 a5 a6 a7 a8 a9 a10 a11 a12 : Nat}  (X : Cx G l D cI cB b_Text_playOn y_Text_playOn.cls 5 { frames := 5, cells := 0, slots := 0, locals := 129 }) : ∀ (fuel : Nat) (v2 : Int) (v3 : Int) (v4 : Int) (smn : Int) (snu : Int → Int) (qow : Int → Int) (qbt : Int → Int) (qki : Int → Int) (qpl : Int → Int) (qva : Int → Int) (qwr : Int → Int) (qrm : Int) (qrs : Int → Int) (qrz : Int → Int) (o : Int × (Int → Int) × (Int → Int) × (Int → Int) × (Int → Int) × (Int → Int) × (Int → Int) × Int × (Int → Int) × (Int → Int)), m_Text_playOn_7 fuel v2 v3 v4 smn snu qow qbt qki qpl qva qwr qrm qrs qrz = some o → Rt G (some .int) (some (.int (zi o.1))) (w_Text_Disk cI cB a0 a1 a2 a3 a4 a5 a6 a7 a8 a9 a10 a11 a12 smn snu o.2.1 o.2.2.1 o.2.2.2.1 o.2.2.2.2.1 o.2.2.2.2.2.1 o.2.2.2.2.2.2.1 o.2.2.2.2.2.2.2.1 o.2.2.2.2.2.2.2.2.1 o.2.2.2.2.2.2.2.2.2) → Wx G 0 0 7 [(0, .ref a0), (1, .ref a3), (2, .int (zi v2)), (3, .int (zi v3)), (4, .int (zi v4))] [] (w_Text_Disk cI cB a0 a1 a2 a3 a4 a5 a6 a7 a8 a9 a10 a11 a12 smn snu qow qbt qki qpl qva qwr qrm qrs qrz) := by
  intro fuel
  induction fuel with
  | zero =>
    intro v2 v3 v4 smn snu qow qbt qki qpl qva qwr qrm qrs qrz o h
    exact absurd h (by simp [m_Text_playOn_7])
  | succ fuel ih =>
    intro v2 v3 v4 smn snu qow qbt qki qpl qva qwr qrm qrs qrz o h hR
    rw [m_Text_playOn_7] at h
    refine x_iload (pc := 7) X d_Text_playOn_7 4 rfl ?_
    refine x_aload_n (pc := 9) X d_Text_playOn_9 0 rfl rfl ?_
    refine x_get (pc := 10) X d_Text_playOn_10 0 rfl fl_Text_14 rfl ?_
    refine x_get (pc := 13) X d_Text_playOn_13 1 rfl fl_Text_20 rfl ?_
    refine x_icmpge (pc := 16) (tgt := 62) X d_Text_playOn_16 rfl h (fun h => ?_) (fun h => ?_)
    · skip
      refine x_iload_n (pc := 62) X d_Text_playOn_62 3 rfl rfl ?_
      cases h
      exact x_iret (pc := 63) X hR d_Text_playOn_63
    · skip
      refine x_aload_n (pc := 19) X d_Text_playOn_19 0 rfl rfl ?_
      refine x_get (pc := 20) X d_Text_playOn_20 0 rfl fl_Text_14 rfl ?_
      refine x_iload (pc := 23) X d_Text_playOn_23 4 rfl ?_
      obtain ⟨r1, h2, h⟩ := bnd_e h
      refine x_callV (pc := 25) (As := [.int (zi v4)]) (rest := []) (w2 := (w_Text_Disk cI cB a0 a1 a2 a3 a4 a5 a6 a7 a8 a9 a10 a11 a12 smn snu qow qbt qki qpl qva qwr qrm qrs qrz)) X d_Text_playOn_25 lk_Text_28 mv_Row_numberAt (c_Row_numberAt_W96 l D cI cB a1 a2 smn snu v4 h2) ⟨(Nat.le_of_ble_eq_true rfl), (Nat.le_of_ble_eq_true rfl), (Nat.le_of_ble_eq_true rfl), (Nat.le_of_ble_eq_true rfl)⟩ 1 rfl rfl [1, 2] rfl rfl rfl (Up.same rfl) rfl rfl (Nat.le_of_ble_eq_true rfl) ?_
      refine x_bipush (pc := 28) (v := 59) X d_Text_playOn_28 rfl ?_
      refine x_icmpne (pc := 30) (tgt := 56) X d_Text_playOn_30 rfl h (fun h => ?_) (fun h => ?_)
      · skip
        refine x_iinc (pc := 56) (ls2 := [(4, .int (zi (v4 + 1))), (0, .ref a0), (1, .ref a3), (2, .int (zi v2)), (3, .int (zi v3))]) X d_Text_playOn_56 4 (Nat.le_of_ble_eq_true rfl) rfl rfl ?_
        refine x_goto (pc := 59) (tgt := 7) X d_Text_playOn_59 rfl ?_
        refine x_ls (ls2 := [(0, .ref a0), (1, .ref a3), (2, .int (zi v2)), (3, .int (zi v3)), (4, .int (zi (v4 + 1)))]) [1, 2, 3, 4, 0] rfl ?_
        exact ih v2 v3 (v4 + 1) smn snu qow qbt qki qpl qva qwr qrm qrs qrz o h hR
      · skip
        refine x_aload_n (pc := 33) X d_Text_playOn_33 0 rfl rfl ?_
        refine x_aload_n (pc := 34) X d_Text_playOn_34 1 rfl rfl ?_
        refine x_iload_n (pc := 35) X d_Text_playOn_35 2 rfl rfl ?_
        obtain ⟨r3, h4, h⟩ := bnd_e h
        refine x_callV (pc := 36) (As := [.ref a3, .int (zi v2)]) (rest := []) (w2 := (w_Text_Disk cI cB a0 a1 a2 a3 a4 a5 a6 a7 a8 a9 a10 a11 a12 smn snu r3.2.1 r3.2.2.1 r3.2.2.2.1 r3.2.2.2.2.1 r3.2.2.2.2.2.1 r3.2.2.2.2.2.2.1 r3.2.2.2.2.2.2.2.1 r3.2.2.2.2.2.2.2.2.1 r3.2.2.2.2.2.2.2.2.2)) X d_Text_playOn_36 lk_Text_38 mv_Text_plays (c_Text_plays l D cI cB a0 a1 a2 a3 a4 a5 a6 a7 a8 a9 a10 a11 a12 smn snu qow qbt qki qpl qva qwr qrm qrs qrz v2 h4) ⟨(Nat.le_of_ble_eq_true rfl), (Nat.le_of_ble_eq_true rfl), (Nat.le_of_ble_eq_true rfl), (Nat.le_of_ble_eq_true rfl)⟩ 0 rfl rfl [0, 1, 2, 3, 4, 5, 6, 7, 8, 9, 10, 11, 12] rfl rfl rfl (Up.of [] [] rfl rfl rfl 13 rfl (by decide +kernel)) rfl rfl (Nat.le_of_ble_eq_true rfl) ?_
        refine x_ifne (pc := 39) (tgt := 48) X d_Text_playOn_39 rfl h (fun h => ?_) (fun h => ?_)
        · skip
          refine x_iinc (pc := 48) (ls2 := [(3, .int (zi (v3 + 1))), (0, .ref a0), (1, .ref a3), (2, .int (zi v2)), (4, .int (zi v4))]) X d_Text_playOn_48 3 (Nat.le_of_ble_eq_true rfl) rfl rfl ?_
          refine x_iload (pc := 51) X d_Text_playOn_51 4 rfl ?_
          refine x_iconst (pc := 53) X d_Text_playOn_53  ?_
          refine x_iadd (pc := 54) X d_Text_playOn_54  ?_
          refine x_istore_n (pc := 55) (ls2 := [(2, .int (zi (v4 + 1))), (3, .int (zi (v3 + 1))), (0, .ref a0), (1, .ref a3), (4, .int (zi v4))]) X d_Text_playOn_55 rfl (Nat.le_of_ble_eq_true rfl) rfl ?_
          refine x_iinc (pc := 56) (ls2 := [(4, .int (zi (v4 + 1))), (2, .int (zi (v4 + 1))), (3, .int (zi (v3 + 1))), (0, .ref a0), (1, .ref a3)]) X d_Text_playOn_56 4 (Nat.le_of_ble_eq_true rfl) rfl rfl ?_
          refine x_goto (pc := 59) (tgt := 7) X d_Text_playOn_59 rfl ?_
          refine x_ls (ls2 := [(0, .ref a0), (1, .ref a3), (2, .int (zi (v4 + 1))), (3, .int (zi (v3 + 1))), (4, .int (zi (v4 + 1)))]) [3, 4, 1, 2, 0] rfl ?_
          exact ih (v4 + 1) (v3 + 1) (v4 + 1) smn snu r3.2.1 r3.2.2.1 r3.2.2.2.1 r3.2.2.2.2.1 r3.2.2.2.2.2.1 r3.2.2.2.2.2.2.1 r3.2.2.2.2.2.2.2.1 r3.2.2.2.2.2.2.2.2.1 r3.2.2.2.2.2.2.2.2.2 o h hR
        · skip
          refine x_sipush (pc := 42) (v := -2000) X d_Text_playOn_42 (by decide +kernel) ?_
          refine x_iload_n (pc := 45) X d_Text_playOn_45 2 rfl rfl ?_
          refine x_isub (pc := 46) X d_Text_playOn_46  ?_
          cases h
          exact x_iret (pc := 47) X hR d_Text_playOn_47
set_option maxHeartbeats 4000000 in
set_option maxRecDepth 100000 in
theorem c_Text_playOn (l : Launch) (D : va_G) (cI cB : ClassId) (a0 a1 a2 a3 a4 a5 a6 a7 a8 a9 a10 a11 a12 : Nat) (smn : Int) (snu : Int → Int) (qow : Int → Int) (qbt : Int → Int) (qki : Int → Int) (qpl : Int → Int) (qva : Int → Int) (qwr : Int → Int) (qrm : Int) (qrs : Int → Int) (qrz : Int → Int)  {o : Int × (Int → Int) × (Int → Int) × (Int → Int) × (Int → Int) × (Int → Int) × (Int → Int) × Int × (Int → Int) × (Int → Int)} (h : m_Text_playOn smn snu qow qbt qki qpl qva qwr qrm qrs qrz = some o) : Ct l D cI cB y_Text_playOn b_Text_playOn 5 (some .int) { frames := 5, cells := 0, slots := 0, locals := 129 } [.ref a0, .ref a3] (w_Text_Disk cI cB a0 a1 a2 a3 a4 a5 a6 a7 a8 a9 a10 a11 a12 smn snu qow qbt qki qpl qva qwr qrm qrs qrz) (w_Text_Disk cI cB a0 a1 a2 a3 a4 a5 a6 a7 a8 a9 a10 a11 a12 smn snu o.2.1 o.2.2.1 o.2.2.2.1 o.2.2.2.2.1 o.2.2.2.2.2.1 o.2.2.2.2.2.2.1 o.2.2.2.2.2.2.2.1 o.2.2.2.2.2.2.2.2.1 o.2.2.2.2.2.2.2.2.2) (some (.int (zi o.1))) := by
  refine Ct.start (by decide) (Nat.le_of_ble_eq_true rfl) (fun G X hR => ?_)
  refine x_ls (ls2 := [(0, .ref a0), (1, .ref a3)]) [0, 1] rfl ?_
  unfold m_Text_playOn at h
  refine x_iconst (pc := 0) X d_Text_playOn_0  ?_
  refine x_istore_n (pc := 1) (ls2 := [(2, .int (zi 0)), (0, .ref a0), (1, .ref a3)]) X d_Text_playOn_1 rfl (Nat.le_of_ble_eq_true rfl) rfl ?_
  refine x_iconst (pc := 2) X d_Text_playOn_2  ?_
  refine x_istore_n (pc := 3) (ls2 := [(3, .int (zi 0)), (2, .int (zi 0)), (0, .ref a0), (1, .ref a3)]) X d_Text_playOn_3 rfl (Nat.le_of_ble_eq_true rfl) rfl ?_
  refine x_iconst (pc := 4) X d_Text_playOn_4  ?_
  refine x_istore (pc := 5) (ls2 := [(4, .int (zi 0)), (3, .int (zi 0)), (2, .int (zi 0)), (0, .ref a0), (1, .ref a3)]) X d_Text_playOn_5 (Nat.le_of_ble_eq_true rfl) rfl ?_
  refine x_ls (ls2 := [(0, .ref a0), (1, .ref a3), (2, .int (zi 0)), (3, .int (zi 0)), (4, .int (zi 0))]) [3, 4, 2, 1, 0] rfl ?_
  exact l_Text_playOn_7 X 5000 0 0 0 smn snu qow qbt qki qpl qva qwr qrm qrs qrz o h hR
