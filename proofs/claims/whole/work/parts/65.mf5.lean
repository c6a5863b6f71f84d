theorem d_Mod_forged_0 : decode b_Mod_forged 0 = .ok (.aload_n 0, 1) := by decide +kernel
theorem d_Mod_forged_1 : decode b_Mod_forged 1 = .ok (.getfield 349, 3) := by decide +kernel
theorem d_Mod_forged_4 : decode b_Mod_forged 4 = .ok (.iconst 2, 1) := by decide +kernel
theorem d_Mod_forged_5 : decode b_Mod_forged 5 = .ok (.irem, 1) := by decide +kernel
theorem d_Mod_forged_6 : decode b_Mod_forged 6 = .ok (.iconst 1, 1) := by decide +kernel
theorem d_Mod_forged_7 : decode b_Mod_forged 7 = .ok (.if_icmp .ne 10, 3) := by decide +kernel
theorem d_Mod_forged_10 : decode b_Mod_forged 10 = .ok (.aload_n 0, 1) := by decide +kernel
theorem d_Mod_forged_11 : decode b_Mod_forged 11 = .ok (.bipush (-3), 2) := by decide +kernel
theorem d_Mod_forged_13 : decode b_Mod_forged 13 = .ok (.invokevirtual 172, 3) := by decide +kernel
theorem d_Mod_forged_16 : decode b_Mod_forged 16 = .ok (.ireturn, 1) := by decide +kernel
theorem d_Mod_forged_17 : decode b_Mod_forged 17 = .ok (.aload_n 0, 1) := by decide +kernel
theorem d_Mod_forged_18 : decode b_Mod_forged 18 = .ok (.getfield 349, 3) := by decide +kernel
theorem d_Mod_forged_21 : decode b_Mod_forged 21 = .ok (.iconst 2, 1) := by decide +kernel
theorem d_Mod_forged_22 : decode b_Mod_forged 22 = .ok (.idiv, 1) := by decide +kernel
theorem d_Mod_forged_23 : decode b_Mod_forged 23 = .ok (.istore_n 1, 1) := by decide +kernel
theorem d_Mod_forged_24 : decode b_Mod_forged 24 = .ok (.aload_n 0, 1) := by decide +kernel
theorem d_Mod_forged_25 : decode b_Mod_forged 25 = .ok (.iconst 0, 1) := by decide +kernel
theorem d_Mod_forged_26 : decode b_Mod_forged 26 = .ok (.putfield 349, 3) := by decide +kernel
theorem d_Mod_forged_29 : decode b_Mod_forged 29 = .ok (.iconst 0, 1) := by decide +kernel
theorem d_Mod_forged_30 : decode b_Mod_forged 30 = .ok (.istore_n 2, 1) := by decide +kernel
theorem d_Mod_forged_31 : decode b_Mod_forged 31 = .ok (.iconst 0, 1) := by decide +kernel
theorem d_Mod_forged_32 : decode b_Mod_forged 32 = .ok (.istore_n 3, 1) := by decide +kernel
theorem d_Mod_forged_33 : decode b_Mod_forged 33 = .ok (.iload_n 3, 1) := by decide +kernel
theorem d_Mod_forged_34 : decode b_Mod_forged 34 = .ok (.bipush 64, 2) := by decide +kernel
theorem d_Mod_forged_36 : decode b_Mod_forged 36 = .ok (.if_icmp .ge 60, 3) := by decide +kernel
theorem d_Mod_forged_39 : decode b_Mod_forged 39 = .ok (.aload_n 0, 1) := by decide +kernel
theorem d_Mod_forged_40 : decode b_Mod_forged 40 = .ok (.iload_n 3, 1) := by decide +kernel
theorem d_Mod_forged_41 : decode b_Mod_forged 41 = .ok (.invokevirtual 86, 3) := by decide +kernel
theorem d_Mod_forged_44 : decode b_Mod_forged 44 = .ok (.ifCond .ne 6, 3) := by decide +kernel
theorem d_Mod_forged_47 : decode b_Mod_forged 47 = .ok (.goto 43, 3) := by decide +kernel
theorem d_Mod_forged_50 : decode b_Mod_forged 50 = .ok (.iload_n 2, 1) := by decide +kernel
theorem d_Mod_forged_51 : decode b_Mod_forged 51 = .ok (.iload_n 1, 1) := by decide +kernel
theorem d_Mod_forged_52 : decode b_Mod_forged 52 = .ok (.if_icmp .eq 33, 3) := by decide +kernel
theorem d_Mod_forged_55 : decode b_Mod_forged 55 = .ok (.aload_n 0, 1) := by decide +kernel
theorem d_Mod_forged_56 : decode b_Mod_forged 56 = .ok (.getfield 52, 3) := by decide +kernel
theorem d_Mod_forged_59 : decode b_Mod_forged 59 = .ok (.iconst 2, 1) := by decide +kernel
theorem d_Mod_forged_60 : decode b_Mod_forged 60 = .ok (.iload_n 2, 1) := by decide +kernel
theorem d_Mod_forged_61 : decode b_Mod_forged 61 = .ok (.imul, 1) := by decide +kernel
theorem d_Mod_forged_62 : decode b_Mod_forged 62 = .ok (.iaload, 1) := by decide +kernel
theorem d_Mod_forged_63 : decode b_Mod_forged 63 = .ok (.iload_n 3, 1) := by decide +kernel
theorem d_Mod_forged_64 : decode b_Mod_forged 64 = .ok (.if_icmp .ne 21, 3) := by decide +kernel
theorem d_Mod_forged_67 : decode b_Mod_forged 67 = .ok (.aload_n 0, 1) := by decide +kernel
theorem d_Mod_forged_68 : decode b_Mod_forged 68 = .ok (.getfield 52, 3) := by decide +kernel
theorem d_Mod_forged_71 : decode b_Mod_forged 71 = .ok (.iconst 2, 1) := by decide +kernel
theorem d_Mod_forged_72 : decode b_Mod_forged 72 = .ok (.iload_n 2, 1) := by decide +kernel
theorem d_Mod_forged_73 : decode b_Mod_forged 73 = .ok (.imul, 1) := by decide +kernel
theorem d_Mod_forged_74 : decode b_Mod_forged 74 = .ok (.iconst 1, 1) := by decide +kernel
theorem d_Mod_forged_75 : decode b_Mod_forged 75 = .ok (.iadd, 1) := by decide +kernel
theorem d_Mod_forged_76 : decode b_Mod_forged 76 = .ok (.iaload, 1) := by decide +kernel
theorem d_Mod_forged_77 : decode b_Mod_forged 77 = .ok (.aload_n 0, 1) := by decide +kernel
theorem d_Mod_forged_78 : decode b_Mod_forged 78 = .ok (.iload_n 3, 1) := by decide +kernel
theorem d_Mod_forged_79 : decode b_Mod_forged 79 = .ok (.invokevirtual 89, 3) := by decide +kernel
theorem d_Mod_forged_82 : decode b_Mod_forged 82 = .ok (.if_icmp .eq 5, 3) := by decide +kernel
theorem d_Mod_forged_85 : decode b_Mod_forged 85 = .ok (.iload_n 2, 1) := by decide +kernel
theorem d_Mod_forged_86 : decode b_Mod_forged 86 = .ok (.ireturn, 1) := by decide +kernel
theorem d_Mod_forged_87 : decode b_Mod_forged 87 = .ok (.iinc 2 1, 3) := by decide +kernel
theorem d_Mod_forged_90 : decode b_Mod_forged 90 = .ok (.iinc 3 1, 3) := by decide +kernel
theorem d_Mod_forged_93 : decode b_Mod_forged 93 = .ok (.goto (-60), 3) := by decide +kernel
theorem d_Mod_forged_96 : decode b_Mod_forged 96 = .ok (.iload_n 2, 1) := by decide +kernel
theorem d_Mod_forged_97 : decode b_Mod_forged 97 = .ok (.iload_n 1, 1) := by decide +kernel
theorem d_Mod_forged_98 : decode b_Mod_forged 98 = .ok (.if_icmp .ge 7, 3) := by decide +kernel
theorem d_Mod_forged_101 : decode b_Mod_forged 101 = .ok (.iload_n 2, 1) := by decide +kernel
theorem d_Mod_forged_102 : decode b_Mod_forged 102 = .ok (.goto 5, 3) := by decide +kernel
theorem d_Mod_forged_105 : decode b_Mod_forged 105 = .ok (.bipush (-9), 2) := by decide +kernel
theorem d_Mod_forged_107 : decode b_Mod_forged 107 = .ok (.ireturn, 1) := by decide +kernel
def m_Mod_forged_33 : Nat → Int → Int → Int → Int → (Int → Int) → (Int → Int) → (Int → Int) → Option (Int × Int × (Int → Int))
  | 0, _, _, _, _, _, _, _ => none
  | fuel + 1, v1, v2, v3, m_rowMany, m_refused, m_owner, m_row =>
  clt v3 64 (bnd (m_Mod_beginsRun v3 m_owner) (fun r1 => ceq r1 0 (m_Mod_forged_33 fuel v1 v2 (v3 + 1) m_rowMany m_refused m_owner m_row) (ceq v2 v1 (some (v2, m_rowMany, m_refused)) (gd (zx (2 * v2) 32) (ceq (m_row (2 * v2)) v3 (gd (zx ((2 * v2) + 1) 32) (bnd (m_Mod_runSize v3 m_owner) (fun r3 => ceq (m_row ((2 * v2) + 1)) r3 (m_Mod_forged_33 fuel v1 (v2 + 1) (v3 + 1) m_rowMany m_refused m_owner m_row) (some (v2, m_rowMany, m_refused))))) (some (v2, m_rowMany, m_refused))))))) (clt v2 v1 (some (v2, m_rowMany, m_refused)) (some ((-9), m_rowMany, m_refused)))
def m_Mod_forged  (m_rowMany : Int) (m_refused : Int → Int) (m_owner : Int → Int) (m_row : Int → Int) : Option (Int × Int × (Int → Int)) :=
  gd (zx m_rowMany 2147483648 ∧ zp 2 2147483648) (ceq (m_rowMany % 2) 1 (bnd (m_Mod_no (-3) m_refused) (fun r5 => some (r5.1, m_rowMany, r5.2))) (gd (zx m_rowMany 2147483648 ∧ zp 2 2147483648) (m_Mod_forged_33 5000 (m_rowMany / 2) 0 0 0 m_refused m_owner m_row)))
set_option maxHeartbeats 4000000 in
set_option maxRecDepth 100000 in
theorem l_Mod_forged_33 {G : GT} {l : Launch} {D : va_G} {cI cB : ClassId} {a0 a1 a2 a3 a4 a5 a6 a7 a8 a9 a10 a11 a12 a13 a14 a15 : Nat} {m_stepsMade : Int} {m_stepsMost : Int} {m_taped : Int} {m_reading : Int} {m_statements : Int} {m_telling : Int} {m_hasImage : Int} {m_isKeeping : Int} {m_cursor : Int} {m_lots : Int} {m_bytes : Int → Int} {m_block : Int → Int} {m_written : Int → Int} {m_waits : Int → Int} {m_kinds : Int → Int} {m_tape : Int → Int} {m_sort : Int → Int} {m_sortAt : Int → Int} {m_told : Int → Int} {m_kept : Int → Int} {m_was : Int → Int} {m_ends : Int → Int} (X : Cx G l D cI cB b_Mod_forged y_Mod_forged.cls 4 { frames := 1, cells := 0, slots := 0, locals := 22 }) : ∀ (fuel : Nat) (v1 : Int) (v2 : Int) (v3 : Int) (m_rowMany : Int) (m_refused : Int → Int) (m_owner : Int → Int) (m_row : Int → Int) (o : Int × Int × (Int → Int)), m_Mod_forged_33 fuel v1 v2 v3 m_rowMany m_refused m_owner m_row = some o → Rt G (some .int) (some (.int (zi o.1))) (w_Mod cI cB a0 a1 a2 a3 a4 a5 a6 a7 a8 a9 a10 a11 a12 a13 a14 a15 m_stepsMade m_stepsMost m_taped m_reading m_statements m_telling m_hasImage m_isKeeping m_cursor o.2.1 m_lots o.2.2 m_bytes m_owner m_block m_written m_waits m_kinds m_tape m_sort m_sortAt m_told m_kept m_was m_ends m_row) → Wx G 0 0 33 [(0, .ref a0), (1, .int (zi v1)), (2, .int (zi v2)), (3, .int (zi v3))] [] (w_Mod cI cB a0 a1 a2 a3 a4 a5 a6 a7 a8 a9 a10 a11 a12 a13 a14 a15 m_stepsMade m_stepsMost m_taped m_reading m_statements m_telling m_hasImage m_isKeeping m_cursor m_rowMany m_lots m_refused m_bytes m_owner m_block m_written m_waits m_kinds m_tape m_sort m_sortAt m_told m_kept m_was m_ends m_row) := by
  intro fuel
  induction fuel with
  | zero =>
    intro v1 v2 v3 m_rowMany m_refused m_owner m_row o h
    exact absurd h (by simp [m_Mod_forged_33])
  | succ fuel ih =>
    intro v1 v2 v3 m_rowMany m_refused m_owner m_row o h hR
    rw [m_Mod_forged_33] at h
    refine x_iload_n (pc := 33) X d_Mod_forged_33 3 rfl rfl ?_
    refine x_bipush (pc := 34) (v := 64) X d_Mod_forged_34 rfl ?_
    refine x_icmpge (pc := 36) (tgt := 96) X d_Mod_forged_36 rfl h (fun h => ?_) (fun h => ?_)
    · skip
      refine x_iload_n (pc := 96) X d_Mod_forged_96 2 rfl rfl ?_
      refine x_iload_n (pc := 97) X d_Mod_forged_97 1 rfl rfl ?_
      refine x_icmpge (pc := 98) (tgt := 105) X d_Mod_forged_98 rfl h (fun h => ?_) (fun h => ?_)
      · skip
        refine x_bipush (pc := 105) (v := -9) X d_Mod_forged_105 rfl ?_
        cases h
        exact x_iret (pc := 107) X hR d_Mod_forged_107
      · skip
        refine x_iload_n (pc := 101) X d_Mod_forged_101 2 rfl rfl ?_
        refine x_goto (pc := 102) (tgt := 107) X d_Mod_forged_102 rfl ?_
        cases h
        exact x_iret (pc := 107) X hR d_Mod_forged_107
    · skip
      refine x_aload_n (pc := 39) X d_Mod_forged_39 0 rfl rfl ?_
      refine x_iload_n (pc := 40) X d_Mod_forged_40 3 rfl rfl ?_
      obtain ⟨r1, h2, h⟩ := bnd_e h
      refine x_callV (pc := 41) (As := [.int (zi v3)]) (rest := []) (w2 := (w_Mod cI cB a0 a1 a2 a3 a4 a5 a6 a7 a8 a9 a10 a11 a12 a13 a14 a15 m_stepsMade m_stepsMost m_taped m_reading m_statements m_telling m_hasImage m_isKeeping m_cursor m_rowMany m_lots m_refused m_bytes m_owner m_block m_written m_waits m_kinds m_tape m_sort m_sortAt m_told m_kept m_was m_ends m_row)) X d_Mod_forged_41 lk_Mod_86 mv_Mod_beginsRun (c_Mod_beginsRun l D cI cB a0 a1 a2 a3 a4 a5 a6 a7 a8 a9 a10 a11 a12 a13 a14 a15 m_stepsMade m_stepsMost m_taped m_reading m_statements m_telling m_hasImage m_isKeeping m_cursor m_rowMany m_lots m_refused m_bytes m_owner m_block m_written m_waits m_kinds m_tape m_sort m_sortAt m_told m_kept m_was m_ends m_row v3 h2) ⟨(Nat.le_of_ble_eq_true rfl), (Nat.le_of_ble_eq_true rfl), (Nat.le_of_ble_eq_true rfl), (Nat.le_of_ble_eq_true rfl)⟩ 0 rfl rfl [0, 1, 2, 3, 4, 5, 6, 7, 8, 9, 10, 11, 12, 13, 14, 15] rfl rfl rfl (Up.same rfl) rfl rfl (Nat.le_of_ble_eq_true rfl) ?_
      refine x_ifne (pc := 44) (tgt := 50) X d_Mod_forged_44 rfl h (fun h => ?_) (fun h => ?_)
      · skip
        refine x_iload_n (pc := 50) X d_Mod_forged_50 2 rfl rfl ?_
        refine x_iload_n (pc := 51) X d_Mod_forged_51 1 rfl rfl ?_
        refine x_icmpeq (pc := 52) (tgt := 85) X d_Mod_forged_52 rfl h (fun h => ?_) (fun h => ?_)
        · skip
          refine x_iload_n (pc := 85) X d_Mod_forged_85 2 rfl rfl ?_
          cases h
          exact x_iret (pc := 86) X hR d_Mod_forged_86
        · skip
          refine x_aload_n (pc := 55) X d_Mod_forged_55 0 rfl rfl ?_
          refine x_get (pc := 56) X d_Mod_forged_56 0 rfl fl_Mod_52 rfl ?_
          refine x_iconst (pc := 59) X d_Mod_forged_59  ?_
          refine x_iload_n (pc := 60) X d_Mod_forged_60 2 rfl rfl ?_
          refine x_imul (pc := 61) X d_Mod_forged_61  ?_
          refine x_iald (pc := 62) X d_Mod_forged_62 15 rfl (Nat.le_of_ble_eq_true rfl) rfl h (fun h => ?_)
          refine x_iload_n (pc := 63) X d_Mod_forged_63 3 rfl rfl ?_
          refine x_icmpne (pc := 64) (tgt := 85) X d_Mod_forged_64 rfl h (fun h => ?_) (fun h => ?_)
          · skip
            refine x_iload_n (pc := 85) X d_Mod_forged_85 2 rfl rfl ?_
            cases h
            exact x_iret (pc := 86) X hR d_Mod_forged_86
          · skip
            refine x_aload_n (pc := 67) X d_Mod_forged_67 0 rfl rfl ?_
            refine x_get (pc := 68) X d_Mod_forged_68 0 rfl fl_Mod_52 rfl ?_
            refine x_iconst (pc := 71) X d_Mod_forged_71  ?_
            refine x_iload_n (pc := 72) X d_Mod_forged_72 2 rfl rfl ?_
            refine x_imul (pc := 73) X d_Mod_forged_73  ?_
            refine x_iconst (pc := 74) X d_Mod_forged_74  ?_
            refine x_iadd (pc := 75) X d_Mod_forged_75  ?_
            refine x_iald (pc := 76) X d_Mod_forged_76 15 rfl (Nat.le_of_ble_eq_true rfl) rfl h (fun h => ?_)
            refine x_aload_n (pc := 77) X d_Mod_forged_77 0 rfl rfl ?_
            refine x_iload_n (pc := 78) X d_Mod_forged_78 3 rfl rfl ?_
            obtain ⟨r3, h4, h⟩ := bnd_e h
            refine x_callV (pc := 79) (As := [.int (zi v3)]) (rest := [.int (zi (m_row ((2 * v2) + 1)))]) (w2 := (w_Mod cI cB a0 a1 a2 a3 a4 a5 a6 a7 a8 a9 a10 a11 a12 a13 a14 a15 m_stepsMade m_stepsMost m_taped m_reading m_statements m_telling m_hasImage m_isKeeping m_cursor m_rowMany m_lots m_refused m_bytes m_owner m_block m_written m_waits m_kinds m_tape m_sort m_sortAt m_told m_kept m_was m_ends m_row)) X d_Mod_forged_79 lk_Mod_89 mv_Mod_runSize (c_Mod_runSize l D cI cB a0 a1 a2 a3 a4 a5 a6 a7 a8 a9 a10 a11 a12 a13 a14 a15 m_stepsMade m_stepsMost m_taped m_reading m_statements m_telling m_hasImage m_isKeeping m_cursor m_rowMany m_lots m_refused m_bytes m_owner m_block m_written m_waits m_kinds m_tape m_sort m_sortAt m_told m_kept m_was m_ends m_row v3 h4) ⟨(Nat.le_of_ble_eq_true rfl), (Nat.le_of_ble_eq_true rfl), (Nat.le_of_ble_eq_true rfl), (Nat.le_of_ble_eq_true rfl)⟩ 0 rfl rfl [0, 1, 2, 3, 4, 5, 6, 7, 8, 9, 10, 11, 12, 13, 14, 15] rfl rfl rfl (Up.same rfl) rfl rfl (Nat.le_of_ble_eq_true rfl) ?_
            refine x_icmpeq (pc := 82) (tgt := 87) X d_Mod_forged_82 rfl h (fun h => ?_) (fun h => ?_)
            · skip
              refine x_iinc (pc := 87) (ls2 := [(2, .int (zi (v2 + 1))), (0, .ref a0), (1, .int (zi v1)), (3, .int (zi v3))]) X d_Mod_forged_87 2 (Nat.le_of_ble_eq_true rfl) rfl rfl ?_
              refine x_iinc (pc := 90) (ls2 := [(3, .int (zi (v3 + 1))), (2, .int (zi (v2 + 1))), (0, .ref a0), (1, .int (zi v1))]) X d_Mod_forged_90 3 (Nat.le_of_ble_eq_true rfl) rfl rfl ?_
              refine x_goto (pc := 93) (tgt := 33) X d_Mod_forged_93 rfl ?_
              refine x_ls (ls2 := [(0, .ref a0), (1, .int (zi v1)), (2, .int (zi (v2 + 1))), (3, .int (zi (v3 + 1)))]) [2, 3, 1, 0] rfl ?_
              exact ih v1 (v2 + 1) (v3 + 1) m_rowMany m_refused m_owner m_row o h hR
            · skip
              refine x_iload_n (pc := 85) X d_Mod_forged_85 2 rfl rfl ?_
              cases h
              exact x_iret (pc := 86) X hR d_Mod_forged_86
      · skip
        refine x_goto (pc := 47) (tgt := 90) X d_Mod_forged_47 rfl ?_
        refine x_iinc (pc := 90) (ls2 := [(3, .int (zi (v3 + 1))), (0, .ref a0), (1, .int (zi v1)), (2, .int (zi v2))]) X d_Mod_forged_90 3 (Nat.le_of_ble_eq_true rfl) rfl rfl ?_
        refine x_goto (pc := 93) (tgt := 33) X d_Mod_forged_93 rfl ?_
        refine x_ls (ls2 := [(0, .ref a0), (1, .int (zi v1)), (2, .int (zi v2)), (3, .int (zi (v3 + 1)))]) [1, 2, 3, 0] rfl ?_
        exact ih v1 v2 (v3 + 1) m_rowMany m_refused m_owner m_row o h hR
set_option maxHeartbeats 4000000 in
set_option maxRecDepth 100000 in
theorem c_Mod_forged (l : Launch) (D : va_G) (cI cB : ClassId) (a0 a1 a2 a3 a4 a5 a6 a7 a8 a9 a10 a11 a12 a13 a14 a15 : Nat) (m_stepsMade : Int) (m_stepsMost : Int) (m_taped : Int) (m_reading : Int) (m_statements : Int) (m_telling : Int) (m_hasImage : Int) (m_isKeeping : Int) (m_cursor : Int) (m_rowMany : Int) (m_lots : Int) (m_refused : Int → Int) (m_bytes : Int → Int) (m_owner : Int → Int) (m_block : Int → Int) (m_written : Int → Int) (m_waits : Int → Int) (m_kinds : Int → Int) (m_tape : Int → Int) (m_sort : Int → Int) (m_sortAt : Int → Int) (m_told : Int → Int) (m_kept : Int → Int) (m_was : Int → Int) (m_ends : Int → Int) (m_row : Int → Int)  {o : Int × Int × (Int → Int)} (h : m_Mod_forged m_rowMany m_refused m_owner m_row = some o) : Ct l D cI cB y_Mod_forged b_Mod_forged 4 (some .int) { frames := 1, cells := 0, slots := 0, locals := 22 } [.ref a0] (w_Mod cI cB a0 a1 a2 a3 a4 a5 a6 a7 a8 a9 a10 a11 a12 a13 a14 a15 m_stepsMade m_stepsMost m_taped m_reading m_statements m_telling m_hasImage m_isKeeping m_cursor m_rowMany m_lots m_refused m_bytes m_owner m_block m_written m_waits m_kinds m_tape m_sort m_sortAt m_told m_kept m_was m_ends m_row) (w_Mod cI cB a0 a1 a2 a3 a4 a5 a6 a7 a8 a9 a10 a11 a12 a13 a14 a15 m_stepsMade m_stepsMost m_taped m_reading m_statements m_telling m_hasImage m_isKeeping m_cursor o.2.1 m_lots o.2.2 m_bytes m_owner m_block m_written m_waits m_kinds m_tape m_sort m_sortAt m_told m_kept m_was m_ends m_row) (some (.int (zi o.1))) := by
  refine Ct.start (by decide) (Nat.le_of_ble_eq_true rfl) (fun G X hR => ?_)
  refine x_ls (ls2 := [(0, .ref a0)]) [0] rfl ?_
  unfold m_Mod_forged at h
  refine x_aload_n (pc := 0) X d_Mod_forged_0 0 rfl rfl ?_
  refine x_get (pc := 1) X d_Mod_forged_1 0 rfl fl_Mod_349 rfl ?_
  refine x_iconst (pc := 4) X d_Mod_forged_4  ?_
  refine x_irem (pc := 5) X d_Mod_forged_5 h (fun h => ?_)
  refine x_iconst (pc := 6) X d_Mod_forged_6  ?_
  refine x_icmpne (pc := 7) (tgt := 17) X d_Mod_forged_7 rfl h (fun h => ?_) (fun h => ?_)
  · skip
    refine x_aload_n (pc := 17) X d_Mod_forged_17 0 rfl rfl ?_
    refine x_get (pc := 18) X d_Mod_forged_18 0 rfl fl_Mod_349 rfl ?_
    refine x_iconst (pc := 21) X d_Mod_forged_21  ?_
    refine x_idiv (pc := 22) X d_Mod_forged_22 h (fun h => ?_)
    refine x_istore_n (pc := 23) (ls2 := [(1, .int (zi (m_rowMany / 2))), (0, .ref a0)]) X d_Mod_forged_23 rfl (Nat.le_of_ble_eq_true rfl) rfl ?_
    refine x_aload_n (pc := 24) X d_Mod_forged_24 1 rfl rfl ?_
    refine x_iconst (pc := 25) X d_Mod_forged_25  ?_
    refine x_put (pc := 26) (w2 := (w_Mod cI cB a0 a1 a2 a3 a4 a5 a6 a7 a8 a9 a10 a11 a12 a13 a14 a15 m_stepsMade m_stepsMost m_taped m_reading m_statements m_telling m_hasImage m_isKeeping m_cursor 0 m_lots m_refused m_bytes m_owner m_block m_written m_waits m_kinds m_tape m_sort m_sortAt m_told m_kept m_was m_ends m_row)) X d_Mod_forged_26 0 rfl (fp_Mod_349 _) (Nat.le_of_ble_eq_true rfl) rfl ?_
    refine x_iconst (pc := 29) X d_Mod_forged_29  ?_
    refine x_istore_n (pc := 30) (ls2 := [(2, .int (zi 0)), (1, .int (zi (m_rowMany / 2))), (0, .ref a0)]) X d_Mod_forged_30 rfl (Nat.le_of_ble_eq_true rfl) rfl ?_
    refine x_iconst (pc := 31) X d_Mod_forged_31  ?_
    refine x_istore_n (pc := 32) (ls2 := [(3, .int (zi 0)), (2, .int (zi 0)), (1, .int (zi (m_rowMany / 2))), (0, .ref a0)]) X d_Mod_forged_32 rfl (Nat.le_of_ble_eq_true rfl) rfl ?_
    refine x_ls (ls2 := [(0, .ref a0), (1, .int (zi (m_rowMany / 2))), (2, .int (zi 0)), (3, .int (zi 0))]) [3, 2, 1, 0] rfl ?_
    exact l_Mod_forged_33 X 5000 (m_rowMany / 2) 0 0 0 m_refused m_owner m_row o h hR
  · skip
    refine x_aload_n (pc := 10) X d_Mod_forged_10 0 rfl rfl ?_
    refine x_bipush (pc := 11) (v := -3) X d_Mod_forged_11 rfl ?_
    obtain ⟨r5, h6, h⟩ := bnd_e h
    refine x_callV (pc := 13) (As := [.int (zi (-3))]) (rest := []) (w2 := (w_Mod cI cB a0 a1 a2 a3 a4 a5 a6 a7 a8 a9 a10 a11 a12 a13 a14 a15 m_stepsMade m_stepsMost m_taped m_reading m_statements m_telling m_hasImage m_isKeeping m_cursor m_rowMany m_lots r5.2 m_bytes m_owner m_block m_written m_waits m_kinds m_tape m_sort m_sortAt m_told m_kept m_was m_ends m_row)) X d_Mod_forged_13 lk_Mod_172 mv_Mod_no (c_Mod_no l D cI cB a0 a1 a2 a3 a4 a5 a6 a7 a8 a9 a10 a11 a12 a13 a14 a15 m_stepsMade m_stepsMost m_taped m_reading m_statements m_telling m_hasImage m_isKeeping m_cursor m_rowMany m_lots m_refused m_bytes m_owner m_block m_written m_waits m_kinds m_tape m_sort m_sortAt m_told m_kept m_was m_ends m_row (-3) h6) ⟨(Nat.le_of_ble_eq_true rfl), (Nat.le_of_ble_eq_true rfl), (Nat.le_of_ble_eq_true rfl), (Nat.le_of_ble_eq_true rfl)⟩ 0 rfl rfl [0, 1, 2, 3, 4, 5, 6, 7, 8, 9, 10, 11, 12, 13, 14, 15] rfl rfl rfl (Up.of [] [] rfl rfl rfl 16 rfl (by decide +kernel)) rfl rfl (Nat.le_of_ble_eq_true rfl) ?_
    cases h
    exact x_iret (pc := 16) X hR d_Mod_forged_16
theorem d_Mod_clear_0 : decode b_Mod_clear 0 = .ok (.aload_n 0, 1) := by decide +kernel
theorem d_Mod_clear_1 : decode b_Mod_clear 1 = .ok (.getfield 349, 3) := by decide +kernel
theorem d_Mod_clear_4 : decode b_Mod_clear 4 = .ok (.istore_n 1, 1) := by decide +kernel
theorem d_Mod_clear_5 : decode b_Mod_clear 5 = .ok (.aload_n 0, 1) := by decide +kernel
theorem d_Mod_clear_6 : decode b_Mod_clear 6 = .ok (.iconst 0, 1) := by decide +kernel
theorem d_Mod_clear_7 : decode b_Mod_clear 7 = .ok (.putfield 349, 3) := by decide +kernel
theorem d_Mod_clear_10 : decode b_Mod_clear 10 = .ok (.iload_n 1, 1) := by decide +kernel
theorem d_Mod_clear_11 : decode b_Mod_clear 11 = .ok (.ireturn, 1) := by decide +kernel
def m_Mod_clear  (m_rowMany : Int) : Option (Int × Int) :=
  some (m_rowMany, 0)
set_option maxHeartbeats 4000000 in
set_option maxRecDepth 100000 in
theorem c_Mod_clear (l : Launch) (D : va_G) (cI cB : ClassId) (a0 a1 a2 a3 a4 a5 a6 a7 a8 a9 a10 a11 a12 a13 a14 a15 : Nat) (m_stepsMade : Int) (m_stepsMost : Int) (m_taped : Int) (m_reading : Int) (m_statements : Int) (m_telling : Int) (m_hasImage : Int) (m_isKeeping : Int) (m_cursor : Int) (m_rowMany : Int) (m_lots : Int) (m_refused : Int → Int) (m_bytes : Int → Int) (m_owner : Int → Int) (m_block : Int → Int) (m_written : Int → Int) (m_waits : Int → Int) (m_kinds : Int → Int) (m_tape : Int → Int) (m_sort : Int → Int) (m_sortAt : Int → Int) (m_told : Int → Int) (m_kept : Int → Int) (m_was : Int → Int) (m_ends : Int → Int) (m_row : Int → Int)  {o : Int × Int} (h : m_Mod_clear m_rowMany = some o) : Ct l D cI cB y_Mod_clear b_Mod_clear 2 (some .int) { frames := 0, cells := 0, slots := 0, locals := 0 } [.ref a0] (w_Mod cI cB a0 a1 a2 a3 a4 a5 a6 a7 a8 a9 a10 a11 a12 a13 a14 a15 m_stepsMade m_stepsMost m_taped m_reading m_statements m_telling m_hasImage m_isKeeping m_cursor m_rowMany m_lots m_refused m_bytes m_owner m_block m_written m_waits m_kinds m_tape m_sort m_sortAt m_told m_kept m_was m_ends m_row) (w_Mod cI cB a0 a1 a2 a3 a4 a5 a6 a7 a8 a9 a10 a11 a12 a13 a14 a15 m_stepsMade m_stepsMost m_taped m_reading m_statements m_telling m_hasImage m_isKeeping m_cursor o.2 m_lots m_refused m_bytes m_owner m_block m_written m_waits m_kinds m_tape m_sort m_sortAt m_told m_kept m_was m_ends m_row) (some (.int (zi o.1))) := by
  refine Ct.start (by decide) (Nat.le_of_ble_eq_true rfl) (fun G X hR => ?_)
  refine x_ls (ls2 := [(0, .ref a0)]) [0] rfl ?_
  unfold m_Mod_clear at h
  refine x_aload_n (pc := 0) X d_Mod_clear_0 0 rfl rfl ?_
  refine x_get (pc := 1) X d_Mod_clear_1 0 rfl fl_Mod_349 rfl ?_
  refine x_istore_n (pc := 4) (ls2 := [(1, .int (zi m_rowMany)), (0, .ref a0)]) X d_Mod_clear_4 rfl (Nat.le_of_ble_eq_true rfl) rfl ?_
  refine x_aload_n (pc := 5) X d_Mod_clear_5 1 rfl rfl ?_
  refine x_iconst (pc := 6) X d_Mod_clear_6  ?_
  refine x_put (pc := 7) (w2 := (w_Mod cI cB a0 a1 a2 a3 a4 a5 a6 a7 a8 a9 a10 a11 a12 a13 a14 a15 m_stepsMade m_stepsMost m_taped m_reading m_statements m_telling m_hasImage m_isKeeping m_cursor 0 m_lots m_refused m_bytes m_owner m_block m_written m_waits m_kinds m_tape m_sort m_sortAt m_told m_kept m_was m_ends m_row)) X d_Mod_clear_7 0 rfl (fp_Mod_349 _) (Nat.le_of_ble_eq_true rfl) rfl ?_
  refine x_iload_n (pc := 10) X d_Mod_clear_10 0 rfl rfl ?_
  cases h
  exact x_iret (pc := 11) X hR d_Mod_clear_11
theorem d_Mod_draw_0 : decode b_Mod_draw 0 = .ok (.aload_n 0, 1) := by decide +kernel
theorem d_Mod_draw_1 : decode b_Mod_draw 1 = .ok (.aload_n 0, 1) := by decide +kernel
theorem d_Mod_draw_2 : decode b_Mod_draw 2 = .ok (.getfield 355, 3) := by decide +kernel
theorem d_Mod_draw_5 : decode b_Mod_draw 5 = .ok (.ldc_w 358, 3) := by decide +kernel
theorem d_Mod_draw_8 : decode b_Mod_draw 8 = .ok (.imul, 1) := by decide +kernel
theorem d_Mod_draw_9 : decode b_Mod_draw 9 = .ok (.ldc_w 359, 3) := by decide +kernel
theorem d_Mod_draw_12 : decode b_Mod_draw 12 = .ok (.iadd, 1) := by decide +kernel
theorem d_Mod_draw_13 : decode b_Mod_draw 13 = .ok (.putfield 355, 3) := by decide +kernel
theorem d_Mod_draw_16 : decode b_Mod_draw 16 = .ok (.aload_n 0, 1) := by decide +kernel
theorem d_Mod_draw_17 : decode b_Mod_draw 17 = .ok (.getfield 355, 3) := by decide +kernel
theorem d_Mod_draw_20 : decode b_Mod_draw 20 = .ok (.ldc_w 360, 3) := by decide +kernel
theorem d_Mod_draw_23 : decode b_Mod_draw 23 = .ok (.iand, 1) := by decide +kernel
theorem d_Mod_draw_24 : decode b_Mod_draw 24 = .ok (.sipush 256, 3) := by decide +kernel
theorem d_Mod_draw_27 : decode b_Mod_draw 27 = .ok (.idiv, 1) := by decide +kernel
theorem d_Mod_draw_28 : decode b_Mod_draw 28 = .ok (.iload_n 1, 1) := by decide +kernel
theorem d_Mod_draw_29 : decode b_Mod_draw 29 = .ok (.irem, 1) := by decide +kernel
theorem d_Mod_draw_30 : decode b_Mod_draw 30 = .ok (.ireturn, 1) := by decide +kernel
def m_Mod_draw (x1 : Int) (m_lots : Int) : Option (Int × Int) :=
  gd (zx (z_and ((m_lots * 1664525) + 1013904223) 2147483647) 2147483648 ∧ zp 256 2147483648) (gd (zx ((z_and ((m_lots * 1664525) + 1013904223) 2147483647) / 256) 2147483648 ∧ zp x1 2147483648) (some ((((z_and ((m_lots * 1664525) + 1013904223) 2147483647) / 256) % x1), ((m_lots * 1664525) + 1013904223))))
set_option maxHeartbeats 4000000 in
set_option maxRecDepth 100000 in
theorem c_Mod_draw (l : Launch) (D : va_G) (cI cB : ClassId) (a0 a1 a2 a3 a4 a5 a6 a7 a8 a9 a10 a11 a12 a13 a14 a15 : Nat) (m_stepsMade : Int) (m_stepsMost : Int) (m_taped : Int) (m_reading : Int) (m_statements : Int) (m_telling : Int) (m_hasImage : Int) (m_isKeeping : Int) (m_cursor : Int) (m_rowMany : Int) (m_lots : Int) (m_refused : Int → Int) (m_bytes : Int → Int) (m_owner : Int → Int) (m_block : Int → Int) (m_written : Int → Int) (m_waits : Int → Int) (m_kinds : Int → Int) (m_tape : Int → Int) (m_sort : Int → Int) (m_sortAt : Int → Int) (m_told : Int → Int) (m_kept : Int → Int) (m_was : Int → Int) (m_ends : Int → Int) (m_row : Int → Int) (x1 : Int) {o : Int × Int} (h : m_Mod_draw x1 m_lots = some o) : Ct l D cI cB y_Mod_draw b_Mod_draw 2 (some .int) { frames := 0, cells := 0, slots := 0, locals := 0 } [.ref a0, .int (zi x1)] (w_Mod cI cB a0 a1 a2 a3 a4 a5 a6 a7 a8 a9 a10 a11 a12 a13 a14 a15 m_stepsMade m_stepsMost m_taped m_reading m_statements m_telling m_hasImage m_isKeeping m_cursor m_rowMany m_lots m_refused m_bytes m_owner m_block m_written m_waits m_kinds m_tape m_sort m_sortAt m_told m_kept m_was m_ends m_row) (w_Mod cI cB a0 a1 a2 a3 a4 a5 a6 a7 a8 a9 a10 a11 a12 a13 a14 a15 m_stepsMade m_stepsMost m_taped m_reading m_statements m_telling m_hasImage m_isKeeping m_cursor m_rowMany o.2 m_refused m_bytes m_owner m_block m_written m_waits m_kinds m_tape m_sort m_sortAt m_told m_kept m_was m_ends m_row) (some (.int (zi o.1))) := by
  refine Ct.start (by decide) (Nat.le_of_ble_eq_true rfl) (fun G X hR => ?_)
  refine x_ls (ls2 := [(0, .ref a0), (1, .int (zi x1))]) [0, 1] rfl ?_
  unfold m_Mod_draw at h
  refine x_aload_n (pc := 0) X d_Mod_draw_0 0 rfl rfl ?_
  refine x_aload_n (pc := 1) X d_Mod_draw_1 0 rfl rfl ?_
  refine x_get (pc := 2) X d_Mod_draw_2 0 rfl fl_Mod_355 rfl ?_
  refine x_ldcw (pc := 5) X d_Mod_draw_5 cw_Mod_358 cg_Mod_358 ?_
  refine x_imul (pc := 8) X d_Mod_draw_8  ?_
  refine x_ldcw (pc := 9) X d_Mod_draw_9 cw_Mod_359 cg_Mod_359 ?_
  refine x_iadd (pc := 12) X d_Mod_draw_12  ?_
  refine x_put (pc := 13) (w2 := (w_Mod cI cB a0 a1 a2 a3 a4 a5 a6 a7 a8 a9 a10 a11 a12 a13 a14 a15 m_stepsMade m_stepsMost m_taped m_reading m_statements m_telling m_hasImage m_isKeeping m_cursor m_rowMany ((m_lots * 1664525) + 1013904223) m_refused m_bytes m_owner m_block m_written m_waits m_kinds m_tape m_sort m_sortAt m_told m_kept m_was m_ends m_row)) X d_Mod_draw_13 0 rfl (fp_Mod_355 _) (Nat.le_of_ble_eq_true rfl) rfl ?_
  refine x_aload_n (pc := 16) X d_Mod_draw_16 0 rfl rfl ?_
  refine x_get (pc := 17) X d_Mod_draw_17 0 rfl fl_Mod_355 rfl ?_
  refine x_ldcw (pc := 20) X d_Mod_draw_20 cw_Mod_360 cg_Mod_360 ?_
  refine x_iand (pc := 23) X d_Mod_draw_23  ?_
  refine x_sipush (pc := 24) (v := 256) X d_Mod_draw_24 (by decide +kernel) ?_
  refine x_idiv (pc := 27) X d_Mod_draw_27 h (fun h => ?_)
  refine x_iload_n (pc := 28) X d_Mod_draw_28 1 rfl rfl ?_
  refine x_irem (pc := 29) X d_Mod_draw_29 h (fun h => ?_)
  cases h
  exact x_iret (pc := 30) X hR d_Mod_draw_30
theorem d_Mod_saysByLot_0 : decode b_Mod_saysByLot 0 = .ok (.bipush 24, 2) := by decide +kernel
theorem d_Mod_saysByLot_2 : decode b_Mod_saysByLot 2 = .ok (.aload_n 0, 1) := by decide +kernel
theorem d_Mod_saysByLot_3 : decode b_Mod_saysByLot 3 = .ok (.iconst 4, 1) := by decide +kernel
theorem d_Mod_saysByLot_4 : decode b_Mod_saysByLot 4 = .ok (.invokevirtual 361, 3) := by decide +kernel
theorem d_Mod_saysByLot_7 : decode b_Mod_saysByLot 7 = .ok (.imul, 1) := by decide +kernel
theorem d_Mod_saysByLot_8 : decode b_Mod_saysByLot 8 = .ok (.istore_n 1, 1) := by decide +kernel
theorem d_Mod_saysByLot_9 : decode b_Mod_saysByLot 9 = .ok (.iload_n 1, 1) := by decide +kernel
theorem d_Mod_saysByLot_10 : decode b_Mod_saysByLot 10 = .ok (.aload_n 0, 1) := by decide +kernel
theorem d_Mod_saysByLot_11 : decode b_Mod_saysByLot 11 = .ok (.bipush 24, 2) := by decide +kernel
theorem d_Mod_saysByLot_13 : decode b_Mod_saysByLot 13 = .ok (.invokevirtual 361, 3) := by decide +kernel
theorem d_Mod_saysByLot_16 : decode b_Mod_saysByLot 16 = .ok (.iadd, 1) := by decide +kernel
theorem d_Mod_saysByLot_17 : decode b_Mod_saysByLot 17 = .ok (.istore_n 1, 1) := by decide +kernel
theorem d_Mod_saysByLot_18 : decode b_Mod_saysByLot 18 = .ok (.aload_n 0, 1) := by decide +kernel
theorem d_Mod_saysByLot_19 : decode b_Mod_saysByLot 19 = .ok (.bipush 100, 2) := by decide +kernel
theorem d_Mod_saysByLot_21 : decode b_Mod_saysByLot 21 = .ok (.invokevirtual 361, 3) := by decide +kernel
theorem d_Mod_saysByLot_24 : decode b_Mod_saysByLot 24 = .ok (.istore_n 2, 1) := by decide +kernel
theorem d_Mod_saysByLot_25 : decode b_Mod_saysByLot 25 = .ok (.aload_n 0, 1) := by decide +kernel
theorem d_Mod_saysByLot_26 : decode b_Mod_saysByLot 26 = .ok (.iload_n 1, 1) := by decide +kernel
theorem d_Mod_saysByLot_27 : decode b_Mod_saysByLot 27 = .ok (.invokevirtual 202, 3) := by decide +kernel
theorem d_Mod_saysByLot_30 : decode b_Mod_saysByLot 30 = .ok (.ifCond .eq 9, 3) := by decide +kernel
theorem d_Mod_saysByLot_33 : decode b_Mod_saysByLot 33 = .ok (.aload_n 0, 1) := by decide +kernel
theorem d_Mod_saysByLot_34 : decode b_Mod_saysByLot 34 = .ok (.iload_n 1, 1) := by decide +kernel
theorem d_Mod_saysByLot_35 : decode b_Mod_saysByLot 35 = .ok (.iload_n 2, 1) := by decide +kernel
theorem d_Mod_saysByLot_36 : decode b_Mod_saysByLot 36 = .ok (.invokevirtual 205, 3) := by decide +kernel
theorem d_Mod_saysByLot_39 : decode b_Mod_saysByLot 39 = .ok (.return_, 1) := by decide +kernel
def m_Mod_saysByLot  (m_lots : Int) (m_owner : Int → Int) (m_block : Int → Int) (m_waits : Int → Int) : Option (Int × (Int → Int)) :=
  bnd (m_Mod_draw 4 m_lots) (fun r1 => bnd (m_Mod_draw 24 r1.2) (fun r3 => bnd (m_Mod_draw 100 r3.2) (fun r5 => bnd (m_Mod_canSay ((24 * r1.1) + r3.1) m_owner m_block m_waits) (fun r7 => ceq r7 0 (some (r5.2, m_waits)) (bnd (m_Mod_saysAt ((24 * r1.1) + r3.1) r5.1 m_waits) (fun r9 => some (r5.2, r9)))))))
set_option maxHeartbeats 4000000 in
set_option maxRecDepth 100000 in
theorem c_Mod_saysByLot (l : Launch) (D : va_G) (cI cB : ClassId) (a0 a1 a2 a3 a4 a5 a6 a7 a8 a9 a10 a11 a12 a13 a14 a15 : Nat) (m_stepsMade : Int) (m_stepsMost : Int) (m_taped : Int) (m_reading : Int) (m_statements : Int) (m_telling : Int) (m_hasImage : Int) (m_isKeeping : Int) (m_cursor : Int) (m_rowMany : Int) (m_lots : Int) (m_refused : Int → Int) (m_bytes : Int → Int) (m_owner : Int → Int) (m_block : Int → Int) (m_written : Int → Int) (m_waits : Int → Int) (m_kinds : Int → Int) (m_tape : Int → Int) (m_sort : Int → Int) (m_sortAt : Int → Int) (m_told : Int → Int) (m_kept : Int → Int) (m_was : Int → Int) (m_ends : Int → Int) (m_row : Int → Int)  {o : Int × (Int → Int)} (h : m_Mod_saysByLot m_lots m_owner m_block m_waits = some o) : Ct l D cI cB y_Mod_saysByLot b_Mod_saysByLot 3 none { frames := 5, cells := 0, slots := 0, locals := 105 } [.ref a0] (w_Mod cI cB a0 a1 a2 a3 a4 a5 a6 a7 a8 a9 a10 a11 a12 a13 a14 a15 m_stepsMade m_stepsMost m_taped m_reading m_statements m_telling m_hasImage m_isKeeping m_cursor m_rowMany m_lots m_refused m_bytes m_owner m_block m_written m_waits m_kinds m_tape m_sort m_sortAt m_told m_kept m_was m_ends m_row) (w_Mod cI cB a0 a1 a2 a3 a4 a5 a6 a7 a8 a9 a10 a11 a12 a13 a14 a15 m_stepsMade m_stepsMost m_taped m_reading m_statements m_telling m_hasImage m_isKeeping m_cursor m_rowMany o.1 m_refused m_bytes m_owner m_block m_written o.2 m_kinds m_tape m_sort m_sortAt m_told m_kept m_was m_ends m_row) none := by
  refine Ct.start (by decide) (Nat.le_of_ble_eq_true rfl) (fun G X hR => ?_)
  refine x_ls (ls2 := [(0, .ref a0)]) [0] rfl ?_
  unfold m_Mod_saysByLot at h
  refine x_bipush (pc := 0) (v := 24) X d_Mod_saysByLot_0 rfl ?_
  refine x_aload_n (pc := 2) X d_Mod_saysByLot_2 0 rfl rfl ?_
  refine x_iconst (pc := 3) X d_Mod_saysByLot_3  ?_
  obtain ⟨r1, h2, h⟩ := bnd_e h
  refine x_callV (pc := 4) (As := [.int (zi 4)]) (rest := [.int (zi 24)]) (w2 := (w_Mod cI cB a0 a1 a2 a3 a4 a5 a6 a7 a8 a9 a10 a11 a12 a13 a14 a15 m_stepsMade m_stepsMost m_taped m_reading m_statements m_telling m_hasImage m_isKeeping m_cursor m_rowMany r1.2 m_refused m_bytes m_owner m_block m_written m_waits m_kinds m_tape m_sort m_sortAt m_told m_kept m_was m_ends m_row)) X d_Mod_saysByLot_4 lk_Mod_361 mv_Mod_draw (c_Mod_draw l D cI cB a0 a1 a2 a3 a4 a5 a6 a7 a8 a9 a10 a11 a12 a13 a14 a15 m_stepsMade m_stepsMost m_taped m_reading m_statements m_telling m_hasImage m_isKeeping m_cursor m_rowMany m_lots m_refused m_bytes m_owner m_block m_written m_waits m_kinds m_tape m_sort m_sortAt m_told m_kept m_was m_ends m_row 4 h2) ⟨(Nat.le_of_ble_eq_true rfl), (Nat.le_of_ble_eq_true rfl), (Nat.le_of_ble_eq_true rfl), (Nat.le_of_ble_eq_true rfl)⟩ 0 rfl rfl [0, 1, 2, 3, 4, 5, 6, 7, 8, 9, 10, 11, 12, 13, 14, 15] rfl rfl rfl (Up.of [] [] rfl rfl rfl 16 rfl (by decide +kernel)) rfl rfl (Nat.le_of_ble_eq_true rfl) ?_
  refine x_imul (pc := 7) X d_Mod_saysByLot_7  ?_
  refine x_istore_n (pc := 8) (ls2 := [(1, .int (zi (24 * r1.1))), (0, .ref a0)]) X d_Mod_saysByLot_8 rfl (Nat.le_of_ble_eq_true rfl) rfl ?_
  refine x_iload_n (pc := 9) X d_Mod_saysByLot_9 0 rfl rfl ?_
  refine x_aload_n (pc := 10) X d_Mod_saysByLot_10 1 rfl rfl ?_
  refine x_bipush (pc := 11) (v := 24) X d_Mod_saysByLot_11 rfl ?_
  obtain ⟨r3, h4, h⟩ := bnd_e h
  refine x_callV (pc := 13) (As := [.int (zi 24)]) (rest := [.int (zi (24 * r1.1))]) (w2 := (w_Mod cI cB a0 a1 a2 a3 a4 a5 a6 a7 a8 a9 a10 a11 a12 a13 a14 a15 m_stepsMade m_stepsMost m_taped m_reading m_statements m_telling m_hasImage m_isKeeping m_cursor m_rowMany r3.2 m_refused m_bytes m_owner m_block m_written m_waits m_kinds m_tape m_sort m_sortAt m_told m_kept m_was m_ends m_row)) X d_Mod_saysByLot_13 lk_Mod_361 mv_Mod_draw (c_Mod_draw l D cI cB a0 a1 a2 a3 a4 a5 a6 a7 a8 a9 a10 a11 a12 a13 a14 a15 m_stepsMade m_stepsMost m_taped m_reading m_statements m_telling m_hasImage m_isKeeping m_cursor m_rowMany r1.2 m_refused m_bytes m_owner m_block m_written m_waits m_kinds m_tape m_sort m_sortAt m_told m_kept m_was m_ends m_row 24 h4) ⟨(Nat.le_of_ble_eq_true rfl), (Nat.le_of_ble_eq_true rfl), (Nat.le_of_ble_eq_true rfl), (Nat.le_of_ble_eq_true rfl)⟩ 0 rfl rfl [0, 1, 2, 3, 4, 5, 6, 7, 8, 9, 10, 11, 12, 13, 14, 15] rfl rfl rfl (Up.of [] [] rfl rfl rfl 16 rfl (by decide +kernel)) rfl rfl (Nat.le_of_ble_eq_true rfl) ?_
  refine x_iadd (pc := 16) X d_Mod_saysByLot_16  ?_
  refine x_istore_n (pc := 17) (ls2 := [(1, .int (zi ((24 * r1.1) + r3.1))), (0, .ref a0)]) X d_Mod_saysByLot_17 rfl (Nat.le_of_ble_eq_true rfl) rfl ?_
  refine x_aload_n (pc := 18) X d_Mod_saysByLot_18 1 rfl rfl ?_
  refine x_bipush (pc := 19) (v := 100) X d_Mod_saysByLot_19 rfl ?_
  obtain ⟨r5, h6, h⟩ := bnd_e h
  refine x_callV (pc := 21) (As := [.int (zi 100)]) (rest := []) (w2 := (w_Mod cI cB a0 a1 a2 a3 a4 a5 a6 a7 a8 a9 a10 a11 a12 a13 a14 a15 m_stepsMade m_stepsMost m_taped m_reading m_statements m_telling m_hasImage m_isKeeping m_cursor m_rowMany r5.2 m_refused m_bytes m_owner m_block m_written m_waits m_kinds m_tape m_sort m_sortAt m_told m_kept m_was m_ends m_row)) X d_Mod_saysByLot_21 lk_Mod_361 mv_Mod_draw (c_Mod_draw l D cI cB a0 a1 a2 a3 a4 a5 a6 a7 a8 a9 a10 a11 a12 a13 a14 a15 m_stepsMade m_stepsMost m_taped m_reading m_statements m_telling m_hasImage m_isKeeping m_cursor m_rowMany r3.2 m_refused m_bytes m_owner m_block m_written m_waits m_kinds m_tape m_sort m_sortAt m_told m_kept m_was m_ends m_row 100 h6) ⟨(Nat.le_of_ble_eq_true rfl), (Nat.le_of_ble_eq_true rfl), (Nat.le_of_ble_eq_true rfl), (Nat.le_of_ble_eq_true rfl)⟩ 0 rfl rfl [0, 1, 2, 3, 4, 5, 6, 7, 8, 9, 10, 11, 12, 13, 14, 15] rfl rfl rfl (Up.of [] [] rfl rfl rfl 16 rfl (by decide +kernel)) rfl rfl (Nat.le_of_ble_eq_true rfl) ?_
  refine x_istore_n (pc := 24) (ls2 := [(2, .int (zi r5.1)), (1, .int (zi ((24 * r1.1) + r3.1))), (0, .ref a0)]) X d_Mod_saysByLot_24 rfl (Nat.le_of_ble_eq_true rfl) rfl ?_
  refine x_aload_n (pc := 25) X d_Mod_saysByLot_25 2 rfl rfl ?_
  refine x_iload_n (pc := 26) X d_Mod_saysByLot_26 1 rfl rfl ?_
  obtain ⟨r7, h8, h⟩ := bnd_e h
  refine x_callV (pc := 27) (As := [.int (zi ((24 * r1.1) + r3.1))]) (rest := []) (w2 := (w_Mod cI cB a0 a1 a2 a3 a4 a5 a6 a7 a8 a9 a10 a11 a12 a13 a14 a15 m_stepsMade m_stepsMost m_taped m_reading m_statements m_telling m_hasImage m_isKeeping m_cursor m_rowMany r5.2 m_refused m_bytes m_owner m_block m_written m_waits m_kinds m_tape m_sort m_sortAt m_told m_kept m_was m_ends m_row)) X d_Mod_saysByLot_27 lk_Mod_202 mv_Mod_canSay (c_Mod_canSay l D cI cB a0 a1 a2 a3 a4 a5 a6 a7 a8 a9 a10 a11 a12 a13 a14 a15 m_stepsMade m_stepsMost m_taped m_reading m_statements m_telling m_hasImage m_isKeeping m_cursor m_rowMany r5.2 m_refused m_bytes m_owner m_block m_written m_waits m_kinds m_tape m_sort m_sortAt m_told m_kept m_was m_ends m_row ((24 * r1.1) + r3.1) h8) ⟨(Nat.le_of_ble_eq_true rfl), (Nat.le_of_ble_eq_true rfl), (Nat.le_of_ble_eq_true rfl), (Nat.le_of_ble_eq_true rfl)⟩ 0 rfl rfl [0, 1, 2, 3, 4, 5, 6, 7, 8, 9, 10, 11, 12, 13, 14, 15] rfl rfl rfl (Up.same rfl) rfl rfl (Nat.le_of_ble_eq_true rfl) ?_
  refine x_ifeq (pc := 30) (tgt := 39) X d_Mod_saysByLot_30 rfl h (fun h => ?_) (fun h => ?_)
  · skip
    cases h
    exact x_vret (pc := 39) X hR d_Mod_saysByLot_39
  · skip
    refine x_aload_n (pc := 33) X d_Mod_saysByLot_33 2 rfl rfl ?_
    refine x_iload_n (pc := 34) X d_Mod_saysByLot_34 1 rfl rfl ?_
    refine x_iload_n (pc := 35) X d_Mod_saysByLot_35 0 rfl rfl ?_
    obtain ⟨r9, h10, h⟩ := bnd_e h
    refine x_callV (pc := 36) (As := [.int (zi ((24 * r1.1) + r3.1)), .int (zi r5.1)]) (rest := []) (w2 := (w_Mod cI cB a0 a1 a2 a3 a4 a5 a6 a7 a8 a9 a10 a11 a12 a13 a14 a15 m_stepsMade m_stepsMost m_taped m_reading m_statements m_telling m_hasImage m_isKeeping m_cursor m_rowMany r5.2 m_refused m_bytes m_owner m_block m_written r9 m_kinds m_tape m_sort m_sortAt m_told m_kept m_was m_ends m_row)) X d_Mod_saysByLot_36 lk_Mod_205 mv_Mod_saysAt (c_Mod_saysAt l D cI cB a0 a1 a2 a3 a4 a5 a6 a7 a8 a9 a10 a11 a12 a13 a14 a15 m_stepsMade m_stepsMost m_taped m_reading m_statements m_telling m_hasImage m_isKeeping m_cursor m_rowMany r5.2 m_refused m_bytes m_owner m_block m_written m_waits m_kinds m_tape m_sort m_sortAt m_told m_kept m_was m_ends m_row ((24 * r1.1) + r3.1) r5.1 h10) ⟨(Nat.le_of_ble_eq_true rfl), (Nat.le_of_ble_eq_true rfl), (Nat.le_of_ble_eq_true rfl), (Nat.le_of_ble_eq_true rfl)⟩ 0 rfl rfl [0, 1, 2, 3, 4, 5, 6, 7, 8, 9, 10, 11, 12, 13, 14, 15] rfl rfl rfl (Up.of [] [] rfl rfl rfl 16 rfl (by decide +kernel)) rfl rfl (Nat.le_of_ble_eq_true rfl) ?_
    cases h
    exact x_vret (pc := 39) X hR d_Mod_saysByLot_39
theorem d_Mod_runs_0 : decode b_Mod_runs 0 = .ok (.iconst 0, 1) := by decide +kernel
theorem d_Mod_runs_1 : decode b_Mod_runs 1 = .ok (.istore_n 1, 1) := by decide +kernel
theorem d_Mod_runs_2 : decode b_Mod_runs 2 = .ok (.iconst 0, 1) := by decide +kernel
theorem d_Mod_runs_3 : decode b_Mod_runs 3 = .ok (.istore_n 2, 1) := by decide +kernel
theorem d_Mod_runs_4 : decode b_Mod_runs 4 = .ok (.iload_n 2, 1) := by decide +kernel
theorem d_Mod_runs_5 : decode b_Mod_runs 5 = .ok (.bipush 64, 2) := by decide +kernel
theorem d_Mod_runs_7 : decode b_Mod_runs 7 = .ok (.if_icmp .ge 25, 3) := by decide +kernel
theorem d_Mod_runs_10 : decode b_Mod_runs 10 = .ok (.iload_n 1, 1) := by decide +kernel
theorem d_Mod_runs_11 : decode b_Mod_runs 11 = .ok (.aload_n 0, 1) := by decide +kernel
theorem d_Mod_runs_12 : decode b_Mod_runs 12 = .ok (.iload_n 2, 1) := by decide +kernel
theorem d_Mod_runs_13 : decode b_Mod_runs 13 = .ok (.invokevirtual 86, 3) := by decide +kernel
theorem d_Mod_runs_16 : decode b_Mod_runs 16 = .ok (.ifCond .eq 7, 3) := by decide +kernel
theorem d_Mod_runs_19 : decode b_Mod_runs 19 = .ok (.iconst 1, 1) := by decide +kernel
theorem d_Mod_runs_20 : decode b_Mod_runs 20 = .ok (.goto 4, 3) := by decide +kernel
theorem d_Mod_runs_23 : decode b_Mod_runs 23 = .ok (.iconst 0, 1) := by decide +kernel
theorem d_Mod_runs_24 : decode b_Mod_runs 24 = .ok (.iadd, 1) := by decide +kernel
theorem d_Mod_runs_25 : decode b_Mod_runs 25 = .ok (.istore_n 1, 1) := by decide +kernel
theorem d_Mod_runs_26 : decode b_Mod_runs 26 = .ok (.iinc 2 1, 3) := by decide +kernel
theorem d_Mod_runs_29 : decode b_Mod_runs 29 = .ok (.goto (-25), 3) := by decide +kernel
theorem d_Mod_runs_32 : decode b_Mod_runs 32 = .ok (.iload_n 1, 1) := by decide +kernel
theorem d_Mod_runs_33 : decode b_Mod_runs 33 = .ok (.ireturn, 1) := by decide +kernel
def m_Mod_runs_4 : Nat → Int → Int → (Int → Int) → Option (Int)
  | 0, _, _, _ => none
  | fuel + 1, v1, v2, m_owner =>
  clt v2 64 (bnd (m_Mod_beginsRun v2 m_owner) (fun r1 => ceq r1 0 (m_Mod_runs_4 fuel (v1 + 0) (v2 + 1) m_owner) (m_Mod_runs_4 fuel (v1 + 1) (v2 + 1) m_owner))) (some (v1))
def m_Mod_runs  (m_owner : Int → Int) : Option (Int) :=
  m_Mod_runs_4 5000 0 0 m_owner
set_option maxHeartbeats 4000000 in
set_option maxRecDepth 100000 in
theorem l_Mod_runs_4 {G : GT} {l : Launch} {D : va_G} {cI cB : ClassId} {a0 a1 a2 a3 a4 a5 a6 a7 a8 a9 a10 a11 a12 a13 a14 a15 : Nat} {m_stepsMade : Int} {m_stepsMost : Int} {m_taped : Int} {m_reading : Int} {m_statements : Int} {m_telling : Int} {m_hasImage : Int} {m_isKeeping : Int} {m_cursor : Int} {m_rowMany : Int} {m_lots : Int} {m_refused : Int → Int} {m_bytes : Int → Int} {m_block : Int → Int} {m_written : Int → Int} {m_waits : Int → Int} {m_kinds : Int → Int} {m_tape : Int → Int} {m_sort : Int → Int} {m_sortAt : Int → Int} {m_told : Int → Int} {m_kept : Int → Int} {m_was : Int → Int} {m_ends : Int → Int} {m_row : Int → Int} (X : Cx G l D cI cB b_Mod_runs y_Mod_runs.cls 3 { frames := 1, cells := 0, slots := 0, locals := 21 }) : ∀ (fuel : Nat) (v1 : Int) (v2 : Int) (m_owner : Int → Int) (o : Int), m_Mod_runs_4 fuel v1 v2 m_owner = some o → Rt G (some .int) (some (.int (zi o))) (w_Mod cI cB a0 a1 a2 a3 a4 a5 a6 a7 a8 a9 a10 a11 a12 a13 a14 a15 m_stepsMade m_stepsMost m_taped m_reading m_statements m_telling m_hasImage m_isKeeping m_cursor m_rowMany m_lots m_refused m_bytes m_owner m_block m_written m_waits m_kinds m_tape m_sort m_sortAt m_told m_kept m_was m_ends m_row) → Wx G 0 0 4 [(0, .ref a0), (1, .int (zi v1)), (2, .int (zi v2))] [] (w_Mod cI cB a0 a1 a2 a3 a4 a5 a6 a7 a8 a9 a10 a11 a12 a13 a14 a15 m_stepsMade m_stepsMost m_taped m_reading m_statements m_telling m_hasImage m_isKeeping m_cursor m_rowMany m_lots m_refused m_bytes m_owner m_block m_written m_waits m_kinds m_tape m_sort m_sortAt m_told m_kept m_was m_ends m_row) := by
  intro fuel
  induction fuel with
  | zero =>
    intro v1 v2 m_owner o h
    exact absurd h (by simp [m_Mod_runs_4])
  | succ fuel ih =>
    intro v1 v2 m_owner o h hR
    rw [m_Mod_runs_4] at h
    refine x_iload_n (pc := 4) X d_Mod_runs_4 2 rfl rfl ?_
    refine x_bipush (pc := 5) (v := 64) X d_Mod_runs_5 rfl ?_
    refine x_icmpge (pc := 7) (tgt := 32) X d_Mod_runs_7 rfl h (fun h => ?_) (fun h => ?_)
    · skip
      refine x_iload_n (pc := 32) X d_Mod_runs_32 1 rfl rfl ?_
      cases h
      exact x_iret (pc := 33) X hR d_Mod_runs_33
    · skip
      refine x_iload_n (pc := 10) X d_Mod_runs_10 1 rfl rfl ?_
      refine x_aload_n (pc := 11) X d_Mod_runs_11 0 rfl rfl ?_
      refine x_iload_n (pc := 12) X d_Mod_runs_12 2 rfl rfl ?_
      obtain ⟨r1, h2, h⟩ := bnd_e h
      refine x_callV (pc := 13) (As := [.int (zi v2)]) (rest := [.int (zi v1)]) (w2 := (w_Mod cI cB a0 a1 a2 a3 a4 a5 a6 a7 a8 a9 a10 a11 a12 a13 a14 a15 m_stepsMade m_stepsMost m_taped m_reading m_statements m_telling m_hasImage m_isKeeping m_cursor m_rowMany m_lots m_refused m_bytes m_owner m_block m_written m_waits m_kinds m_tape m_sort m_sortAt m_told m_kept m_was m_ends m_row)) X d_Mod_runs_13 lk_Mod_86 mv_Mod_beginsRun (c_Mod_beginsRun l D cI cB a0 a1 a2 a3 a4 a5 a6 a7 a8 a9 a10 a11 a12 a13 a14 a15 m_stepsMade m_stepsMost m_taped m_reading m_statements m_telling m_hasImage m_isKeeping m_cursor m_rowMany m_lots m_refused m_bytes m_owner m_block m_written m_waits m_kinds m_tape m_sort m_sortAt m_told m_kept m_was m_ends m_row v2 h2) ⟨(Nat.le_of_ble_eq_true rfl), (Nat.le_of_ble_eq_true rfl), (Nat.le_of_ble_eq_true rfl), (Nat.le_of_ble_eq_true rfl)⟩ 0 rfl rfl [0, 1, 2, 3, 4, 5, 6, 7, 8, 9, 10, 11, 12, 13, 14, 15] rfl rfl rfl (Up.same rfl) rfl rfl (Nat.le_of_ble_eq_true rfl) ?_
      refine x_ifeq (pc := 16) (tgt := 23) X d_Mod_runs_16 rfl h (fun h => ?_) (fun h => ?_)
      · skip
        refine x_iconst (pc := 23) X d_Mod_runs_23  ?_
        refine x_iadd (pc := 24) X d_Mod_runs_24  ?_
        refine x_istore_n (pc := 25) (ls2 := [(1, .int (zi (v1 + 0))), (0, .ref a0), (2, .int (zi v2))]) X d_Mod_runs_25 rfl (Nat.le_of_ble_eq_true rfl) rfl ?_
        refine x_iinc (pc := 26) (ls2 := [(2, .int (zi (v2 + 1))), (1, .int (zi (v1 + 0))), (0, .ref a0)]) X d_Mod_runs_26 2 (Nat.le_of_ble_eq_true rfl) rfl rfl ?_
        refine x_goto (pc := 29) (tgt := 4) X d_Mod_runs_29 rfl ?_
        refine x_ls (ls2 := [(0, .ref a0), (1, .int (zi (v1 + 0))), (2, .int (zi (v2 + 1)))]) [2, 1, 0] rfl ?_
        exact ih (v1 + 0) (v2 + 1) m_owner o h hR
      · skip
        refine x_iconst (pc := 19) X d_Mod_runs_19  ?_
        refine x_goto (pc := 20) (tgt := 24) X d_Mod_runs_20 rfl ?_
        refine x_iadd (pc := 24) X d_Mod_runs_24  ?_
        refine x_istore_n (pc := 25) (ls2 := [(1, .int (zi (v1 + 1))), (0, .ref a0), (2, .int (zi v2))]) X d_Mod_runs_25 rfl (Nat.le_of_ble_eq_true rfl) rfl ?_
        refine x_iinc (pc := 26) (ls2 := [(2, .int (zi (v2 + 1))), (1, .int (zi (v1 + 1))), (0, .ref a0)]) X d_Mod_runs_26 2 (Nat.le_of_ble_eq_true rfl) rfl rfl ?_
        refine x_goto (pc := 29) (tgt := 4) X d_Mod_runs_29 rfl ?_
        refine x_ls (ls2 := [(0, .ref a0), (1, .int (zi (v1 + 1))), (2, .int (zi (v2 + 1)))]) [2, 1, 0] rfl ?_
        exact ih (v1 + 1) (v2 + 1) m_owner o h hR
set_option maxHeartbeats 4000000 in
set_option maxRecDepth 100000 in
theorem c_Mod_runs (l : Launch) (D : va_G) (cI cB : ClassId) (a0 a1 a2 a3 a4 a5 a6 a7 a8 a9 a10 a11 a12 a13 a14 a15 : Nat) (m_stepsMade : Int) (m_stepsMost : Int) (m_taped : Int) (m_reading : Int) (m_statements : Int) (m_telling : Int) (m_hasImage : Int) (m_isKeeping : Int) (m_cursor : Int) (m_rowMany : Int) (m_lots : Int) (m_refused : Int → Int) (m_bytes : Int → Int) (m_owner : Int → Int) (m_block : Int → Int) (m_written : Int → Int) (m_waits : Int → Int) (m_kinds : Int → Int) (m_tape : Int → Int) (m_sort : Int → Int) (m_sortAt : Int → Int) (m_told : Int → Int) (m_kept : Int → Int) (m_was : Int → Int) (m_ends : Int → Int) (m_row : Int → Int)  {o : Int} (h : m_Mod_runs m_owner = some o) : Ct l D cI cB y_Mod_runs b_Mod_runs 3 (some .int) { frames := 1, cells := 0, slots := 0, locals := 21 } [.ref a0] (w_Mod cI cB a0 a1 a2 a3 a4 a5 a6 a7 a8 a9 a10 a11 a12 a13 a14 a15 m_stepsMade m_stepsMost m_taped m_reading m_statements m_telling m_hasImage m_isKeeping m_cursor m_rowMany m_lots m_refused m_bytes m_owner m_block m_written m_waits m_kinds m_tape m_sort m_sortAt m_told m_kept m_was m_ends m_row) (w_Mod cI cB a0 a1 a2 a3 a4 a5 a6 a7 a8 a9 a10 a11 a12 a13 a14 a15 m_stepsMade m_stepsMost m_taped m_reading m_statements m_telling m_hasImage m_isKeeping m_cursor m_rowMany m_lots m_refused m_bytes m_owner m_block m_written m_waits m_kinds m_tape m_sort m_sortAt m_told m_kept m_was m_ends m_row) (some (.int (zi o))) := by
  refine Ct.start (by decide) (Nat.le_of_ble_eq_true rfl) (fun G X hR => ?_)
  refine x_ls (ls2 := [(0, .ref a0)]) [0] rfl ?_
  unfold m_Mod_runs at h
  refine x_iconst (pc := 0) X d_Mod_runs_0  ?_
  refine x_istore_n (pc := 1) (ls2 := [(1, .int (zi 0)), (0, .ref a0)]) X d_Mod_runs_1 rfl (Nat.le_of_ble_eq_true rfl) rfl ?_
  refine x_iconst (pc := 2) X d_Mod_runs_2  ?_
  refine x_istore_n (pc := 3) (ls2 := [(2, .int (zi 0)), (1, .int (zi 0)), (0, .ref a0)]) X d_Mod_runs_3 rfl (Nat.le_of_ble_eq_true rfl) rfl ?_
  refine x_ls (ls2 := [(0, .ref a0), (1, .int (zi 0)), (2, .int (zi 0))]) [2, 1, 0] rfl ?_
  exact l_Mod_runs_4 X 5000 0 0 m_owner o h hR
theorem d_Mod_lots_0 : decode b_Mod_lots 0 = .ok (.iload_n 1, 1) := by decide +kernel
theorem d_Mod_lots_1 : decode b_Mod_lots 1 = .ok (.iconst 1, 1) := by decide +kernel
theorem d_Mod_lots_2 : decode b_Mod_lots 2 = .ok (.bipush 20, 2) := by decide +kernel
theorem d_Mod_lots_4 : decode b_Mod_lots 4 = .ok (.invokestatic 166, 3) := by decide +kernel
theorem d_Mod_lots_7 : decode b_Mod_lots 7 = .ok (.istore 4, 2) := by decide +kernel
theorem d_Mod_lots_9 : decode b_Mod_lots 9 = .ok (.iload 4, 2) := by decide +kernel
theorem d_Mod_lots_11 : decode b_Mod_lots 11 = .ok (.ifCond .ne 16, 3) := by decide +kernel
theorem d_Mod_lots_14 : decode b_Mod_lots 14 = .ok (.iload_n 3, 1) := by decide +kernel
theorem d_Mod_lots_15 : decode b_Mod_lots 15 = .ok (.iconst 0, 1) := by decide +kernel
theorem d_Mod_lots_16 : decode b_Mod_lots 16 = .ok (.iconst 1, 1) := by decide +kernel
theorem d_Mod_lots_17 : decode b_Mod_lots 17 = .ok (.invokestatic 58, 3) := by decide +kernel
theorem d_Mod_lots_20 : decode b_Mod_lots 20 = .ok (.ifCond .ne 7, 3) := by decide +kernel
theorem d_Mod_lots_23 : decode b_Mod_lots 23 = .ok (.bipush (-2), 2) := by decide +kernel
theorem d_Mod_lots_25 : decode b_Mod_lots 25 = .ok (.istore 4, 2) := by decide +kernel
theorem d_Mod_lots_27 : decode b_Mod_lots 27 = .ok (.iload 4, 2) := by decide +kernel
theorem d_Mod_lots_29 : decode b_Mod_lots 29 = .ok (.ifCond .eq 10, 3) := by decide +kernel
theorem d_Mod_lots_32 : decode b_Mod_lots 32 = .ok (.aload_n 0, 1) := by decide +kernel
theorem d_Mod_lots_33 : decode b_Mod_lots 33 = .ok (.iload 4, 2) := by decide +kernel
theorem d_Mod_lots_35 : decode b_Mod_lots 35 = .ok (.invokevirtual 172, 3) := by decide +kernel
theorem d_Mod_lots_38 : decode b_Mod_lots 38 = .ok (.ireturn, 1) := by decide +kernel
theorem d_Mod_lots_39 : decode b_Mod_lots 39 = .ok (.aload_n 0, 1) := by decide +kernel
theorem d_Mod_lots_40 : decode b_Mod_lots 40 = .ok (.iload_n 2, 1) := by decide +kernel
theorem d_Mod_lots_41 : decode b_Mod_lots 41 = .ok (.putfield 355, 3) := by decide +kernel
theorem d_Mod_lots_44 : decode b_Mod_lots 44 = .ok (.iconst 0, 1) := by decide +kernel
theorem d_Mod_lots_45 : decode b_Mod_lots 45 = .ok (.istore 5, 2) := by decide +kernel
theorem d_Mod_lots_47 : decode b_Mod_lots 47 = .ok (.iconst 0, 1) := by decide +kernel
theorem d_Mod_lots_48 : decode b_Mod_lots 48 = .ok (.istore 6, 2) := by decide +kernel
theorem d_Mod_lots_50 : decode b_Mod_lots 50 = .ok (.iload 6, 2) := by decide +kernel
theorem d_Mod_lots_52 : decode b_Mod_lots 52 = .ok (.iload_n 1, 1) := by decide +kernel
theorem d_Mod_lots_53 : decode b_Mod_lots 53 = .ok (.if_icmp .ge 81, 3) := by decide +kernel
theorem d_Mod_lots_56 : decode b_Mod_lots 56 = .ok (.aload_n 0, 1) := by decide +kernel
theorem d_Mod_lots_57 : decode b_Mod_lots 57 = .ok (.invokevirtual 291, 3) := by decide +kernel
theorem d_Mod_lots_60 : decode b_Mod_lots 60 = .ok (.iconst 0, 1) := by decide +kernel
theorem d_Mod_lots_61 : decode b_Mod_lots 61 = .ok (.istore 7, 2) := by decide +kernel
theorem d_Mod_lots_63 : decode b_Mod_lots 63 = .ok (.iload 7, 2) := by decide +kernel
theorem d_Mod_lots_65 : decode b_Mod_lots 65 = .ok (.bipush 8, 2) := by decide +kernel
theorem d_Mod_lots_67 : decode b_Mod_lots 67 = .ok (.if_icmp .ge 13, 3) := by decide +kernel
theorem d_Mod_lots_70 : decode b_Mod_lots 70 = .ok (.aload_n 0, 1) := by decide +kernel
theorem d_Mod_lots_71 : decode b_Mod_lots 71 = .ok (.invokevirtual 364, 3) := by decide +kernel
theorem d_Mod_lots_74 : decode b_Mod_lots 74 = .ok (.iinc 7 1, 3) := by decide +kernel
theorem d_Mod_lots_77 : decode b_Mod_lots 77 = .ok (.goto (-14), 3) := by decide +kernel
theorem d_Mod_lots_80 : decode b_Mod_lots 80 = .ok (.iconst 0, 1) := by decide +kernel
theorem d_Mod_lots_81 : decode b_Mod_lots 81 = .ok (.istore 7, 2) := by decide +kernel
theorem d_Mod_lots_83 : decode b_Mod_lots 83 = .ok (.iload 7, 2) := by decide +kernel
theorem d_Mod_lots_85 : decode b_Mod_lots 85 = .ok (.iconst 4, 1) := by decide +kernel
theorem d_Mod_lots_86 : decode b_Mod_lots 86 = .ok (.if_icmp .ge 18, 3) := by decide +kernel
theorem d_Mod_lots_89 : decode b_Mod_lots 89 = .ok (.aload_n 0, 1) := by decide +kernel
theorem d_Mod_lots_90 : decode b_Mod_lots 90 = .ok (.iload 7, 2) := by decide +kernel
theorem d_Mod_lots_92 : decode b_Mod_lots 92 = .ok (.ldc 165, 2) := by decide +kernel
theorem d_Mod_lots_94 : decode b_Mod_lots 94 = .ok (.invokevirtual 150, 3) := by decide +kernel
theorem d_Mod_lots_97 : decode b_Mod_lots 97 = .ok (.pop, 1) := by decide +kernel
theorem d_Mod_lots_98 : decode b_Mod_lots 98 = .ok (.iinc 7 1, 3) := by decide +kernel
theorem d_Mod_lots_101 : decode b_Mod_lots 101 = .ok (.goto (-18), 3) := by decide +kernel
theorem d_Mod_lots_104 : decode b_Mod_lots 104 = .ok (.iload 5, 2) := by decide +kernel
theorem d_Mod_lots_106 : decode b_Mod_lots 106 = .ok (.iload_n 3, 1) := by decide +kernel
theorem d_Mod_lots_107 : decode b_Mod_lots 107 = .ok (.ifCond .ne 10, 3) := by decide +kernel
theorem d_Mod_lots_110 : decode b_Mod_lots 110 = .ok (.aload_n 0, 1) := by decide +kernel
theorem d_Mod_lots_111 : decode b_Mod_lots 111 = .ok (.invokevirtual 300, 3) := by decide +kernel
theorem d_Mod_lots_114 : decode b_Mod_lots 114 = .ok (.goto 7, 3) := by decide +kernel
theorem d_Mod_lots_117 : decode b_Mod_lots 117 = .ok (.aload_n 0, 1) := by decide +kernel
theorem d_Mod_lots_118 : decode b_Mod_lots 118 = .ok (.invokevirtual 367, 3) := by decide +kernel
theorem d_Mod_lots_121 : decode b_Mod_lots 121 = .ok (.iadd, 1) := by decide +kernel
theorem d_Mod_lots_122 : decode b_Mod_lots 122 = .ok (.istore 5, 2) := by decide +kernel
theorem d_Mod_lots_124 : decode b_Mod_lots 124 = .ok (.aload_n 0, 1) := by decide +kernel
theorem d_Mod_lots_125 : decode b_Mod_lots 125 = .ok (.invokevirtual 294, 3) := by decide +kernel
theorem d_Mod_lots_128 : decode b_Mod_lots 128 = .ok (.iinc 6 1, 3) := by decide +kernel
theorem d_Mod_lots_131 : decode b_Mod_lots 131 = .ok (.goto (-81), 3) := by decide +kernel
theorem d_Mod_lots_134 : decode b_Mod_lots 134 = .ok (.iload 5, 2) := by decide +kernel
theorem d_Mod_lots_136 : decode b_Mod_lots 136 = .ok (.ireturn, 1) := by decide +kernel
def m_Mod_lots_63 (kk : Int → Int → Int → Int → Int → Int → Int → Int → Int → (Int → Int) → (Int → Int) → (Int → Int) → (Int → Int) → (Int → Int) → (Int → Int) → (Int → Int) → (Int → Int) → Option (Int × Int × Int × Int × Int × Int × (Int → Int) × (Int → Int) × (Int → Int) × (Int → Int) × (Int → Int) × (Int → Int) × (Int → Int) × (Int → Int))) : Nat → Int → Int → Int → Int → Int → Int → Int → Int → Int → Int → (Int → Int) → (Int → Int) → (Int → Int) → (Int → Int) → (Int → Int) → (Int → Int) → (Int → Int) → (Int → Int) → Option (Int × Int × Int × Int × Int × Int × (Int → Int) × (Int → Int) × (Int → Int) × (Int → Int) × (Int → Int) × (Int → Int) × (Int → Int) × (Int → Int))
  | 0, _, _, _, _, _, _, _, _, _, _, _, _, _, _, _, _, _, _ => none
  | fuel + 1, v1, v3, v5, v6, v7, m_stepsMade, m_stepsMost, m_isKeeping, m_cursor, m_lots, m_refused, m_bytes, m_owner, m_block, m_written, m_waits, m_kinds, m_kept =>
  clt v7 8 (bnd (m_Mod_saysByLot m_lots m_owner m_block m_waits) (fun r23 => m_Mod_lots_63 kk fuel v1 v3 v5 v6 (v7 + 1) m_stepsMade m_stepsMost m_isKeeping m_cursor r23.1 m_refused m_bytes m_owner m_block m_written r23.2 m_kinds m_kept)) (kk v1 v3 v5 v6 m_stepsMade m_stepsMost m_isKeeping m_cursor m_lots m_refused m_bytes m_owner m_block m_written m_waits m_kinds m_kept)
def m_Mod_lots_83 (kk : Int → Int → Int → Int → Int → Int → Int → Int → Int → (Int → Int) → (Int → Int) → (Int → Int) → (Int → Int) → (Int → Int) → (Int → Int) → (Int → Int) → (Int → Int) → Option (Int × Int × Int × Int × Int × Int × (Int → Int) × (Int → Int) × (Int → Int) × (Int → Int) × (Int → Int) × (Int → Int) × (Int → Int) × (Int → Int))) : Nat → Int → Int → Int → Int → Int → Int → Int → Int → Int → Int → (Int → Int) → (Int → Int) → (Int → Int) → (Int → Int) → (Int → Int) → (Int → Int) → (Int → Int) → (Int → Int) → Option (Int × Int × Int × Int × Int × Int × (Int → Int) × (Int → Int) × (Int → Int) × (Int → Int) × (Int → Int) × (Int → Int) × (Int → Int) × (Int → Int))
  | 0, _, _, _, _, _, _, _, _, _, _, _, _, _, _, _, _, _, _ => none
  | fuel + 1, v1, v3, v5, v6, v7, m_stepsMade, m_stepsMost, m_isKeeping, m_cursor, m_lots, m_refused, m_bytes, m_owner, m_block, m_written, m_waits, m_kinds, m_kept =>
  clt v7 4 (bnd (m_Mod_flushes v7 1000000 m_stepsMade m_stepsMost m_bytes m_owner m_block m_written m_waits m_kinds) (fun r42 => m_Mod_lots_83 kk fuel v1 v3 v5 v6 (v7 + 1) r42.2.1 r42.2.2.1 m_isKeeping m_cursor m_lots m_refused r42.2.2.2.1 r42.2.2.2.2.1 r42.2.2.2.2.2.1 r42.2.2.2.2.2.2.1 r42.2.2.2.2.2.2.2 m_kinds m_kept)) (kk v1 v3 v5 v6 m_stepsMade m_stepsMost m_isKeeping m_cursor m_lots m_refused m_bytes m_owner m_block m_written m_waits m_kinds m_kept)
def m_Mod_lots_50 : Nat → Int → Int → Int → Int → Int → Int → Int → Int → Int → (Int → Int) → (Int → Int) → (Int → Int) → (Int → Int) → (Int → Int) → (Int → Int) → (Int → Int) → (Int → Int) → Option (Int × Int × Int × Int × Int × Int × (Int → Int) × (Int → Int) × (Int → Int) × (Int → Int) × (Int → Int) × (Int → Int) × (Int → Int) × (Int → Int))
  | 0, _, _, _, _, _, _, _, _, _, _, _, _, _, _, _, _, _ => none
  | fuel + 1, v1, v3, v5, v6, m_stepsMade, m_stepsMost, m_isKeeping, m_cursor, m_lots, m_refused, m_bytes, m_owner, m_block, m_written, m_waits, m_kinds, m_kept =>
  clt v6 v1 (bnd (m_Mod_minds m_isKeeping m_cursor m_bytes m_owner m_block m_written m_waits m_kinds m_kept) (fun r21 => m_Mod_lots_63 (fun (z25 : Int) (z26 : Int) (z27 : Int) (z28 : Int) (c29 : Int) (c30 : Int) (c31 : Int) (c32 : Int) (c33 : Int) (c34 : Int → Int) (c35 : Int → Int) (c36 : Int → Int) (c37 : Int → Int) (c38 : Int → Int) (c39 : Int → Int) (c40 : Int → Int) (c41 : Int → Int) => m_Mod_lots_83 (fun (z44 : Int) (z45 : Int) (z46 : Int) (z47 : Int) (c48 : Int) (c49 : Int) (c50 : Int) (c51 : Int) (c52 : Int) (c53 : Int → Int) (c54 : Int → Int) (c55 : Int → Int) (c56 : Int → Int) (c57 : Int → Int) (c58 : Int → Int) (c59 : Int → Int) (c60 : Int → Int) => jn (fun (z62 : Int) (z63 : Int) (z64 : Int) (z65 : Int) (z66 : Int) (c67 : Int) (c68 : Int) (c69 : Int) (c70 : Int) (c71 : Int) (c72 : Int → Int) (c73 : Int → Int) (c74 : Int → Int) (c75 : Int → Int) (c76 : Int → Int) (c77 : Int → Int) (c78 : Int → Int) (c79 : Int → Int) => bnd (m_Mod_forgets c69 c70 c73 c74 c75 c76 c77 c78 c79) (fun r80 => m_Mod_lots_50 fuel z62 z63 (z65 + z66) (z64 + 1) c67 c68 r80.1 r80.2.1 c71 c72 r80.2.2.1 r80.2.2.2.1 r80.2.2.2.2.1 r80.2.2.2.2.2.1 r80.2.2.2.2.2.2.1 r80.2.2.2.2.2.2.2.1 r80.2.2.2.2.2.2.2.2)) (fun j61 => ceq z45 0 (bnd (m_Mod_allExtents c56 c57) (fun r86 => j61 z44 z45 z47 z46 r86 c48 c49 c50 c51 c52 c53 c54 c55 c56 c57 c58 c59 c60)) (bnd (m_Mod_runs c55) (fun r84 => j61 z44 z45 z47 z46 r84 c48 c49 c50 c51 c52 c53 c54 c55 c56 c57 c58 c59 c60)))) 5000 z25 z26 z27 z28 0 c29 c30 c31 c32 c33 c34 c35 c36 c37 c38 c39 c40 c41) 5000 v1 v3 v5 v6 0 m_stepsMade m_stepsMost r21.1 r21.2.1 m_lots m_refused r21.2.2.1 r21.2.2.2.1 r21.2.2.2.2.1 r21.2.2.2.2.2.1 r21.2.2.2.2.2.2.1 r21.2.2.2.2.2.2.2.1 r21.2.2.2.2.2.2.2.2)) (some (v5, m_stepsMade, m_stepsMost, m_isKeeping, m_cursor, m_lots, m_refused, m_bytes, m_owner, m_block, m_written, m_waits, m_kinds, m_kept))
def m_Mod_lots (x1 : Int) (x2 : Int) (x3 : Int) (m_stepsMade : Int) (m_stepsMost : Int) (m_isKeeping : Int) (m_cursor : Int) (m_lots : Int) (m_refused : Int → Int) (m_bytes : Int → Int) (m_owner : Int → Int) (m_block : Int → Int) (m_written : Int → Int) (m_waits : Int → Int) (m_kinds : Int → Int) (m_kept : Int → Int) : Option (Int × Int × Int × Int × Int × Int × (Int → Int) × (Int → Int) × (Int → Int) × (Int → Int) × (Int → Int) × (Int → Int) × (Int → Int) × (Int → Int)) :=
  bnd (m_Mod_bound x1 1 20) (fun r1 => jn (fun (z4 : Int) (z5 : Int) (z6 : Int) (z7 : Int) (c8 : Int) (c9 : Int) (c10 : Int) (c11 : Int) (c12 : Int) (c13 : Int → Int) (c14 : Int → Int) (c15 : Int → Int) (c16 : Int → Int) (c17 : Int → Int) (c18 : Int → Int) (c19 : Int → Int) (c20 : Int → Int) => ceq z7 0 (m_Mod_lots_50 5000 z4 z6 0 0 c8 c9 c10 c11 z5 c13 c14 c15 c16 c17 c18 c19 c20) (bnd (m_Mod_no z7 c13) (fun r88 => some (r88.1, c8, c9, c10, c11, c12, r88.2, c14, c15, c16, c17, c18, c19, c20)))) (fun j3 => ceq r1 0 (bnd (m_Mod_isIn x3 0 1) (fun r92 => ceq r92 0 (j3 x1 x2 x3 (-2) m_stepsMade m_stepsMost m_isKeeping m_cursor m_lots m_refused m_bytes m_owner m_block m_written m_waits m_kinds m_kept) (j3 x1 x2 x3 r1 m_stepsMade m_stepsMost m_isKeeping m_cursor m_lots m_refused m_bytes m_owner m_block m_written m_waits m_kinds m_kept))) (j3 x1 x2 x3 r1 m_stepsMade m_stepsMost m_isKeeping m_cursor m_lots m_refused m_bytes m_owner m_block m_written m_waits m_kinds m_kept)))
set_option maxHeartbeats 4000000 in
set_option maxRecDepth 100000 in
theorem l_Mod_lots_63 {G : GT} {l : Launch} {D : va_G} {cI cB : ClassId} {a0 a1 a2 a3 a4 a5 a6 a7 a8 a9 a10 a11 a12 a13 a14 a15 : Nat} {m_taped : Int} {m_reading : Int} {m_statements : Int} {m_telling : Int} {m_hasImage : Int} {m_rowMany : Int} {m_tape : Int → Int} {m_sort : Int → Int} {m_sortAt : Int → Int} {m_told : Int → Int} {m_was : Int → Int} {m_ends : Int → Int} {m_row : Int → Int} (X : Cx G l D cI cB b_Mod_lots y_Mod_lots.cls 8 { frames := 6, cells := 0, slots := 0, locals := 142 }) (kk : Int → Int → Int → Int → Int → Int → Int → Int → Int → (Int → Int) → (Int → Int) → (Int → Int) → (Int → Int) → (Int → Int) → (Int → Int) → (Int → Int) → (Int → Int) → Option (Int × Int × Int × Int × Int × Int × (Int → Int) × (Int → Int) × (Int → Int) × (Int → Int) × (Int → Int) × (Int → Int) × (Int → Int) × (Int → Int))) : ∀ (fuel : Nat) (v1 : Int) (v3 : Int) (v5 : Int) (v6 : Int) (v7 : Int) (m_stepsMade : Int) (m_stepsMost : Int) (m_isKeeping : Int) (m_cursor : Int) (m_lots : Int) (m_refused : Int → Int) (m_bytes : Int → Int) (m_owner : Int → Int) (m_block : Int → Int) (m_written : Int → Int) (m_waits : Int → Int) (m_kinds : Int → Int) (m_kept : Int → Int) (o : Int × Int × Int × Int × Int × Int × (Int → Int) × (Int → Int) × (Int → Int) × (Int → Int) × (Int → Int) × (Int → Int) × (Int → Int) × (Int → Int)), m_Mod_lots_63 kk fuel v1 v3 v5 v6 v7 m_stepsMade m_stepsMost m_isKeeping m_cursor m_lots m_refused m_bytes m_owner m_block m_written m_waits m_kinds m_kept = some o → (∀ (z1 : Int) (z3 : Int) (z5 : Int) (z6 : Int) (k_m_stepsMade : Int) (k_m_stepsMost : Int) (k_m_isKeeping : Int) (k_m_cursor : Int) (k_m_lots : Int) (k_m_refused : Int → Int) (k_m_bytes : Int → Int) (k_m_owner : Int → Int) (k_m_block : Int → Int) (k_m_written : Int → Int) (k_m_waits : Int → Int) (k_m_kinds : Int → Int) (k_m_kept : Int → Int), kk z1 z3 z5 z6 k_m_stepsMade k_m_stepsMost k_m_isKeeping k_m_cursor k_m_lots k_m_refused k_m_bytes k_m_owner k_m_block k_m_written k_m_waits k_m_kinds k_m_kept = some o → Wx G 0 0 80 [(0, .ref a0), (1, .int (zi z1)), (3, .int (zi z3)), (5, .int (zi z5)), (6, .int (zi z6))] [] (w_Mod cI cB a0 a1 a2 a3 a4 a5 a6 a7 a8 a9 a10 a11 a12 a13 a14 a15 k_m_stepsMade k_m_stepsMost m_taped m_reading m_statements m_telling m_hasImage k_m_isKeeping k_m_cursor m_rowMany k_m_lots k_m_refused k_m_bytes k_m_owner k_m_block k_m_written k_m_waits k_m_kinds m_tape m_sort m_sortAt m_told k_m_kept m_was m_ends m_row)) → Wx G 0 0 63 [(0, .ref a0), (1, .int (zi v1)), (3, .int (zi v3)), (5, .int (zi v5)), (6, .int (zi v6)), (7, .int (zi v7))] [] (w_Mod cI cB a0 a1 a2 a3 a4 a5 a6 a7 a8 a9 a10 a11 a12 a13 a14 a15 m_stepsMade m_stepsMost m_taped m_reading m_statements m_telling m_hasImage m_isKeeping m_cursor m_rowMany m_lots m_refused m_bytes m_owner m_block m_written m_waits m_kinds m_tape m_sort m_sortAt m_told m_kept m_was m_ends m_row) := by
  intro fuel
  induction fuel with
  | zero =>
    intro v1 v3 v5 v6 v7 m_stepsMade m_stepsMost m_isKeeping m_cursor m_lots m_refused m_bytes m_owner m_block m_written m_waits m_kinds m_kept o h
    exact absurd h (by simp [m_Mod_lots_63])
  | succ fuel ih =>
    intro v1 v3 v5 v6 v7 m_stepsMade m_stepsMost m_isKeeping m_cursor m_lots m_refused m_bytes m_owner m_block m_written m_waits m_kinds m_kept o h hk
    rw [m_Mod_lots_63] at h
    refine x_iload (pc := 63) X d_Mod_lots_63 5 rfl ?_
    refine x_bipush (pc := 65) (v := 8) X d_Mod_lots_65 rfl ?_
    refine x_icmpge (pc := 67) (tgt := 80) X d_Mod_lots_67 rfl h (fun h => ?_) (fun h => ?_)
    · skip
      refine x_ls (ls2 := [(0, .ref a0), (1, .int (zi v1)), (3, .int (zi v3)), (5, .int (zi v5)), (6, .int (zi v6))]) [0, 1, 2, 3, 4] rfl ?_
      exact hk v1 v3 v5 v6 m_stepsMade m_stepsMost m_isKeeping m_cursor m_lots m_refused m_bytes m_owner m_block m_written m_waits m_kinds m_kept h
    · skip
      refine x_aload_n (pc := 70) X d_Mod_lots_70 0 rfl rfl ?_
      obtain ⟨r23, h24, h⟩ := bnd_e h
      refine x_callV (pc := 71) (As := []) (rest := []) (w2 := (w_Mod cI cB a0 a1 a2 a3 a4 a5 a6 a7 a8 a9 a10 a11 a12 a13 a14 a15 m_stepsMade m_stepsMost m_taped m_reading m_statements m_telling m_hasImage m_isKeeping m_cursor m_rowMany r23.1 m_refused m_bytes m_owner m_block m_written r23.2 m_kinds m_tape m_sort m_sortAt m_told m_kept m_was m_ends m_row)) X d_Mod_lots_71 lk_Mod_364 mv_Mod_saysByLot (c_Mod_saysByLot l D cI cB a0 a1 a2 a3 a4 a5 a6 a7 a8 a9 a10 a11 a12 a13 a14 a15 m_stepsMade m_stepsMost m_taped m_reading m_statements m_telling m_hasImage m_isKeeping m_cursor m_rowMany m_lots m_refused m_bytes m_owner m_block m_written m_waits m_kinds m_tape m_sort m_sortAt m_told m_kept m_was m_ends m_row h24) ⟨(Nat.le_of_ble_eq_true rfl), (Nat.le_of_ble_eq_true rfl), (Nat.le_of_ble_eq_true rfl), (Nat.le_of_ble_eq_true rfl)⟩ 0 rfl rfl [0, 1, 2, 3, 4, 5, 6, 7, 8, 9, 10, 11, 12, 13, 14, 15] rfl rfl rfl (Up.of [] [] rfl rfl rfl 16 rfl (by decide +kernel)) rfl rfl (Nat.le_of_ble_eq_true rfl) ?_
      refine x_iinc (pc := 74) (ls2 := [(7, .int (zi (v7 + 1))), (0, .ref a0), (1, .int (zi v1)), (3, .int (zi v3)), (5, .int (zi v5)), (6, .int (zi v6))]) X d_Mod_lots_74 5 (Nat.le_of_ble_eq_true rfl) rfl rfl ?_
      refine x_goto (pc := 77) (tgt := 63) X d_Mod_lots_77 rfl ?_
      refine x_ls (ls2 := [(0, .ref a0), (1, .int (zi v1)), (3, .int (zi v3)), (5, .int (zi v5)), (6, .int (zi v6)), (7, .int (zi (v7 + 1)))]) [1, 2, 3, 4, 5, 0] rfl ?_
      exact ih v1 v3 v5 v6 (v7 + 1) m_stepsMade m_stepsMost m_isKeeping m_cursor r23.1 m_refused m_bytes m_owner m_block m_written r23.2 m_kinds m_kept o h hk
set_option maxHeartbeats 4000000 in
set_option maxRecDepth 100000 in
theorem l_Mod_lots_83 {G : GT} {l : Launch} {D : va_G} {cI cB : ClassId} {a0 a1 a2 a3 a4 a5 a6 a7 a8 a9 a10 a11 a12 a13 a14 a15 : Nat} {m_taped : Int} {m_reading : Int} {m_statements : Int} {m_telling : Int} {m_hasImage : Int} {m_rowMany : Int} {m_tape : Int → Int} {m_sort : Int → Int} {m_sortAt : Int → Int} {m_told : Int → Int} {m_was : Int → Int} {m_ends : Int → Int} {m_row : Int → Int} (X : Cx G l D cI cB b_Mod_lots y_Mod_lots.cls 8 { frames := 6, cells := 0, slots := 0, locals := 142 }) (kk : Int → Int → Int → Int → Int → Int → Int → Int → Int → (Int → Int) → (Int → Int) → (Int → Int) → (Int → Int) → (Int → Int) → (Int → Int) → (Int → Int) → (Int → Int) → Option (Int × Int × Int × Int × Int × Int × (Int → Int) × (Int → Int) × (Int → Int) × (Int → Int) × (Int → Int) × (Int → Int) × (Int → Int) × (Int → Int))) : ∀ (fuel : Nat) (v1 : Int) (v3 : Int) (v5 : Int) (v6 : Int) (v7 : Int) (m_stepsMade : Int) (m_stepsMost : Int) (m_isKeeping : Int) (m_cursor : Int) (m_lots : Int) (m_refused : Int → Int) (m_bytes : Int → Int) (m_owner : Int → Int) (m_block : Int → Int) (m_written : Int → Int) (m_waits : Int → Int) (m_kinds : Int → Int) (m_kept : Int → Int) (o : Int × Int × Int × Int × Int × Int × (Int → Int) × (Int → Int) × (Int → Int) × (Int → Int) × (Int → Int) × (Int → Int) × (Int → Int) × (Int → Int)), m_Mod_lots_83 kk fuel v1 v3 v5 v6 v7 m_stepsMade m_stepsMost m_isKeeping m_cursor m_lots m_refused m_bytes m_owner m_block m_written m_waits m_kinds m_kept = some o → (∀ (z1 : Int) (z3 : Int) (z5 : Int) (z6 : Int) (k_m_stepsMade : Int) (k_m_stepsMost : Int) (k_m_isKeeping : Int) (k_m_cursor : Int) (k_m_lots : Int) (k_m_refused : Int → Int) (k_m_bytes : Int → Int) (k_m_owner : Int → Int) (k_m_block : Int → Int) (k_m_written : Int → Int) (k_m_waits : Int → Int) (k_m_kinds : Int → Int) (k_m_kept : Int → Int), kk z1 z3 z5 z6 k_m_stepsMade k_m_stepsMost k_m_isKeeping k_m_cursor k_m_lots k_m_refused k_m_bytes k_m_owner k_m_block k_m_written k_m_waits k_m_kinds k_m_kept = some o → Wx G 0 0 104 [(0, .ref a0), (1, .int (zi z1)), (3, .int (zi z3)), (5, .int (zi z5)), (6, .int (zi z6))] [] (w_Mod cI cB a0 a1 a2 a3 a4 a5 a6 a7 a8 a9 a10 a11 a12 a13 a14 a15 k_m_stepsMade k_m_stepsMost m_taped m_reading m_statements m_telling m_hasImage k_m_isKeeping k_m_cursor m_rowMany k_m_lots k_m_refused k_m_bytes k_m_owner k_m_block k_m_written k_m_waits k_m_kinds m_tape m_sort m_sortAt m_told k_m_kept m_was m_ends m_row)) → Wx G 0 0 83 [(0, .ref a0), (1, .int (zi v1)), (3, .int (zi v3)), (5, .int (zi v5)), (6, .int (zi v6)), (7, .int (zi v7))] [] (w_Mod cI cB a0 a1 a2 a3 a4 a5 a6 a7 a8 a9 a10 a11 a12 a13 a14 a15 m_stepsMade m_stepsMost m_taped m_reading m_statements m_telling m_hasImage m_isKeeping m_cursor m_rowMany m_lots m_refused m_bytes m_owner m_block m_written m_waits m_kinds m_tape m_sort m_sortAt m_told m_kept m_was m_ends m_row) := by
  intro fuel
  induction fuel with
  | zero =>
    intro v1 v3 v5 v6 v7 m_stepsMade m_stepsMost m_isKeeping m_cursor m_lots m_refused m_bytes m_owner m_block m_written m_waits m_kinds m_kept o h
    exact absurd h (by simp [m_Mod_lots_83])
  | succ fuel ih =>
    intro v1 v3 v5 v6 v7 m_stepsMade m_stepsMost m_isKeeping m_cursor m_lots m_refused m_bytes m_owner m_block m_written m_waits m_kinds m_kept o h hk
    rw [m_Mod_lots_83] at h
    refine x_iload (pc := 83) X d_Mod_lots_83 5 rfl ?_
    refine x_iconst (pc := 85) X d_Mod_lots_85  ?_
    refine x_icmpge (pc := 86) (tgt := 104) X d_Mod_lots_86 rfl h (fun h => ?_) (fun h => ?_)
    · skip
      refine x_ls (ls2 := [(0, .ref a0), (1, .int (zi v1)), (3, .int (zi v3)), (5, .int (zi v5)), (6, .int (zi v6))]) [0, 1, 2, 3, 4] rfl ?_
      exact hk v1 v3 v5 v6 m_stepsMade m_stepsMost m_isKeeping m_cursor m_lots m_refused m_bytes m_owner m_block m_written m_waits m_kinds m_kept h
    · skip
      refine x_aload_n (pc := 89) X d_Mod_lots_89 0 rfl rfl ?_
      refine x_iload (pc := 90) X d_Mod_lots_90 5 rfl ?_
      refine x_ldc (pc := 92) X d_Mod_lots_92 cw_Mod_165 cg_Mod_165 ?_
      obtain ⟨r42, h43, h⟩ := bnd_e h
      refine x_callV (pc := 94) (As := [.int (zi v7), .int (zi 1000000)]) (rest := []) (w2 := (w_Mod cI cB a0 a1 a2 a3 a4 a5 a6 a7 a8 a9 a10 a11 a12 a13 a14 a15 r42.2.1 r42.2.2.1 m_taped m_reading m_statements m_telling m_hasImage m_isKeeping m_cursor m_rowMany m_lots m_refused r42.2.2.2.1 r42.2.2.2.2.1 r42.2.2.2.2.2.1 r42.2.2.2.2.2.2.1 r42.2.2.2.2.2.2.2 m_kinds m_tape m_sort m_sortAt m_told m_kept m_was m_ends m_row)) X d_Mod_lots_94 lk_Mod_150 mv_Mod_flushes (c_Mod_flushes l D cI cB a0 a1 a2 a3 a4 a5 a6 a7 a8 a9 a10 a11 a12 a13 a14 a15 m_stepsMade m_stepsMost m_taped m_reading m_statements m_telling m_hasImage m_isKeeping m_cursor m_rowMany m_lots m_refused m_bytes m_owner m_block m_written m_waits m_kinds m_tape m_sort m_sortAt m_told m_kept m_was m_ends m_row v7 1000000 h43) ⟨(Nat.le_of_ble_eq_true rfl), (Nat.le_of_ble_eq_true rfl), (Nat.le_of_ble_eq_true rfl), (Nat.le_of_ble_eq_true rfl)⟩ 0 rfl rfl [0, 1, 2, 3, 4, 5, 6, 7, 8, 9, 10, 11, 12, 13, 14, 15] rfl rfl rfl (Up.of [] [] rfl rfl rfl 16 rfl (by decide +kernel)) rfl rfl (Nat.le_of_ble_eq_true rfl) ?_
      refine x_pop (pc := 97) X d_Mod_lots_97 rfl ?_
      refine x_iinc (pc := 98) (ls2 := [(7, .int (zi (v7 + 1))), (0, .ref a0), (1, .int (zi v1)), (3, .int (zi v3)), (5, .int (zi v5)), (6, .int (zi v6))]) X d_Mod_lots_98 5 (Nat.le_of_ble_eq_true rfl) rfl rfl ?_
      refine x_goto (pc := 101) (tgt := 83) X d_Mod_lots_101 rfl ?_
      refine x_ls (ls2 := [(0, .ref a0), (1, .int (zi v1)), (3, .int (zi v3)), (5, .int (zi v5)), (6, .int (zi v6)), (7, .int (zi (v7 + 1)))]) [1, 2, 3, 4, 5, 0] rfl ?_
      exact ih v1 v3 v5 v6 (v7 + 1) r42.2.1 r42.2.2.1 m_isKeeping m_cursor m_lots m_refused r42.2.2.2.1 r42.2.2.2.2.1 r42.2.2.2.2.2.1 r42.2.2.2.2.2.2.1 r42.2.2.2.2.2.2.2 m_kinds m_kept o h hk
set_option maxHeartbeats 4000000 in
set_option maxRecDepth 100000 in
theorem l_Mod_lots_50 {G : GT} {l : Launch} {D : va_G} {cI cB : ClassId} {a0 a1 a2 a3 a4 a5 a6 a7 a8 a9 a10 a11 a12 a13 a14 a15 : Nat} {m_taped : Int} {m_reading : Int} {m_statements : Int} {m_telling : Int} {m_hasImage : Int} {m_rowMany : Int} {m_tape : Int → Int} {m_sort : Int → Int} {m_sortAt : Int → Int} {m_told : Int → Int} {m_was : Int → Int} {m_ends : Int → Int} {m_row : Int → Int} (X : Cx G l D cI cB b_Mod_lots y_Mod_lots.cls 8 { frames := 6, cells := 0, slots := 0, locals := 142 }) : ∀ (fuel : Nat) (v1 : Int) (v3 : Int) (v5 : Int) (v6 : Int) (m_stepsMade : Int) (m_stepsMost : Int) (m_isKeeping : Int) (m_cursor : Int) (m_lots : Int) (m_refused : Int → Int) (m_bytes : Int → Int) (m_owner : Int → Int) (m_block : Int → Int) (m_written : Int → Int) (m_waits : Int → Int) (m_kinds : Int → Int) (m_kept : Int → Int) (o : Int × Int × Int × Int × Int × Int × (Int → Int) × (Int → Int) × (Int → Int) × (Int → Int) × (Int → Int) × (Int → Int) × (Int → Int) × (Int → Int)), m_Mod_lots_50 fuel v1 v3 v5 v6 m_stepsMade m_stepsMost m_isKeeping m_cursor m_lots m_refused m_bytes m_owner m_block m_written m_waits m_kinds m_kept = some o → Rt G (some .int) (some (.int (zi o.1))) (w_Mod cI cB a0 a1 a2 a3 a4 a5 a6 a7 a8 a9 a10 a11 a12 a13 a14 a15 o.2.1 o.2.2.1 m_taped m_reading m_statements m_telling m_hasImage o.2.2.2.1 o.2.2.2.2.1 m_rowMany o.2.2.2.2.2.1 o.2.2.2.2.2.2.1 o.2.2.2.2.2.2.2.1 o.2.2.2.2.2.2.2.2.1 o.2.2.2.2.2.2.2.2.2.1 o.2.2.2.2.2.2.2.2.2.2.1 o.2.2.2.2.2.2.2.2.2.2.2.1 o.2.2.2.2.2.2.2.2.2.2.2.2.1 m_tape m_sort m_sortAt m_told o.2.2.2.2.2.2.2.2.2.2.2.2.2 m_was m_ends m_row) → Wx G 0 0 50 [(0, .ref a0), (1, .int (zi v1)), (3, .int (zi v3)), (5, .int (zi v5)), (6, .int (zi v6))] [] (w_Mod cI cB a0 a1 a2 a3 a4 a5 a6 a7 a8 a9 a10 a11 a12 a13 a14 a15 m_stepsMade m_stepsMost m_taped m_reading m_statements m_telling m_hasImage m_isKeeping m_cursor m_rowMany m_lots m_refused m_bytes m_owner m_block m_written m_waits m_kinds m_tape m_sort m_sortAt m_told m_kept m_was m_ends m_row) := by
  intro fuel
  induction fuel with
  | zero =>
    intro v1 v3 v5 v6 m_stepsMade m_stepsMost m_isKeeping m_cursor m_lots m_refused m_bytes m_owner m_block m_written m_waits m_kinds m_kept o h
    exact absurd h (by simp [m_Mod_lots_50])
  | succ fuel ih =>
    intro v1 v3 v5 v6 m_stepsMade m_stepsMost m_isKeeping m_cursor m_lots m_refused m_bytes m_owner m_block m_written m_waits m_kinds m_kept o h hR
    rw [m_Mod_lots_50] at h
    refine x_iload (pc := 50) X d_Mod_lots_50 4 rfl ?_
    refine x_iload_n (pc := 52) X d_Mod_lots_52 1 rfl rfl ?_
    refine x_icmpge (pc := 53) (tgt := 134) X d_Mod_lots_53 rfl h (fun h => ?_) (fun h => ?_)
    · skip
      refine x_iload (pc := 134) X d_Mod_lots_134 3 rfl ?_
      cases h
      exact x_iret (pc := 136) X hR d_Mod_lots_136
    · skip
      refine x_aload_n (pc := 56) X d_Mod_lots_56 0 rfl rfl ?_
      obtain ⟨r21, h22, h⟩ := bnd_e h
      refine x_callV (pc := 57) (As := []) (rest := []) (w2 := (w_Mod cI cB a0 a1 a2 a3 a4 a5 a6 a7 a8 a9 a10 a11 a12 a13 a14 a15 m_stepsMade m_stepsMost m_taped m_reading m_statements m_telling m_hasImage r21.1 r21.2.1 m_rowMany m_lots m_refused r21.2.2.1 r21.2.2.2.1 r21.2.2.2.2.1 r21.2.2.2.2.2.1 r21.2.2.2.2.2.2.1 r21.2.2.2.2.2.2.2.1 m_tape m_sort m_sortAt m_told r21.2.2.2.2.2.2.2.2 m_was m_ends m_row)) X d_Mod_lots_57 lk_Mod_291 mv_Mod_minds (c_Mod_minds l D cI cB a0 a1 a2 a3 a4 a5 a6 a7 a8 a9 a10 a11 a12 a13 a14 a15 m_stepsMade m_stepsMost m_taped m_reading m_statements m_telling m_hasImage m_isKeeping m_cursor m_rowMany m_lots m_refused m_bytes m_owner m_block m_written m_waits m_kinds m_tape m_sort m_sortAt m_told m_kept m_was m_ends m_row h22) ⟨(Nat.le_of_ble_eq_true rfl), (Nat.le_of_ble_eq_true rfl), (Nat.le_of_ble_eq_true rfl), (Nat.le_of_ble_eq_true rfl)⟩ 0 rfl rfl [0, 1, 2, 3, 4, 5, 6, 7, 8, 9, 10, 11, 12, 13, 14, 15] rfl rfl rfl (Up.of [] [] rfl rfl rfl 16 rfl (by decide +kernel)) rfl rfl (Nat.le_of_ble_eq_true rfl) ?_
      refine x_iconst (pc := 60) X d_Mod_lots_60  ?_
      refine x_istore (pc := 61) (ls2 := [(7, .int (zi 0)), (0, .ref a0), (1, .int (zi v1)), (3, .int (zi v3)), (5, .int (zi v5)), (6, .int (zi v6))]) X d_Mod_lots_61 (Nat.le_of_ble_eq_true rfl) rfl ?_
      refine x_ls (ls2 := [(0, .ref a0), (1, .int (zi v1)), (3, .int (zi v3)), (5, .int (zi v5)), (6, .int (zi v6)), (7, .int (zi 0))]) [1, 2, 3, 4, 5, 0] rfl ?_
      refine l_Mod_lots_63 X _ 5000 v1 v3 v5 v6 0 m_stepsMade m_stepsMost r21.1 r21.2.1 m_lots m_refused r21.2.2.1 r21.2.2.2.1 r21.2.2.2.2.1 r21.2.2.2.2.2.1 r21.2.2.2.2.2.2.1 r21.2.2.2.2.2.2.2.1 r21.2.2.2.2.2.2.2.2 o h (fun z25 z26 z27 z28 c29 c30 c31 c32 c33 c34 c35 c36 c37 c38 c39 c40 c41 h => ?_)
      · (try dsimp only at h)
        refine x_iconst (pc := 80) X d_Mod_lots_80  ?_
        refine x_istore (pc := 81) (ls2 := [(7, .int (zi 0)), (0, .ref a0), (1, .int (zi z25)), (3, .int (zi z26)), (5, .int (zi z27)), (6, .int (zi z28))]) X d_Mod_lots_81 (Nat.le_of_ble_eq_true rfl) rfl ?_
        refine x_ls (ls2 := [(0, .ref a0), (1, .int (zi z25)), (3, .int (zi z26)), (5, .int (zi z27)), (6, .int (zi z28)), (7, .int (zi 0))]) [1, 2, 3, 4, 5, 0] rfl ?_
        refine l_Mod_lots_83 X _ 5000 z25 z26 z27 z28 0 c29 c30 c31 c32 c33 c34 c35 c36 c37 c38 c39 c40 c41 o h (fun z44 z45 z46 z47 c48 c49 c50 c51 c52 c53 c54 c55 c56 c57 c58 c59 c60 h => ?_)
        · (try dsimp only at h)
          refine x_iload (pc := 104) X d_Mod_lots_104 3 rfl ?_
          refine x_iload_n (pc := 106) X d_Mod_lots_106 2 rfl rfl ?_
          obtain ⟨j61, hj82, h⟩ := jn_e h
          have J83 : ∀ (z62 : Int) (z63 : Int) (z64 : Int) (z65 : Int) (z66 : Int) (c67 : Int) (c68 : Int) (c69 : Int) (c70 : Int) (c71 : Int) (c72 : Int → Int) (c73 : Int → Int) (c74 : Int → Int) (c75 : Int → Int) (c76 : Int → Int) (c77 : Int → Int) (c78 : Int → Int) (c79 : Int → Int), j61 z62 z63 z64 z65 z66 c67 c68 c69 c70 c71 c72 c73 c74 c75 c76 c77 c78 c79 = some o → Wx G 0 0 121 [(0, .ref a0), (1, .int (zi z62)), (3, .int (zi z63)), (6, .int (zi z64))] [.int (zi z66), .int (zi z65)] (w_Mod cI cB a0 a1 a2 a3 a4 a5 a6 a7 a8 a9 a10 a11 a12 a13 a14 a15 c67 c68 m_taped m_reading m_statements m_telling m_hasImage c69 c70 m_rowMany c71 c72 c73 c74 c75 c76 c77 c78 m_tape m_sort m_sortAt m_told c79 m_was m_ends m_row) := by
            intro z62 z63 z64 z65 z66 c67 c68 c69 c70 c71 c72 c73 c74 c75 c76 c77 c78 c79 h
            rw [hj82] at h
            (try dsimp only at h)
            refine x_iadd (pc := 121) X d_Mod_lots_121  ?_
            refine x_istore (pc := 122) (ls2 := [(5, .int (zi (z65 + z66))), (0, .ref a0), (1, .int (zi z62)), (3, .int (zi z63)), (6, .int (zi z64))]) X d_Mod_lots_122 (Nat.le_of_ble_eq_true rfl) rfl ?_
            refine x_aload_n (pc := 124) X d_Mod_lots_124 1 rfl rfl ?_
            obtain ⟨r80, h81, h⟩ := bnd_e h
            refine x_callV (pc := 125) (As := []) (rest := []) (w2 := (w_Mod cI cB a0 a1 a2 a3 a4 a5 a6 a7 a8 a9 a10 a11 a12 a13 a14 a15 c67 c68 m_taped m_reading m_statements m_telling m_hasImage r80.1 r80.2.1 m_rowMany c71 c72 r80.2.2.1 r80.2.2.2.1 r80.2.2.2.2.1 r80.2.2.2.2.2.1 r80.2.2.2.2.2.2.1 r80.2.2.2.2.2.2.2.1 m_tape m_sort m_sortAt m_told r80.2.2.2.2.2.2.2.2 m_was m_ends m_row)) X d_Mod_lots_125 lk_Mod_294 mv_Mod_forgets (c_Mod_forgets l D cI cB a0 a1 a2 a3 a4 a5 a6 a7 a8 a9 a10 a11 a12 a13 a14 a15 c67 c68 m_taped m_reading m_statements m_telling m_hasImage c69 c70 m_rowMany c71 c72 c73 c74 c75 c76 c77 c78 m_tape m_sort m_sortAt m_told c79 m_was m_ends m_row h81) ⟨(Nat.le_of_ble_eq_true rfl), (Nat.le_of_ble_eq_true rfl), (Nat.le_of_ble_eq_true rfl), (Nat.le_of_ble_eq_true rfl)⟩ 0 rfl rfl [0, 1, 2, 3, 4, 5, 6, 7, 8, 9, 10, 11, 12, 13, 14, 15] rfl rfl rfl (Up.of [] [] rfl rfl rfl 16 rfl (by decide +kernel)) rfl rfl (Nat.le_of_ble_eq_true rfl) ?_
            refine x_iinc (pc := 128) (ls2 := [(6, .int (zi (z64 + 1))), (5, .int (zi (z65 + z66))), (0, .ref a0), (1, .int (zi z62)), (3, .int (zi z63))]) X d_Mod_lots_128 4 (Nat.le_of_ble_eq_true rfl) rfl rfl ?_
            refine x_goto (pc := 131) (tgt := 50) X d_Mod_lots_131 rfl ?_
            refine x_ls (ls2 := [(0, .ref a0), (1, .int (zi z62)), (3, .int (zi z63)), (5, .int (zi (z65 + z66))), (6, .int (zi (z64 + 1)))]) [2, 3, 4, 1, 0] rfl ?_
            exact ih z62 z63 (z65 + z66) (z64 + 1) c67 c68 r80.1 r80.2.1 c71 c72 r80.2.2.1 r80.2.2.2.1 r80.2.2.2.2.1 r80.2.2.2.2.2.1 r80.2.2.2.2.2.2.1 r80.2.2.2.2.2.2.2.1 r80.2.2.2.2.2.2.2.2 o h hR
          clear hj82
          refine x_ifne (pc := 107) (tgt := 117) X d_Mod_lots_107 rfl h (fun h => ?_) (fun h => ?_)
          · skip
            refine x_aload_n (pc := 117) X d_Mod_lots_117 0 rfl rfl ?_
            obtain ⟨r84, h85, h⟩ := bnd_e h
            refine x_callV (pc := 118) (As := []) (rest := [.int (zi z46)]) (w2 := (w_Mod cI cB a0 a1 a2 a3 a4 a5 a6 a7 a8 a9 a10 a11 a12 a13 a14 a15 c48 c49 m_taped m_reading m_statements m_telling m_hasImage c50 c51 m_rowMany c52 c53 c54 c55 c56 c57 c58 c59 m_tape m_sort m_sortAt m_told c60 m_was m_ends m_row)) X d_Mod_lots_118 lk_Mod_367 mv_Mod_runs (c_Mod_runs l D cI cB a0 a1 a2 a3 a4 a5 a6 a7 a8 a9 a10 a11 a12 a13 a14 a15 c48 c49 m_taped m_reading m_statements m_telling m_hasImage c50 c51 m_rowMany c52 c53 c54 c55 c56 c57 c58 c59 m_tape m_sort m_sortAt m_told c60 m_was m_ends m_row h85) ⟨(Nat.le_of_ble_eq_true rfl), (Nat.le_of_ble_eq_true rfl), (Nat.le_of_ble_eq_true rfl), (Nat.le_of_ble_eq_true rfl)⟩ 0 rfl rfl [0, 1, 2, 3, 4, 5, 6, 7, 8, 9, 10, 11, 12, 13, 14, 15] rfl rfl rfl (Up.same rfl) rfl rfl (Nat.le_of_ble_eq_true rfl) ?_
            refine x_ls (ls2 := [(0, .ref a0), (1, .int (zi z44)), (3, .int (zi z45)), (6, .int (zi z47))]) [0, 1, 2, 4] rfl ?_
            exact J83 z44 z45 z47 z46 r84 c48 c49 c50 c51 c52 c53 c54 c55 c56 c57 c58 c59 c60 h
          · skip
            refine x_aload_n (pc := 110) X d_Mod_lots_110 0 rfl rfl ?_
            obtain ⟨r86, h87, h⟩ := bnd_e h
            refine x_callV (pc := 111) (As := []) (rest := [.int (zi z46)]) (w2 := (w_Mod cI cB a0 a1 a2 a3 a4 a5 a6 a7 a8 a9 a10 a11 a12 a13 a14 a15 c48 c49 m_taped m_reading m_statements m_telling m_hasImage c50 c51 m_rowMany c52 c53 c54 c55 c56 c57 c58 c59 m_tape m_sort m_sortAt m_told c60 m_was m_ends m_row)) X d_Mod_lots_111 lk_Mod_300 mv_Mod_allExtents (c_Mod_allExtents l D cI cB a0 a1 a2 a3 a4 a5 a6 a7 a8 a9 a10 a11 a12 a13 a14 a15 c48 c49 m_taped m_reading m_statements m_telling m_hasImage c50 c51 m_rowMany c52 c53 c54 c55 c56 c57 c58 c59 m_tape m_sort m_sortAt m_told c60 m_was m_ends m_row h87) ⟨(Nat.le_of_ble_eq_true rfl), (Nat.le_of_ble_eq_true rfl), (Nat.le_of_ble_eq_true rfl), (Nat.le_of_ble_eq_true rfl)⟩ 0 rfl rfl [0, 1, 2, 3, 4, 5, 6, 7, 8, 9, 10, 11, 12, 13, 14, 15] rfl rfl rfl (Up.same rfl) rfl rfl (Nat.le_of_ble_eq_true rfl) ?_
            refine x_goto (pc := 114) (tgt := 121) X d_Mod_lots_114 rfl ?_
            refine x_ls (ls2 := [(0, .ref a0), (1, .int (zi z44)), (3, .int (zi z45)), (6, .int (zi z47))]) [0, 1, 2, 4] rfl ?_
            exact J83 z44 z45 z47 z46 r86 c48 c49 c50 c51 c52 c53 c54 c55 c56 c57 c58 c59 c60 h
set_option maxHeartbeats 4000000 in
set_option maxRecDepth 100000 in
theorem c_Mod_lots (l : Launch) (D : va_G) (cI cB : ClassId) (a0 a1 a2 a3 a4 a5 a6 a7 a8 a9 a10 a11 a12 a13 a14 a15 : Nat) (m_stepsMade : Int) (m_stepsMost : Int) (m_taped : Int) (m_reading : Int) (m_statements : Int) (m_telling : Int) (m_hasImage : Int) (m_isKeeping : Int) (m_cursor : Int) (m_rowMany : Int) (m_lots : Int) (m_refused : Int → Int) (m_bytes : Int → Int) (m_owner : Int → Int) (m_block : Int → Int) (m_written : Int → Int) (m_waits : Int → Int) (m_kinds : Int → Int) (m_tape : Int → Int) (m_sort : Int → Int) (m_sortAt : Int → Int) (m_told : Int → Int) (m_kept : Int → Int) (m_was : Int → Int) (m_ends : Int → Int) (m_row : Int → Int) (x1 : Int) (x2 : Int) (x3 : Int) {o : Int × Int × Int × Int × Int × Int × (Int → Int) × (Int → Int) × (Int → Int) × (Int → Int) × (Int → Int) × (Int → Int) × (Int → Int) × (Int → Int)} (h : m_Mod_lots x1 x2 x3 m_stepsMade m_stepsMost m_isKeeping m_cursor m_lots m_refused m_bytes m_owner m_block m_written m_waits m_kinds m_kept = some o) : Ct l D cI cB y_Mod_lots b_Mod_lots 8 (some .int) { frames := 6, cells := 0, slots := 0, locals := 142 } [.ref a0, .int (zi x1), .int (zi x2), .int (zi x3)] (w_Mod cI cB a0 a1 a2 a3 a4 a5 a6 a7 a8 a9 a10 a11 a12 a13 a14 a15 m_stepsMade m_stepsMost m_taped m_reading m_statements m_telling m_hasImage m_isKeeping m_cursor m_rowMany m_lots m_refused m_bytes m_owner m_block m_written m_waits m_kinds m_tape m_sort m_sortAt m_told m_kept m_was m_ends m_row) (w_Mod cI cB a0 a1 a2 a3 a4 a5 a6 a7 a8 a9 a10 a11 a12 a13 a14 a15 o.2.1 o.2.2.1 m_taped m_reading m_statements m_telling m_hasImage o.2.2.2.1 o.2.2.2.2.1 m_rowMany o.2.2.2.2.2.1 o.2.2.2.2.2.2.1 o.2.2.2.2.2.2.2.1 o.2.2.2.2.2.2.2.2.1 o.2.2.2.2.2.2.2.2.2.1 o.2.2.2.2.2.2.2.2.2.2.1 o.2.2.2.2.2.2.2.2.2.2.2.1 o.2.2.2.2.2.2.2.2.2.2.2.2.1 m_tape m_sort m_sortAt m_told o.2.2.2.2.2.2.2.2.2.2.2.2.2 m_was m_ends m_row) (some (.int (zi o.1))) := by
  refine Ct.start (by decide) (Nat.le_of_ble_eq_true rfl) (fun G X hR => ?_)
  refine x_ls (ls2 := [(0, .ref a0), (1, .int (zi x1)), (2, .int (zi x2)), (3, .int (zi x3))]) [0, 1, 2, 3] rfl ?_
  unfold m_Mod_lots at h
  refine x_iload_n (pc := 0) X d_Mod_lots_0 1 rfl rfl ?_
  refine x_iconst (pc := 1) X d_Mod_lots_1  ?_
  refine x_bipush (pc := 2) (v := 20) X d_Mod_lots_2 rfl ?_
  obtain ⟨r1, h2, h⟩ := bnd_e h
  refine x_callS (pc := 4) (As := [.int (zi x1), .int (zi 1), .int (zi 20)]) (rest := []) (w2 := (w_Mod cI cB a0 a1 a2 a3 a4 a5 a6 a7 a8 a9 a10 a11 a12 a13 a14 a15 m_stepsMade m_stepsMost m_taped m_reading m_statements m_telling m_hasImage m_isKeeping m_cursor m_rowMany m_lots m_refused m_bytes m_owner m_block m_written m_waits m_kinds m_tape m_sort m_sortAt m_told m_kept m_was m_ends m_row)) X d_Mod_lots_4 lk_Mod_166 mv_Mod_bound (c_Mod_bound l D cI cB x1 1 20 h2) ⟨(Nat.le_of_ble_eq_true rfl), (Nat.le_of_ble_eq_true rfl), (Nat.le_of_ble_eq_true rfl), (Nat.le_of_ble_eq_true rfl)⟩ [] rfl rfl rfl (Up.same rfl) rfl rfl (Nat.le_of_ble_eq_true rfl) ?_
  refine x_istore (pc := 7) (ls2 := [(4, .int (zi r1)), (0, .ref a0), (1, .int (zi x1)), (2, .int (zi x2)), (3, .int (zi x3))]) X d_Mod_lots_7 (Nat.le_of_ble_eq_true rfl) rfl ?_
  refine x_iload (pc := 9) X d_Mod_lots_9 0 rfl ?_
  obtain ⟨j3, hj90, h⟩ := jn_e h
  have J91 : ∀ (z4 : Int) (z5 : Int) (z6 : Int) (z7 : Int) (c8 : Int) (c9 : Int) (c10 : Int) (c11 : Int) (c12 : Int) (c13 : Int → Int) (c14 : Int → Int) (c15 : Int → Int) (c16 : Int → Int) (c17 : Int → Int) (c18 : Int → Int) (c19 : Int → Int) (c20 : Int → Int), j3 z4 z5 z6 z7 c8 c9 c10 c11 c12 c13 c14 c15 c16 c17 c18 c19 c20 = some o → Wx G 0 0 27 [(0, .ref a0), (1, .int (zi z4)), (2, .int (zi z5)), (3, .int (zi z6)), (4, .int (zi z7))] [] (w_Mod cI cB a0 a1 a2 a3 a4 a5 a6 a7 a8 a9 a10 a11 a12 a13 a14 a15 c8 c9 m_taped m_reading m_statements m_telling m_hasImage c10 c11 m_rowMany c12 c13 c14 c15 c16 c17 c18 c19 m_tape m_sort m_sortAt m_told c20 m_was m_ends m_row) := by
    intro z4 z5 z6 z7 c8 c9 c10 c11 c12 c13 c14 c15 c16 c17 c18 c19 c20 h
    rw [hj90] at h
    (try dsimp only at h)
    refine x_iload (pc := 27) X d_Mod_lots_27 4 rfl ?_
    refine x_ifeq (pc := 29) (tgt := 39) X d_Mod_lots_29 rfl h (fun h => ?_) (fun h => ?_)
    · skip
      refine x_aload_n (pc := 39) X d_Mod_lots_39 0 rfl rfl ?_
      refine x_iload_n (pc := 40) X d_Mod_lots_40 2 rfl rfl ?_
      refine x_put (pc := 41) (w2 := (w_Mod cI cB a0 a1 a2 a3 a4 a5 a6 a7 a8 a9 a10 a11 a12 a13 a14 a15 c8 c9 m_taped m_reading m_statements m_telling m_hasImage c10 c11 m_rowMany z5 c13 c14 c15 c16 c17 c18 c19 m_tape m_sort m_sortAt m_told c20 m_was m_ends m_row)) X d_Mod_lots_41 0 rfl (fp_Mod_355 _) (Nat.le_of_ble_eq_true rfl) rfl ?_
      refine x_iconst (pc := 44) X d_Mod_lots_44  ?_
      refine x_istore (pc := 45) (ls2 := [(5, .int (zi 0)), (0, .ref a0), (1, .int (zi z4)), (2, .int (zi z5)), (3, .int (zi z6)), (4, .int (zi z7))]) X d_Mod_lots_45 (Nat.le_of_ble_eq_true rfl) rfl ?_
      refine x_iconst (pc := 47) X d_Mod_lots_47  ?_
      refine x_istore (pc := 48) (ls2 := [(6, .int (zi 0)), (5, .int (zi 0)), (0, .ref a0), (1, .int (zi z4)), (2, .int (zi z5)), (3, .int (zi z6)), (4, .int (zi z7))]) X d_Mod_lots_48 (Nat.le_of_ble_eq_true rfl) rfl ?_
      refine x_ls (ls2 := [(0, .ref a0), (1, .int (zi z4)), (3, .int (zi z6)), (5, .int (zi 0)), (6, .int (zi 0))]) [2, 3, 5, 1, 0] rfl ?_
      exact l_Mod_lots_50 X 5000 z4 z6 0 0 c8 c9 c10 c11 z5 c13 c14 c15 c16 c17 c18 c19 c20 o h hR
    · skip
      refine x_aload_n (pc := 32) X d_Mod_lots_32 0 rfl rfl ?_
      refine x_iload (pc := 33) X d_Mod_lots_33 4 rfl ?_
      obtain ⟨r88, h89, h⟩ := bnd_e h
      refine x_callV (pc := 35) (As := [.int (zi z7)]) (rest := []) (w2 := (w_Mod cI cB a0 a1 a2 a3 a4 a5 a6 a7 a8 a9 a10 a11 a12 a13 a14 a15 c8 c9 m_taped m_reading m_statements m_telling m_hasImage c10 c11 m_rowMany c12 r88.2 c14 c15 c16 c17 c18 c19 m_tape m_sort m_sortAt m_told c20 m_was m_ends m_row)) X d_Mod_lots_35 lk_Mod_172 mv_Mod_no (c_Mod_no l D cI cB a0 a1 a2 a3 a4 a5 a6 a7 a8 a9 a10 a11 a12 a13 a14 a15 c8 c9 m_taped m_reading m_statements m_telling m_hasImage c10 c11 m_rowMany c12 c13 c14 c15 c16 c17 c18 c19 m_tape m_sort m_sortAt m_told c20 m_was m_ends m_row z7 h89) ⟨(Nat.le_of_ble_eq_true rfl), (Nat.le_of_ble_eq_true rfl), (Nat.le_of_ble_eq_true rfl), (Nat.le_of_ble_eq_true rfl)⟩ 0 rfl rfl [0, 1, 2, 3, 4, 5, 6, 7, 8, 9, 10, 11, 12, 13, 14, 15] rfl rfl rfl (Up.of [] [] rfl rfl rfl 16 rfl (by decide +kernel)) rfl rfl (Nat.le_of_ble_eq_true rfl) ?_
      cases h
      exact x_iret (pc := 38) X hR d_Mod_lots_38
  clear hj90
  refine x_ifne (pc := 11) (tgt := 27) X d_Mod_lots_11 rfl h (fun h => ?_) (fun h => ?_)
  · skip
    refine x_ls (ls2 := [(0, .ref a0), (1, .int (zi x1)), (2, .int (zi x2)), (3, .int (zi x3)), (4, .int (zi r1))]) [1, 2, 3, 4, 0] rfl ?_
    exact J91 x1 x2 x3 r1 m_stepsMade m_stepsMost m_isKeeping m_cursor m_lots m_refused m_bytes m_owner m_block m_written m_waits m_kinds m_kept h
  · skip
    refine x_iload_n (pc := 14) X d_Mod_lots_14 4 rfl rfl ?_
    refine x_iconst (pc := 15) X d_Mod_lots_15  ?_
    refine x_iconst (pc := 16) X d_Mod_lots_16  ?_
    obtain ⟨r92, h93, h⟩ := bnd_e h
    refine x_callS (pc := 17) (As := [.int (zi x3), .int (zi 0), .int (zi 1)]) (rest := []) (w2 := (w_Mod cI cB a0 a1 a2 a3 a4 a5 a6 a7 a8 a9 a10 a11 a12 a13 a14 a15 m_stepsMade m_stepsMost m_taped m_reading m_statements m_telling m_hasImage m_isKeeping m_cursor m_rowMany m_lots m_refused m_bytes m_owner m_block m_written m_waits m_kinds m_tape m_sort m_sortAt m_told m_kept m_was m_ends m_row)) X d_Mod_lots_17 lk_Mod_58 mv_Mod_isIn (c_Mod_isIn l D cI cB x3 0 1 h93) ⟨(Nat.le_of_ble_eq_true rfl), (Nat.le_of_ble_eq_true rfl), (Nat.le_of_ble_eq_true rfl), (Nat.le_of_ble_eq_true rfl)⟩ [] rfl rfl rfl (Up.same rfl) rfl rfl (Nat.le_of_ble_eq_true rfl) ?_
    refine x_ifne (pc := 20) (tgt := 27) X d_Mod_lots_20 rfl h (fun h => ?_) (fun h => ?_)
    · skip
      refine x_ls (ls2 := [(0, .ref a0), (1, .int (zi x1)), (2, .int (zi x2)), (3, .int (zi x3)), (4, .int (zi r1))]) [1, 2, 3, 4, 0] rfl ?_
      exact J91 x1 x2 x3 r1 m_stepsMade m_stepsMost m_isKeeping m_cursor m_lots m_refused m_bytes m_owner m_block m_written m_waits m_kinds m_kept h
    · skip
      refine x_bipush (pc := 23) (v := -2) X d_Mod_lots_23 rfl ?_
      refine x_istore (pc := 25) (ls2 := [(4, .int (zi (-2))), (0, .ref a0), (1, .int (zi x1)), (2, .int (zi x2)), (3, .int (zi x3))]) X d_Mod_lots_25 (Nat.le_of_ble_eq_true rfl) rfl ?_
      refine x_ls (ls2 := [(0, .ref a0), (1, .int (zi x1)), (2, .int (zi x2)), (3, .int (zi x3)), (4, .int (zi (-2)))]) [1, 2, 3, 4, 0] rfl ?_
      exact J91 x1 x2 x3 (-2) m_stepsMade m_stepsMost m_isKeeping m_cursor m_lots m_refused m_bytes m_owner m_block m_written m_waits m_kinds m_kept h
theorem d_Mod_count_0 : decode b_Mod_count 0 = .ok (.iload_n 1, 1) := by decide +kernel
theorem d_Mod_count_1 : decode b_Mod_count 1 = .ok (.bipush 11, 2) := by decide +kernel
theorem d_Mod_count_3 : decode b_Mod_count 3 = .ok (.bipush 16, 2) := by decide +kernel
theorem d_Mod_count_5 : decode b_Mod_count 5 = .ok (.invokestatic 58, 3) := by decide +kernel
theorem d_Mod_count_8 : decode b_Mod_count 8 = .ok (.ifCond .eq 13, 3) := by decide +kernel
theorem d_Mod_count_11 : decode b_Mod_count 11 = .ok (.aload_n 0, 1) := by decide +kernel
theorem d_Mod_count_12 : decode b_Mod_count 12 = .ok (.getfield 7, 3) := by decide +kernel
theorem d_Mod_count_15 : decode b_Mod_count 15 = .ok (.iload_n 1, 1) := by decide +kernel
theorem d_Mod_count_16 : decode b_Mod_count 16 = .ok (.bipush 10, 2) := by decide +kernel
theorem d_Mod_count_18 : decode b_Mod_count 18 = .ok (.isub, 1) := by decide +kernel
theorem d_Mod_count_19 : decode b_Mod_count 19 = .ok (.iaload, 1) := by decide +kernel
theorem d_Mod_count_20 : decode b_Mod_count 20 = .ok (.ireturn, 1) := by decide +kernel
theorem d_Mod_count_21 : decode b_Mod_count 21 = .ok (.iload_n 1, 1) := by decide +kernel
theorem d_Mod_count_22 : decode b_Mod_count 22 = .ok (.tableswitch 86 0 7 #[46, 51, 56, 61, 66, 71, 76, 81], 46) := by decide +kernel
theorem d_Mod_count_68 : decode b_Mod_count 68 = .ok (.aload_n 0, 1) := by decide +kernel
theorem d_Mod_count_69 : decode b_Mod_count 69 = .ok (.invokevirtual 72, 3) := by decide +kernel
theorem d_Mod_count_72 : decode b_Mod_count 72 = .ok (.ireturn, 1) := by decide +kernel
theorem d_Mod_count_73 : decode b_Mod_count 73 = .ok (.aload_n 0, 1) := by decide +kernel
theorem d_Mod_count_74 : decode b_Mod_count 74 = .ok (.invokevirtual 76, 3) := by decide +kernel
theorem d_Mod_count_77 : decode b_Mod_count 77 = .ok (.ireturn, 1) := by decide +kernel
theorem d_Mod_count_78 : decode b_Mod_count 78 = .ok (.aload_n 0, 1) := by decide +kernel
theorem d_Mod_count_79 : decode b_Mod_count 79 = .ok (.invokevirtual 162, 3) := by decide +kernel
theorem d_Mod_count_82 : decode b_Mod_count 82 = .ok (.ireturn, 1) := by decide +kernel
theorem d_Mod_count_83 : decode b_Mod_count 83 = .ok (.aload_n 0, 1) := by decide +kernel
theorem d_Mod_count_84 : decode b_Mod_count 84 = .ok (.invokevirtual 367, 3) := by decide +kernel
theorem d_Mod_count_87 : decode b_Mod_count 87 = .ok (.ireturn, 1) := by decide +kernel
theorem d_Mod_count_88 : decode b_Mod_count 88 = .ok (.aload_n 0, 1) := by decide +kernel
theorem d_Mod_count_89 : decode b_Mod_count 89 = .ok (.invokevirtual 122, 3) := by decide +kernel
theorem d_Mod_count_92 : decode b_Mod_count 92 = .ok (.ireturn, 1) := by decide +kernel
theorem d_Mod_count_93 : decode b_Mod_count 93 = .ok (.aload_n 0, 1) := by decide +kernel
theorem d_Mod_count_94 : decode b_Mod_count 94 = .ok (.invokevirtual 300, 3) := by decide +kernel
theorem d_Mod_count_97 : decode b_Mod_count 97 = .ok (.ireturn, 1) := by decide +kernel
theorem d_Mod_count_98 : decode b_Mod_count 98 = .ok (.aload_n 0, 1) := by decide +kernel
theorem d_Mod_count_99 : decode b_Mod_count 99 = .ok (.getfield 349, 3) := by decide +kernel
theorem d_Mod_count_102 : decode b_Mod_count 102 = .ok (.ireturn, 1) := by decide +kernel
theorem d_Mod_count_103 : decode b_Mod_count 103 = .ok (.aload_n 0, 1) := by decide +kernel
theorem d_Mod_count_104 : decode b_Mod_count 104 = .ok (.getfield 169, 3) := by decide +kernel
theorem d_Mod_count_107 : decode b_Mod_count 107 = .ok (.ireturn, 1) := by decide +kernel
theorem d_Mod_count_108 : decode b_Mod_count 108 = .ok (.bipush (-9), 2) := by decide +kernel
theorem d_Mod_count_110 : decode b_Mod_count 110 = .ok (.ireturn, 1) := by decide +kernel
def m_Mod_count (x1 : Int) (m_taped : Int) (m_rowMany : Int) (m_refused : Int → Int) (m_owner : Int → Int) (m_block : Int → Int) (m_written : Int → Int) (m_waits : Int → Int) : Option (Int) :=
  bnd (m_Mod_isIn x1 11 16) (fun r1 => ceq r1 0 (ceq x1 0 (bnd (m_Mod_freeBlocks m_owner) (fun r3 => some (r3))) (ceq x1 1 (bnd (m_Mod_reserved m_block m_waits) (fun r5 => some (r5))) (ceq x1 2 (bnd (m_Mod_roomNow m_owner m_block m_waits) (fun r7 => some (r7))) (ceq x1 3 (bnd (m_Mod_runs m_owner) (fun r9 => some (r9))) (ceq x1 4 (bnd (m_Mod_greatestSize m_owner) (fun r11 => some (r11))) (ceq x1 5 (bnd (m_Mod_allExtents m_block m_written) (fun r13 => some (r13))) (ceq x1 6 (some (m_rowMany)) (ceq x1 7 (some (m_taped)) (some ((-9))))))))))) (gd (zx (x1 - 10) 7) (some ((m_refused (x1 - 10))))))
set_option maxHeartbeats 4000000 in
set_option maxRecDepth 100000 in
theorem c_Mod_count (l : Launch) (D : va_G) (cI cB : ClassId) (a0 a1 a2 a3 a4 a5 a6 a7 a8 a9 a10 a11 a12 a13 a14 a15 : Nat) (m_stepsMade : Int) (m_stepsMost : Int) (m_taped : Int) (m_reading : Int) (m_statements : Int) (m_telling : Int) (m_hasImage : Int) (m_isKeeping : Int) (m_cursor : Int) (m_rowMany : Int) (m_lots : Int) (m_refused : Int → Int) (m_bytes : Int → Int) (m_owner : Int → Int) (m_block : Int → Int) (m_written : Int → Int) (m_waits : Int → Int) (m_kinds : Int → Int) (m_tape : Int → Int) (m_sort : Int → Int) (m_sortAt : Int → Int) (m_told : Int → Int) (m_kept : Int → Int) (m_was : Int → Int) (m_ends : Int → Int) (m_row : Int → Int) (x1 : Int) {o : Int} (h : m_Mod_count x1 m_taped m_rowMany m_refused m_owner m_block m_written m_waits = some o) : Ct l D cI cB y_Mod_count b_Mod_count 2 (some .int) { frames := 4, cells := 0, slots := 0, locals := 87 } [.ref a0, .int (zi x1)] (w_Mod cI cB a0 a1 a2 a3 a4 a5 a6 a7 a8 a9 a10 a11 a12 a13 a14 a15 m_stepsMade m_stepsMost m_taped m_reading m_statements m_telling m_hasImage m_isKeeping m_cursor m_rowMany m_lots m_refused m_bytes m_owner m_block m_written m_waits m_kinds m_tape m_sort m_sortAt m_told m_kept m_was m_ends m_row) (w_Mod cI cB a0 a1 a2 a3 a4 a5 a6 a7 a8 a9 a10 a11 a12 a13 a14 a15 m_stepsMade m_stepsMost m_taped m_reading m_statements m_telling m_hasImage m_isKeeping m_cursor m_rowMany m_lots m_refused m_bytes m_owner m_block m_written m_waits m_kinds m_tape m_sort m_sortAt m_told m_kept m_was m_ends m_row) (some (.int (zi o))) := by
  refine Ct.start (by decide) (Nat.le_of_ble_eq_true rfl) (fun G X hR => ?_)
  refine x_ls (ls2 := [(0, .ref a0), (1, .int (zi x1))]) [0, 1] rfl ?_
  unfold m_Mod_count at h
  refine x_iload_n (pc := 0) X d_Mod_count_0 1 rfl rfl ?_
  refine x_bipush (pc := 1) (v := 11) X d_Mod_count_1 rfl ?_
  refine x_bipush (pc := 3) (v := 16) X d_Mod_count_3 rfl ?_
  obtain ⟨r1, h2, h⟩ := bnd_e h
  refine x_callS (pc := 5) (As := [.int (zi x1), .int (zi 11), .int (zi 16)]) (rest := []) (w2 := (w_Mod cI cB a0 a1 a2 a3 a4 a5 a6 a7 a8 a9 a10 a11 a12 a13 a14 a15 m_stepsMade m_stepsMost m_taped m_reading m_statements m_telling m_hasImage m_isKeeping m_cursor m_rowMany m_lots m_refused m_bytes m_owner m_block m_written m_waits m_kinds m_tape m_sort m_sortAt m_told m_kept m_was m_ends m_row)) X d_Mod_count_5 lk_Mod_58 mv_Mod_isIn (c_Mod_isIn l D cI cB x1 11 16 h2) ⟨(Nat.le_of_ble_eq_true rfl), (Nat.le_of_ble_eq_true rfl), (Nat.le_of_ble_eq_true rfl), (Nat.le_of_ble_eq_true rfl)⟩ [] rfl rfl rfl (Up.same rfl) rfl rfl (Nat.le_of_ble_eq_true rfl) ?_
  refine x_ifeq (pc := 8) (tgt := 21) X d_Mod_count_8 rfl h (fun h => ?_) (fun h => ?_)
  · skip
    refine x_iload_n (pc := 21) X d_Mod_count_21 1 rfl rfl ?_
    obtain ⟨hz, h⟩ := ceq_e h
    rcases h with ⟨e0, h⟩ | ⟨n0, h⟩
    · refine x_tsIn (pc := 22) (v := 0) (tgt := 68) X d_Mod_count_22 e0 ⟨by decide, by decide⟩ (by decide) (by decide) rfl rfl ?_
      refine x_aload_n (pc := 68) X d_Mod_count_68 0 rfl rfl ?_
      obtain ⟨r3, h4, h⟩ := bnd_e h
      refine x_callV (pc := 69) (As := []) (rest := []) (w2 := (w_Mod cI cB a0 a1 a2 a3 a4 a5 a6 a7 a8 a9 a10 a11 a12 a13 a14 a15 m_stepsMade m_stepsMost m_taped m_reading m_statements m_telling m_hasImage m_isKeeping m_cursor m_rowMany m_lots m_refused m_bytes m_owner m_block m_written m_waits m_kinds m_tape m_sort m_sortAt m_told m_kept m_was m_ends m_row)) X d_Mod_count_69 lk_Mod_72 mv_Mod_freeBlocks (c_Mod_freeBlocks l D cI cB a0 a1 a2 a3 a4 a5 a6 a7 a8 a9 a10 a11 a12 a13 a14 a15 m_stepsMade m_stepsMost m_taped m_reading m_statements m_telling m_hasImage m_isKeeping m_cursor m_rowMany m_lots m_refused m_bytes m_owner m_block m_written m_waits m_kinds m_tape m_sort m_sortAt m_told m_kept m_was m_ends m_row h4) ⟨(Nat.le_of_ble_eq_true rfl), (Nat.le_of_ble_eq_true rfl), (Nat.le_of_ble_eq_true rfl), (Nat.le_of_ble_eq_true rfl)⟩ 0 rfl rfl [0, 1, 2, 3, 4, 5, 6, 7, 8, 9, 10, 11, 12, 13, 14, 15] rfl rfl rfl (Up.same rfl) rfl rfl (Nat.le_of_ble_eq_true rfl) ?_
      cases h
      exact x_iret (pc := 72) X hR d_Mod_count_72
    obtain ⟨hz, h⟩ := ceq_e h
    rcases h with ⟨e1, h⟩ | ⟨n1, h⟩
    · refine x_tsIn (pc := 22) (v := 1) (tgt := 73) X d_Mod_count_22 e1 ⟨by decide, by decide⟩ (by decide) (by decide) rfl rfl ?_
      refine x_aload_n (pc := 73) X d_Mod_count_73 0 rfl rfl ?_
      obtain ⟨r5, h6, h⟩ := bnd_e h
      refine x_callV (pc := 74) (As := []) (rest := []) (w2 := (w_Mod cI cB a0 a1 a2 a3 a4 a5 a6 a7 a8 a9 a10 a11 a12 a13 a14 a15 m_stepsMade m_stepsMost m_taped m_reading m_statements m_telling m_hasImage m_isKeeping m_cursor m_rowMany m_lots m_refused m_bytes m_owner m_block m_written m_waits m_kinds m_tape m_sort m_sortAt m_told m_kept m_was m_ends m_row)) X d_Mod_count_74 lk_Mod_76 mv_Mod_reserved (c_Mod_reserved l D cI cB a0 a1 a2 a3 a4 a5 a6 a7 a8 a9 a10 a11 a12 a13 a14 a15 m_stepsMade m_stepsMost m_taped m_reading m_statements m_telling m_hasImage m_isKeeping m_cursor m_rowMany m_lots m_refused m_bytes m_owner m_block m_written m_waits m_kinds m_tape m_sort m_sortAt m_told m_kept m_was m_ends m_row h6) ⟨(Nat.le_of_ble_eq_true rfl), (Nat.le_of_ble_eq_true rfl), (Nat.le_of_ble_eq_true rfl), (Nat.le_of_ble_eq_true rfl)⟩ 0 rfl rfl [0, 1, 2, 3, 4, 5, 6, 7, 8, 9, 10, 11, 12, 13, 14, 15] rfl rfl rfl (Up.same rfl) rfl rfl (Nat.le_of_ble_eq_true rfl) ?_
      cases h
      exact x_iret (pc := 77) X hR d_Mod_count_77
    obtain ⟨hz, h⟩ := ceq_e h
    rcases h with ⟨e2, h⟩ | ⟨n2, h⟩
    · refine x_tsIn (pc := 22) (v := 2) (tgt := 78) X d_Mod_count_22 e2 ⟨by decide, by decide⟩ (by decide) (by decide) rfl rfl ?_
      refine x_aload_n (pc := 78) X d_Mod_count_78 0 rfl rfl ?_
      obtain ⟨r7, h8, h⟩ := bnd_e h
      refine x_callV (pc := 79) (As := []) (rest := []) (w2 := (w_Mod cI cB a0 a1 a2 a3 a4 a5 a6 a7 a8 a9 a10 a11 a12 a13 a14 a15 m_stepsMade m_stepsMost m_taped m_reading m_statements m_telling m_hasImage m_isKeeping m_cursor m_rowMany m_lots m_refused m_bytes m_owner m_block m_written m_waits m_kinds m_tape m_sort m_sortAt m_told m_kept m_was m_ends m_row)) X d_Mod_count_79 lk_Mod_162 mv_Mod_roomNow (c_Mod_roomNow l D cI cB a0 a1 a2 a3 a4 a5 a6 a7 a8 a9 a10 a11 a12 a13 a14 a15 m_stepsMade m_stepsMost m_taped m_reading m_statements m_telling m_hasImage m_isKeeping m_cursor m_rowMany m_lots m_refused m_bytes m_owner m_block m_written m_waits m_kinds m_tape m_sort m_sortAt m_told m_kept m_was m_ends m_row h8) ⟨(Nat.le_of_ble_eq_true rfl), (Nat.le_of_ble_eq_true rfl), (Nat.le_of_ble_eq_true rfl), (Nat.le_of_ble_eq_true rfl)⟩ 0 rfl rfl [0, 1, 2, 3, 4, 5, 6, 7, 8, 9, 10, 11, 12, 13, 14, 15] rfl rfl rfl (Up.same rfl) rfl rfl (Nat.le_of_ble_eq_true rfl) ?_
      cases h
      exact x_iret (pc := 82) X hR d_Mod_count_82
    obtain ⟨hz, h⟩ := ceq_e h
    rcases h with ⟨e3, h⟩ | ⟨n3, h⟩
    · refine x_tsIn (pc := 22) (v := 3) (tgt := 83) X d_Mod_count_22 e3 ⟨by decide, by decide⟩ (by decide) (by decide) rfl rfl ?_
      refine x_aload_n (pc := 83) X d_Mod_count_83 0 rfl rfl ?_
      obtain ⟨r9, h10, h⟩ := bnd_e h
      refine x_callV (pc := 84) (As := []) (rest := []) (w2 := (w_Mod cI cB a0 a1 a2 a3 a4 a5 a6 a7 a8 a9 a10 a11 a12 a13 a14 a15 m_stepsMade m_stepsMost m_taped m_reading m_statements m_telling m_hasImage m_isKeeping m_cursor m_rowMany m_lots m_refused m_bytes m_owner m_block m_written m_waits m_kinds m_tape m_sort m_sortAt m_told m_kept m_was m_ends m_row)) X d_Mod_count_84 lk_Mod_367 mv_Mod_runs (c_Mod_runs l D cI cB a0 a1 a2 a3 a4 a5 a6 a7 a8 a9 a10 a11 a12 a13 a14 a15 m_stepsMade m_stepsMost m_taped m_reading m_statements m_telling m_hasImage m_isKeeping m_cursor m_rowMany m_lots m_refused m_bytes m_owner m_block m_written m_waits m_kinds m_tape m_sort m_sortAt m_told m_kept m_was m_ends m_row h10) ⟨(Nat.le_of_ble_eq_true rfl), (Nat.le_of_ble_eq_true rfl), (Nat.le_of_ble_eq_true rfl), (Nat.le_of_ble_eq_true rfl)⟩ 0 rfl rfl [0, 1, 2, 3, 4, 5, 6, 7, 8, 9, 10, 11, 12, 13, 14, 15] rfl rfl rfl (Up.same rfl) rfl rfl (Nat.le_of_ble_eq_true rfl) ?_
      cases h
      exact x_iret (pc := 87) X hR d_Mod_count_87
    obtain ⟨hz, h⟩ := ceq_e h
    rcases h with ⟨e4, h⟩ | ⟨n4, h⟩
    · refine x_tsIn (pc := 22) (v := 4) (tgt := 88) X d_Mod_count_22 e4 ⟨by decide, by decide⟩ (by decide) (by decide) rfl rfl ?_
      refine x_aload_n (pc := 88) X d_Mod_count_88 0 rfl rfl ?_
      obtain ⟨r11, h12, h⟩ := bnd_e h
      refine x_callV (pc := 89) (As := []) (rest := []) (w2 := (w_Mod cI cB a0 a1 a2 a3 a4 a5 a6 a7 a8 a9 a10 a11 a12 a13 a14 a15 m_stepsMade m_stepsMost m_taped m_reading m_statements m_telling m_hasImage m_isKeeping m_cursor m_rowMany m_lots m_refused m_bytes m_owner m_block m_written m_waits m_kinds m_tape m_sort m_sortAt m_told m_kept m_was m_ends m_row)) X d_Mod_count_89 lk_Mod_122 mv_Mod_greatestSize (c_Mod_greatestSize l D cI cB a0 a1 a2 a3 a4 a5 a6 a7 a8 a9 a10 a11 a12 a13 a14 a15 m_stepsMade m_stepsMost m_taped m_reading m_statements m_telling m_hasImage m_isKeeping m_cursor m_rowMany m_lots m_refused m_bytes m_owner m_block m_written m_waits m_kinds m_tape m_sort m_sortAt m_told m_kept m_was m_ends m_row h12) ⟨(Nat.le_of_ble_eq_true rfl), (Nat.le_of_ble_eq_true rfl), (Nat.le_of_ble_eq_true rfl), (Nat.le_of_ble_eq_true rfl)⟩ 0 rfl rfl [0, 1, 2, 3, 4, 5, 6, 7, 8, 9, 10, 11, 12, 13, 14, 15] rfl rfl rfl (Up.same rfl) rfl rfl (Nat.le_of_ble_eq_true rfl) ?_
      cases h
      exact x_iret (pc := 92) X hR d_Mod_count_92
    obtain ⟨hz, h⟩ := ceq_e h
    rcases h with ⟨e5, h⟩ | ⟨n5, h⟩
    · refine x_tsIn (pc := 22) (v := 5) (tgt := 93) X d_Mod_count_22 e5 ⟨by decide, by decide⟩ (by decide) (by decide) rfl rfl ?_
      refine x_aload_n (pc := 93) X d_Mod_count_93 0 rfl rfl ?_
      obtain ⟨r13, h14, h⟩ := bnd_e h
      refine x_callV (pc := 94) (As := []) (rest := []) (w2 := (w_Mod cI cB a0 a1 a2 a3 a4 a5 a6 a7 a8 a9 a10 a11 a12 a13 a14 a15 m_stepsMade m_stepsMost m_taped m_reading m_statements m_telling m_hasImage m_isKeeping m_cursor m_rowMany m_lots m_refused m_bytes m_owner m_block m_written m_waits m_kinds m_tape m_sort m_sortAt m_told m_kept m_was m_ends m_row)) X d_Mod_count_94 lk_Mod_300 mv_Mod_allExtents (c_Mod_allExtents l D cI cB a0 a1 a2 a3 a4 a5 a6 a7 a8 a9 a10 a11 a12 a13 a14 a15 m_stepsMade m_stepsMost m_taped m_reading m_statements m_telling m_hasImage m_isKeeping m_cursor m_rowMany m_lots m_refused m_bytes m_owner m_block m_written m_waits m_kinds m_tape m_sort m_sortAt m_told m_kept m_was m_ends m_row h14) ⟨(Nat.le_of_ble_eq_true rfl), (Nat.le_of_ble_eq_true rfl), (Nat.le_of_ble_eq_true rfl), (Nat.le_of_ble_eq_true rfl)⟩ 0 rfl rfl [0, 1, 2, 3, 4, 5, 6, 7, 8, 9, 10, 11, 12, 13, 14, 15] rfl rfl rfl (Up.same rfl) rfl rfl (Nat.le_of_ble_eq_true rfl) ?_
      cases h
      exact x_iret (pc := 97) X hR d_Mod_count_97
    obtain ⟨hz, h⟩ := ceq_e h
    rcases h with ⟨e6, h⟩ | ⟨n6, h⟩
    · refine x_tsIn (pc := 22) (v := 6) (tgt := 98) X d_Mod_count_22 e6 ⟨by decide, by decide⟩ (by decide) (by decide) rfl rfl ?_
      refine x_aload_n (pc := 98) X d_Mod_count_98 0 rfl rfl ?_
      refine x_get (pc := 99) X d_Mod_count_99 0 rfl fl_Mod_349 rfl ?_
      cases h
      exact x_iret (pc := 102) X hR d_Mod_count_102
    obtain ⟨hz, h⟩ := ceq_e h
    rcases h with ⟨e7, h⟩ | ⟨n7, h⟩
    · refine x_tsIn (pc := 22) (v := 7) (tgt := 103) X d_Mod_count_22 e7 ⟨by decide, by decide⟩ (by decide) (by decide) rfl rfl ?_
      refine x_aload_n (pc := 103) X d_Mod_count_103 0 rfl rfl ?_
      refine x_get (pc := 104) X d_Mod_count_104 0 rfl fl_Mod_169 rfl ?_
      cases h
      exact x_iret (pc := 107) X hR d_Mod_count_107
    refine x_tsOut (pc := 22) (tgt := 108) X d_Mod_count_22 hz.1 (by omega) rfl ?_
    · skip
      refine x_bipush (pc := 108) (v := -9) X d_Mod_count_108 rfl ?_
      cases h
      exact x_iret (pc := 110) X hR d_Mod_count_110
  · skip
    refine x_aload_n (pc := 11) X d_Mod_count_11 0 rfl rfl ?_
    refine x_get (pc := 12) X d_Mod_count_12 0 rfl fl_Mod_7 rfl ?_
    refine x_iload_n (pc := 15) X d_Mod_count_15 1 rfl rfl ?_
    refine x_bipush (pc := 16) (v := 10) X d_Mod_count_16 rfl ?_
    refine x_isub (pc := 18) X d_Mod_count_18  ?_
    refine x_iald (pc := 19) X d_Mod_count_19 1 rfl (Nat.le_of_ble_eq_true rfl) rfl h (fun h => ?_)
    cases h
    exact x_iret (pc := 20) X hR d_Mod_count_20
