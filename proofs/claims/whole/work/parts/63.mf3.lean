theorem d_Mod_kind_0 : decode b_Mod_kind 0 = .ok (.iload_n 1, 1) := by decide +kernel
theorem d_Mod_kind_1 : decode b_Mod_kind 1 = .ok (.invokestatic 230, 3) := by decide +kernel
theorem d_Mod_kind_4 : decode b_Mod_kind 4 = .ok (.ifCond .ne 7, 3) := by decide +kernel
theorem d_Mod_kind_7 : decode b_Mod_kind 7 = .ok (.iconst (-1), 1) := by decide +kernel
theorem d_Mod_kind_8 : decode b_Mod_kind 8 = .ok (.goto 18, 3) := by decide +kernel
theorem d_Mod_kind_11 : decode b_Mod_kind 11 = .ok (.iload_n 2, 1) := by decide +kernel
theorem d_Mod_kind_12 : decode b_Mod_kind 12 = .ok (.iconst 0, 1) := by decide +kernel
theorem d_Mod_kind_13 : decode b_Mod_kind 13 = .ok (.iconst 5, 1) := by decide +kernel
theorem d_Mod_kind_14 : decode b_Mod_kind 14 = .ok (.invokestatic 58, 3) := by decide +kernel
theorem d_Mod_kind_17 : decode b_Mod_kind 17 = .ok (.ifCond .ne 8, 3) := by decide +kernel
theorem d_Mod_kind_20 : decode b_Mod_kind 20 = .ok (.bipush (-2), 2) := by decide +kernel
theorem d_Mod_kind_22 : decode b_Mod_kind 22 = .ok (.goto 4, 3) := by decide +kernel
theorem d_Mod_kind_25 : decode b_Mod_kind 25 = .ok (.iconst 0, 1) := by decide +kernel
theorem d_Mod_kind_26 : decode b_Mod_kind 26 = .ok (.istore_n 3, 1) := by decide +kernel
theorem d_Mod_kind_27 : decode b_Mod_kind 27 = .ok (.iload_n 3, 1) := by decide +kernel
theorem d_Mod_kind_28 : decode b_Mod_kind 28 = .ok (.ifCond .eq 9, 3) := by decide +kernel
theorem d_Mod_kind_31 : decode b_Mod_kind 31 = .ok (.aload_n 0, 1) := by decide +kernel
theorem d_Mod_kind_32 : decode b_Mod_kind 32 = .ok (.iload_n 3, 1) := by decide +kernel
theorem d_Mod_kind_33 : decode b_Mod_kind 33 = .ok (.invokevirtual 172, 3) := by decide +kernel
theorem d_Mod_kind_36 : decode b_Mod_kind 36 = .ok (.ireturn, 1) := by decide +kernel
theorem d_Mod_kind_37 : decode b_Mod_kind 37 = .ok (.aload_n 0, 1) := by decide +kernel
theorem d_Mod_kind_38 : decode b_Mod_kind 38 = .ok (.getfield 28, 3) := by decide +kernel
theorem d_Mod_kind_41 : decode b_Mod_kind 41 = .ok (.iload_n 1, 1) := by decide +kernel
theorem d_Mod_kind_42 : decode b_Mod_kind 42 = .ok (.iaload, 1) := by decide +kernel
theorem d_Mod_kind_43 : decode b_Mod_kind 43 = .ok (.istore 4, 2) := by decide +kernel
theorem d_Mod_kind_45 : decode b_Mod_kind 45 = .ok (.aload_n 0, 1) := by decide +kernel
theorem d_Mod_kind_46 : decode b_Mod_kind 46 = .ok (.getfield 28, 3) := by decide +kernel
theorem d_Mod_kind_49 : decode b_Mod_kind 49 = .ok (.iload_n 1, 1) := by decide +kernel
theorem d_Mod_kind_50 : decode b_Mod_kind 50 = .ok (.iload_n 2, 1) := by decide +kernel
theorem d_Mod_kind_51 : decode b_Mod_kind 51 = .ok (.iastore, 1) := by decide +kernel
theorem d_Mod_kind_52 : decode b_Mod_kind 52 = .ok (.iload 4, 2) := by decide +kernel
theorem d_Mod_kind_54 : decode b_Mod_kind 54 = .ok (.ireturn, 1) := by decide +kernel
def m_Mod_kind (x1 : Int) (x2 : Int) (m_refused : Int → Int) (m_kinds : Int → Int) : Option (Int × (Int → Int) × (Int → Int)) :=
  bnd (m_Mod_isFile x1) (fun r1 => jn (fun (z4 : Int) (z5 : Int) (z6 : Int) (c7 : Int → Int) (c8 : Int → Int) => ceq z6 0 (gd (zx z4 4) (gd (zx z4 4) (some ((c8 z4), c7, (uf c8 z4 z5))))) (bnd (m_Mod_no z6 c7) (fun r9 => some (r9.1, r9.2, c8)))) (fun j3 => ceq r1 0 (j3 x1 x2 (-1) m_refused m_kinds) (bnd (m_Mod_isIn x2 0 5) (fun r13 => ceq r13 0 (j3 x1 x2 (-2) m_refused m_kinds) (j3 x1 x2 0 m_refused m_kinds)))))
set_option maxHeartbeats 4000000 in
set_option maxRecDepth 100000 in
theorem c_Mod_kind (l : Launch) (D : va_G) (cI cB : ClassId) (a0 a1 a2 a3 a4 a5 a6 a7 a8 a9 a10 a11 a12 a13 a14 a15 : Nat) (m_stepsMade : Int) (m_stepsMost : Int) (m_taped : Int) (m_reading : Int) (m_statements : Int) (m_telling : Int) (m_hasImage : Int) (m_isKeeping : Int) (m_cursor : Int) (m_rowMany : Int) (m_lots : Int) (m_refused : Int → Int) (m_bytes : Int → Int) (m_owner : Int → Int) (m_block : Int → Int) (m_written : Int → Int) (m_waits : Int → Int) (m_kinds : Int → Int) (m_tape : Int → Int) (m_sort : Int → Int) (m_sortAt : Int → Int) (m_told : Int → Int) (m_kept : Int → Int) (m_was : Int → Int) (m_ends : Int → Int) (m_row : Int → Int) (x1 : Int) (x2 : Int) {o : Int × (Int → Int) × (Int → Int)} (h : m_Mod_kind x1 x2 m_refused m_kinds = some o) : Ct l D cI cB y_Mod_kind b_Mod_kind 5 (some .int) { frames := 2, cells := 0, slots := 0, locals := 42 } [.ref a0, .int (zi x1), .int (zi x2)] (w_Mod cI cB a0 a1 a2 a3 a4 a5 a6 a7 a8 a9 a10 a11 a12 a13 a14 a15 m_stepsMade m_stepsMost m_taped m_reading m_statements m_telling m_hasImage m_isKeeping m_cursor m_rowMany m_lots m_refused m_bytes m_owner m_block m_written m_waits m_kinds m_tape m_sort m_sortAt m_told m_kept m_was m_ends m_row) (w_Mod cI cB a0 a1 a2 a3 a4 a5 a6 a7 a8 a9 a10 a11 a12 a13 a14 a15 m_stepsMade m_stepsMost m_taped m_reading m_statements m_telling m_hasImage m_isKeeping m_cursor m_rowMany m_lots o.2.1 m_bytes m_owner m_block m_written m_waits o.2.2 m_tape m_sort m_sortAt m_told m_kept m_was m_ends m_row) (some (.int (zi o.1))) := by
  refine Ct.start (by decide) (Nat.le_of_ble_eq_true rfl) (fun G X hR => ?_)
  refine x_ls (ls2 := [(0, .ref a0), (1, .int (zi x1)), (2, .int (zi x2))]) [0, 1, 2] rfl ?_
  unfold m_Mod_kind at h
  refine x_iload_n (pc := 0) X d_Mod_kind_0 1 rfl rfl ?_
  obtain ⟨r1, h2, h⟩ := bnd_e h
  refine x_callS (pc := 1) (As := [.int (zi x1)]) (rest := []) (w2 := (w_Mod cI cB a0 a1 a2 a3 a4 a5 a6 a7 a8 a9 a10 a11 a12 a13 a14 a15 m_stepsMade m_stepsMost m_taped m_reading m_statements m_telling m_hasImage m_isKeeping m_cursor m_rowMany m_lots m_refused m_bytes m_owner m_block m_written m_waits m_kinds m_tape m_sort m_sortAt m_told m_kept m_was m_ends m_row)) X d_Mod_kind_1 lk_Mod_230 mv_Mod_isFile (c_Mod_isFile l D cI cB x1 h2) ⟨(Nat.le_of_ble_eq_true rfl), (Nat.le_of_ble_eq_true rfl), (Nat.le_of_ble_eq_true rfl), (Nat.le_of_ble_eq_true rfl)⟩ [] rfl rfl rfl (Up.same rfl) rfl rfl (Nat.le_of_ble_eq_true rfl) ?_
  obtain ⟨j3, hj11, h⟩ := jn_e h
  have J12 : ∀ (z4 : Int) (z5 : Int) (z6 : Int) (c7 : Int → Int) (c8 : Int → Int), j3 z4 z5 z6 c7 c8 = some o → Wx G 0 0 26 [(0, .ref a0), (1, .int (zi z4)), (2, .int (zi z5))] [.int (zi z6)] (w_Mod cI cB a0 a1 a2 a3 a4 a5 a6 a7 a8 a9 a10 a11 a12 a13 a14 a15 m_stepsMade m_stepsMost m_taped m_reading m_statements m_telling m_hasImage m_isKeeping m_cursor m_rowMany m_lots c7 m_bytes m_owner m_block m_written m_waits c8 m_tape m_sort m_sortAt m_told m_kept m_was m_ends m_row) := by
    intro z4 z5 z6 c7 c8 h
    rw [hj11] at h
    (try dsimp only at h)
    refine x_istore_n (pc := 26) (ls2 := [(3, .int (zi z6)), (0, .ref a0), (1, .int (zi z4)), (2, .int (zi z5))]) X d_Mod_kind_26 rfl (Nat.le_of_ble_eq_true rfl) rfl ?_
    refine x_iload_n (pc := 27) X d_Mod_kind_27 0 rfl rfl ?_
    refine x_ifeq (pc := 28) (tgt := 37) X d_Mod_kind_28 rfl h (fun h => ?_) (fun h => ?_)
    · skip
      refine x_aload_n (pc := 37) X d_Mod_kind_37 1 rfl rfl ?_
      refine x_get (pc := 38) X d_Mod_kind_38 0 rfl fl_Mod_28 rfl ?_
      refine x_iload_n (pc := 41) X d_Mod_kind_41 2 rfl rfl ?_
      refine x_iald (pc := 42) X d_Mod_kind_42 7 rfl (Nat.le_of_ble_eq_true rfl) rfl h (fun h => ?_)
      refine x_istore (pc := 43) (ls2 := [(4, .int (zi (c8 z4))), (3, .int (zi z6)), (0, .ref a0), (1, .int (zi z4)), (2, .int (zi z5))]) X d_Mod_kind_43 (Nat.le_of_ble_eq_true rfl) rfl ?_
      refine x_aload_n (pc := 45) X d_Mod_kind_45 2 rfl rfl ?_
      refine x_get (pc := 46) X d_Mod_kind_46 0 rfl fl_Mod_28 rfl ?_
      refine x_iload_n (pc := 49) X d_Mod_kind_49 3 rfl rfl ?_
      refine x_iload_n (pc := 50) X d_Mod_kind_50 4 rfl rfl ?_
      refine x_iast (pc := 51) (w2 := (w_Mod cI cB a0 a1 a2 a3 a4 a5 a6 a7 a8 a9 a10 a11 a12 a13 a14 a15 m_stepsMade m_stepsMost m_taped m_reading m_statements m_telling m_hasImage m_isKeeping m_cursor m_rowMany m_lots c7 m_bytes m_owner m_block m_written m_waits (uf c8 z4 z5) m_tape m_sort m_sortAt m_told m_kept m_was m_ends m_row)) X d_Mod_kind_51 7 rfl (Nat.le_of_ble_eq_true rfl) rfl rfl h (fun h => ?_)
      refine x_iload (pc := 52) X d_Mod_kind_52 0 rfl ?_
      cases h
      exact x_iret (pc := 54) X hR d_Mod_kind_54
    · skip
      refine x_aload_n (pc := 31) X d_Mod_kind_31 1 rfl rfl ?_
      refine x_iload_n (pc := 32) X d_Mod_kind_32 0 rfl rfl ?_
      obtain ⟨r9, h10, h⟩ := bnd_e h
      refine x_callV (pc := 33) (As := [.int (zi z6)]) (rest := []) (w2 := (w_Mod cI cB a0 a1 a2 a3 a4 a5 a6 a7 a8 a9 a10 a11 a12 a13 a14 a15 m_stepsMade m_stepsMost m_taped m_reading m_statements m_telling m_hasImage m_isKeeping m_cursor m_rowMany m_lots r9.2 m_bytes m_owner m_block m_written m_waits c8 m_tape m_sort m_sortAt m_told m_kept m_was m_ends m_row)) X d_Mod_kind_33 lk_Mod_172 mv_Mod_no (c_Mod_no l D cI cB a0 a1 a2 a3 a4 a5 a6 a7 a8 a9 a10 a11 a12 a13 a14 a15 m_stepsMade m_stepsMost m_taped m_reading m_statements m_telling m_hasImage m_isKeeping m_cursor m_rowMany m_lots c7 m_bytes m_owner m_block m_written m_waits c8 m_tape m_sort m_sortAt m_told m_kept m_was m_ends m_row z6 h10) ⟨(Nat.le_of_ble_eq_true rfl), (Nat.le_of_ble_eq_true rfl), (Nat.le_of_ble_eq_true rfl), (Nat.le_of_ble_eq_true rfl)⟩ 0 rfl rfl [0, 1, 2, 3, 4, 5, 6, 7, 8, 9, 10, 11, 12, 13, 14, 15] rfl rfl rfl (Up.of [] [] rfl rfl rfl 16 rfl (by decide +kernel)) rfl rfl (Nat.le_of_ble_eq_true rfl) ?_
      cases h
      exact x_iret (pc := 36) X hR d_Mod_kind_36
  clear hj11
  refine x_ifne (pc := 4) (tgt := 11) X d_Mod_kind_4 rfl h (fun h => ?_) (fun h => ?_)
  · skip
    refine x_iload_n (pc := 11) X d_Mod_kind_11 2 rfl rfl ?_
    refine x_iconst (pc := 12) X d_Mod_kind_12  ?_
    refine x_iconst (pc := 13) X d_Mod_kind_13  ?_
    obtain ⟨r13, h14, h⟩ := bnd_e h
    refine x_callS (pc := 14) (As := [.int (zi x2), .int (zi 0), .int (zi 5)]) (rest := []) (w2 := (w_Mod cI cB a0 a1 a2 a3 a4 a5 a6 a7 a8 a9 a10 a11 a12 a13 a14 a15 m_stepsMade m_stepsMost m_taped m_reading m_statements m_telling m_hasImage m_isKeeping m_cursor m_rowMany m_lots m_refused m_bytes m_owner m_block m_written m_waits m_kinds m_tape m_sort m_sortAt m_told m_kept m_was m_ends m_row)) X d_Mod_kind_14 lk_Mod_58 mv_Mod_isIn (c_Mod_isIn l D cI cB x2 0 5 h14) ⟨(Nat.le_of_ble_eq_true rfl), (Nat.le_of_ble_eq_true rfl), (Nat.le_of_ble_eq_true rfl), (Nat.le_of_ble_eq_true rfl)⟩ [] rfl rfl rfl (Up.same rfl) rfl rfl (Nat.le_of_ble_eq_true rfl) ?_
    refine x_ifne (pc := 17) (tgt := 25) X d_Mod_kind_17 rfl h (fun h => ?_) (fun h => ?_)
    · skip
      refine x_iconst (pc := 25) X d_Mod_kind_25  ?_
      exact J12 x1 x2 0 m_refused m_kinds h
    · skip
      refine x_bipush (pc := 20) (v := -2) X d_Mod_kind_20 rfl ?_
      refine x_goto (pc := 22) (tgt := 26) X d_Mod_kind_22 rfl ?_
      exact J12 x1 x2 (-2) m_refused m_kinds h
  · skip
    refine x_iconst (pc := 7) X d_Mod_kind_7  ?_
    refine x_goto (pc := 8) (tgt := 26) X d_Mod_kind_8 rfl ?_
    exact J12 x1 x2 (-1) m_refused m_kinds h
theorem d_Mod_aheadOf_0 : decode b_Mod_aheadOf 0 = .ok (.iconst 0, 1) := by decide +kernel
theorem d_Mod_aheadOf_1 : decode b_Mod_aheadOf 1 = .ok (.istore_n 3, 1) := by decide +kernel
theorem d_Mod_aheadOf_2 : decode b_Mod_aheadOf 2 = .ok (.iconst 0, 1) := by decide +kernel
theorem d_Mod_aheadOf_3 : decode b_Mod_aheadOf 3 = .ok (.istore 4, 2) := by decide +kernel
theorem d_Mod_aheadOf_5 : decode b_Mod_aheadOf 5 = .ok (.iload 4, 2) := by decide +kernel
theorem d_Mod_aheadOf_7 : decode b_Mod_aheadOf 7 = .ok (.bipush 64, 2) := by decide +kernel
theorem d_Mod_aheadOf_9 : decode b_Mod_aheadOf 9 = .ok (.if_icmp .ge 93, 3) := by decide +kernel
theorem d_Mod_aheadOf_12 : decode b_Mod_aheadOf 12 = .ok (.aload_n 0, 1) := by decide +kernel
theorem d_Mod_aheadOf_13 : decode b_Mod_aheadOf 13 = .ok (.iload 4, 2) := by decide +kernel
theorem d_Mod_aheadOf_15 : decode b_Mod_aheadOf 15 = .ok (.invokevirtual 86, 3) := by decide +kernel
theorem d_Mod_aheadOf_18 : decode b_Mod_aheadOf 18 = .ok (.ifCond .ne 6, 3) := by decide +kernel
theorem d_Mod_aheadOf_21 : decode b_Mod_aheadOf 21 = .ok (.goto 75, 3) := by decide +kernel
theorem d_Mod_aheadOf_24 : decode b_Mod_aheadOf 24 = .ok (.iload_n 2, 1) := by decide +kernel
theorem d_Mod_aheadOf_25 : decode b_Mod_aheadOf 25 = .ok (.ifCond .ne 17, 3) := by decide +kernel
theorem d_Mod_aheadOf_28 : decode b_Mod_aheadOf 28 = .ok (.iload 4, 2) := by decide +kernel
theorem d_Mod_aheadOf_30 : decode b_Mod_aheadOf 30 = .ok (.iload_n 1, 1) := by decide +kernel
theorem d_Mod_aheadOf_31 : decode b_Mod_aheadOf 31 = .ok (.if_icmp .ge 7, 3) := by decide +kernel
theorem d_Mod_aheadOf_34 : decode b_Mod_aheadOf 34 = .ok (.iconst 1, 1) := by decide +kernel
theorem d_Mod_aheadOf_35 : decode b_Mod_aheadOf 35 = .ok (.goto 46, 3) := by decide +kernel
theorem d_Mod_aheadOf_38 : decode b_Mod_aheadOf 38 = .ok (.iconst 0, 1) := by decide +kernel
theorem d_Mod_aheadOf_39 : decode b_Mod_aheadOf 39 = .ok (.goto 42, 3) := by decide +kernel
theorem d_Mod_aheadOf_42 : decode b_Mod_aheadOf 42 = .ok (.aload_n 0, 1) := by decide +kernel
theorem d_Mod_aheadOf_43 : decode b_Mod_aheadOf 43 = .ok (.iload 4, 2) := by decide +kernel
theorem d_Mod_aheadOf_45 : decode b_Mod_aheadOf 45 = .ok (.invokevirtual 89, 3) := by decide +kernel
theorem d_Mod_aheadOf_48 : decode b_Mod_aheadOf 48 = .ok (.aload_n 0, 1) := by decide +kernel
theorem d_Mod_aheadOf_49 : decode b_Mod_aheadOf 49 = .ok (.iload_n 1, 1) := by decide +kernel
theorem d_Mod_aheadOf_50 : decode b_Mod_aheadOf 50 = .ok (.invokevirtual 89, 3) := by decide +kernel
theorem d_Mod_aheadOf_53 : decode b_Mod_aheadOf 53 = .ok (.if_icmp .lt 23, 3) := by decide +kernel
theorem d_Mod_aheadOf_56 : decode b_Mod_aheadOf 56 = .ok (.aload_n 0, 1) := by decide +kernel
theorem d_Mod_aheadOf_57 : decode b_Mod_aheadOf 57 = .ok (.iload 4, 2) := by decide +kernel
theorem d_Mod_aheadOf_59 : decode b_Mod_aheadOf 59 = .ok (.invokevirtual 89, 3) := by decide +kernel
theorem d_Mod_aheadOf_62 : decode b_Mod_aheadOf 62 = .ok (.aload_n 0, 1) := by decide +kernel
theorem d_Mod_aheadOf_63 : decode b_Mod_aheadOf 63 = .ok (.iload_n 1, 1) := by decide +kernel
theorem d_Mod_aheadOf_64 : decode b_Mod_aheadOf 64 = .ok (.invokevirtual 89, 3) := by decide +kernel
theorem d_Mod_aheadOf_67 : decode b_Mod_aheadOf 67 = .ok (.if_icmp .ne 13, 3) := by decide +kernel
theorem d_Mod_aheadOf_70 : decode b_Mod_aheadOf 70 = .ok (.iload 4, 2) := by decide +kernel
theorem d_Mod_aheadOf_72 : decode b_Mod_aheadOf 72 = .ok (.iload_n 1, 1) := by decide +kernel
theorem d_Mod_aheadOf_73 : decode b_Mod_aheadOf 73 = .ok (.if_icmp .ge 7, 3) := by decide +kernel
theorem d_Mod_aheadOf_76 : decode b_Mod_aheadOf 76 = .ok (.iconst 1, 1) := by decide +kernel
theorem d_Mod_aheadOf_77 : decode b_Mod_aheadOf 77 = .ok (.goto 4, 3) := by decide +kernel
theorem d_Mod_aheadOf_80 : decode b_Mod_aheadOf 80 = .ok (.iconst 0, 1) := by decide +kernel
theorem d_Mod_aheadOf_81 : decode b_Mod_aheadOf 81 = .ok (.istore 5, 2) := by decide +kernel
theorem d_Mod_aheadOf_83 : decode b_Mod_aheadOf 83 = .ok (.iload_n 3, 1) := by decide +kernel
theorem d_Mod_aheadOf_84 : decode b_Mod_aheadOf 84 = .ok (.iload 5, 2) := by decide +kernel
theorem d_Mod_aheadOf_86 : decode b_Mod_aheadOf 86 = .ok (.ifCond .eq 7, 3) := by decide +kernel
theorem d_Mod_aheadOf_89 : decode b_Mod_aheadOf 89 = .ok (.iconst 1, 1) := by decide +kernel
theorem d_Mod_aheadOf_90 : decode b_Mod_aheadOf 90 = .ok (.goto 4, 3) := by decide +kernel
theorem d_Mod_aheadOf_93 : decode b_Mod_aheadOf 93 = .ok (.iconst 0, 1) := by decide +kernel
theorem d_Mod_aheadOf_94 : decode b_Mod_aheadOf 94 = .ok (.iadd, 1) := by decide +kernel
theorem d_Mod_aheadOf_95 : decode b_Mod_aheadOf 95 = .ok (.istore_n 3, 1) := by decide +kernel
theorem d_Mod_aheadOf_96 : decode b_Mod_aheadOf 96 = .ok (.iinc 4 1, 3) := by decide +kernel
theorem d_Mod_aheadOf_99 : decode b_Mod_aheadOf 99 = .ok (.goto (-94), 3) := by decide +kernel
theorem d_Mod_aheadOf_102 : decode b_Mod_aheadOf 102 = .ok (.iload_n 3, 1) := by decide +kernel
theorem d_Mod_aheadOf_103 : decode b_Mod_aheadOf 103 = .ok (.ireturn, 1) := by decide +kernel
def m_Mod_aheadOf_5 : Nat → Int → Int → Int → Int → (Int → Int) → Option (Int)
  | 0, _, _, _, _, _ => none
  | fuel + 1, v1, v2, v3, v4, m_owner =>
  clt v4 64 (bnd (m_Mod_beginsRun v4 m_owner) (fun r1 => ceq r1 0 (m_Mod_aheadOf_5 fuel v1 v2 v3 (v4 + 1) m_owner) (jn (fun (z4 : Int) (z5 : Int) (z6 : Int) (z7 : Int) (z8 : Int) => ceq z8 0 (m_Mod_aheadOf_5 fuel z4 z5 (z6 + 0) (z7 + 1) m_owner) (m_Mod_aheadOf_5 fuel z4 z5 (z6 + 1) (z7 + 1) m_owner)) (fun j3 => ceq v2 0 (clt v4 v1 (j3 v1 v2 v3 v4 1) (j3 v1 v2 v3 v4 0)) (bnd (m_Mod_runSize v4 m_owner) (fun r11 => bnd (m_Mod_runSize v1 m_owner) (fun r13 => jn (fun (z16 : Int) (z17 : Int) (z18 : Int) (z19 : Int) => j3 z16 z17 z18 z19 1) (fun j15 => clt r11 r13 (j15 v1 v2 v3 v4) (bnd (m_Mod_runSize v4 m_owner) (fun r22 => bnd (m_Mod_runSize v1 m_owner) (fun r24 => jn (fun (z27 : Int) (z28 : Int) (z29 : Int) (z30 : Int) => j3 z27 z28 z29 z30 0) (fun j26 => ceq r22 r24 (clt v4 v1 (j15 v1 v2 v3 v4) (j26 v1 v2 v3 v4)) (j26 v1 v2 v3 v4))))))))))))) (some (v3))
def m_Mod_aheadOf (x1 : Int) (x2 : Int) (m_owner : Int → Int) : Option (Int) :=
  m_Mod_aheadOf_5 5000 x1 x2 0 0 m_owner
set_option maxHeartbeats 4000000 in
set_option maxRecDepth 100000 in
theorem l_Mod_aheadOf_5 {G : GT} {l : Launch} {D : va_G} {cI cB : ClassId} {a0 a1 a2 a3 a4 a5 a6 a7 a8 a9 a10 a11 a12 a13 a14 a15 : Nat} {m_stepsMade : Int} {m_stepsMost : Int} {m_taped : Int} {m_reading : Int} {m_statements : Int} {m_telling : Int} {m_hasImage : Int} {m_isKeeping : Int} {m_cursor : Int} {m_rowMany : Int} {m_lots : Int} {m_refused : Int → Int} {m_bytes : Int → Int} {m_block : Int → Int} {m_written : Int → Int} {m_waits : Int → Int} {m_kinds : Int → Int} {m_tape : Int → Int} {m_sort : Int → Int} {m_sortAt : Int → Int} {m_told : Int → Int} {m_kept : Int → Int} {m_was : Int → Int} {m_ends : Int → Int} {m_row : Int → Int} (X : Cx G l D cI cB b_Mod_aheadOf y_Mod_aheadOf.cls 6 { frames := 1, cells := 0, slots := 0, locals := 22 }) : ∀ (fuel : Nat) (v1 : Int) (v2 : Int) (v3 : Int) (v4 : Int) (m_owner : Int → Int) (o : Int), m_Mod_aheadOf_5 fuel v1 v2 v3 v4 m_owner = some o → Rt G (some .int) (some (.int (zi o))) (w_Mod cI cB a0 a1 a2 a3 a4 a5 a6 a7 a8 a9 a10 a11 a12 a13 a14 a15 m_stepsMade m_stepsMost m_taped m_reading m_statements m_telling m_hasImage m_isKeeping m_cursor m_rowMany m_lots m_refused m_bytes m_owner m_block m_written m_waits m_kinds m_tape m_sort m_sortAt m_told m_kept m_was m_ends m_row) → Wx G 0 0 5 [(0, .ref a0), (1, .int (zi v1)), (2, .int (zi v2)), (3, .int (zi v3)), (4, .int (zi v4))] [] (w_Mod cI cB a0 a1 a2 a3 a4 a5 a6 a7 a8 a9 a10 a11 a12 a13 a14 a15 m_stepsMade m_stepsMost m_taped m_reading m_statements m_telling m_hasImage m_isKeeping m_cursor m_rowMany m_lots m_refused m_bytes m_owner m_block m_written m_waits m_kinds m_tape m_sort m_sortAt m_told m_kept m_was m_ends m_row) := by
  intro fuel
  induction fuel with
  | zero =>
    intro v1 v2 v3 v4 m_owner o h
    exact absurd h (by simp [m_Mod_aheadOf_5])
  | succ fuel ih =>
    intro v1 v2 v3 v4 m_owner o h hR
    rw [m_Mod_aheadOf_5] at h
    refine x_iload (pc := 5) X d_Mod_aheadOf_5 4 rfl ?_
    refine x_bipush (pc := 7) (v := 64) X d_Mod_aheadOf_7 rfl ?_
    refine x_icmpge (pc := 9) (tgt := 102) X d_Mod_aheadOf_9 rfl h (fun h => ?_) (fun h => ?_)
    · skip
      refine x_iload_n (pc := 102) X d_Mod_aheadOf_102 3 rfl rfl ?_
      cases h
      exact x_iret (pc := 103) X hR d_Mod_aheadOf_103
    · skip
      refine x_aload_n (pc := 12) X d_Mod_aheadOf_12 0 rfl rfl ?_
      refine x_iload (pc := 13) X d_Mod_aheadOf_13 4 rfl ?_
      obtain ⟨r1, h2, h⟩ := bnd_e h
      refine x_callV (pc := 15) (As := [.int (zi v4)]) (rest := []) (w2 := (w_Mod cI cB a0 a1 a2 a3 a4 a5 a6 a7 a8 a9 a10 a11 a12 a13 a14 a15 m_stepsMade m_stepsMost m_taped m_reading m_statements m_telling m_hasImage m_isKeeping m_cursor m_rowMany m_lots m_refused m_bytes m_owner m_block m_written m_waits m_kinds m_tape m_sort m_sortAt m_told m_kept m_was m_ends m_row)) X d_Mod_aheadOf_15 lk_Mod_86 mv_Mod_beginsRun (c_Mod_beginsRun l D cI cB a0 a1 a2 a3 a4 a5 a6 a7 a8 a9 a10 a11 a12 a13 a14 a15 m_stepsMade m_stepsMost m_taped m_reading m_statements m_telling m_hasImage m_isKeeping m_cursor m_rowMany m_lots m_refused m_bytes m_owner m_block m_written m_waits m_kinds m_tape m_sort m_sortAt m_told m_kept m_was m_ends m_row v4 h2) ⟨(Nat.le_of_ble_eq_true rfl), (Nat.le_of_ble_eq_true rfl), (Nat.le_of_ble_eq_true rfl), (Nat.le_of_ble_eq_true rfl)⟩ 0 rfl rfl [0, 1, 2, 3, 4, 5, 6, 7, 8, 9, 10, 11, 12, 13, 14, 15] rfl rfl rfl (Up.same rfl) rfl rfl (Nat.le_of_ble_eq_true rfl) ?_
      refine x_ifne (pc := 18) (tgt := 24) X d_Mod_aheadOf_18 rfl h (fun h => ?_) (fun h => ?_)
      · skip
        refine x_iload_n (pc := 24) X d_Mod_aheadOf_24 2 rfl rfl ?_
        obtain ⟨j3, hj9, h⟩ := jn_e h
        have J10 : ∀ (z4 : Int) (z5 : Int) (z6 : Int) (z7 : Int) (z8 : Int), j3 z4 z5 z6 z7 z8 = some o → Wx G 0 0 81 [(0, .ref a0), (1, .int (zi z4)), (2, .int (zi z5)), (3, .int (zi z6)), (4, .int (zi z7))] [.int (zi z8)] (w_Mod cI cB a0 a1 a2 a3 a4 a5 a6 a7 a8 a9 a10 a11 a12 a13 a14 a15 m_stepsMade m_stepsMost m_taped m_reading m_statements m_telling m_hasImage m_isKeeping m_cursor m_rowMany m_lots m_refused m_bytes m_owner m_block m_written m_waits m_kinds m_tape m_sort m_sortAt m_told m_kept m_was m_ends m_row) := by
          intro z4 z5 z6 z7 z8 h
          rw [hj9] at h
          (try dsimp only at h)
          refine x_istore (pc := 81) (ls2 := [(5, .int (zi z8)), (0, .ref a0), (1, .int (zi z4)), (2, .int (zi z5)), (3, .int (zi z6)), (4, .int (zi z7))]) X d_Mod_aheadOf_81 (Nat.le_of_ble_eq_true rfl) rfl ?_
          refine x_iload_n (pc := 83) X d_Mod_aheadOf_83 4 rfl rfl ?_
          refine x_iload (pc := 84) X d_Mod_aheadOf_84 0 rfl ?_
          refine x_ifeq (pc := 86) (tgt := 93) X d_Mod_aheadOf_86 rfl h (fun h => ?_) (fun h => ?_)
          · skip
            refine x_iconst (pc := 93) X d_Mod_aheadOf_93  ?_
            refine x_iadd (pc := 94) X d_Mod_aheadOf_94  ?_
            refine x_istore_n (pc := 95) (ls2 := [(3, .int (zi (z6 + 0))), (5, .int (zi z8)), (0, .ref a0), (1, .int (zi z4)), (2, .int (zi z5)), (4, .int (zi z7))]) X d_Mod_aheadOf_95 rfl (Nat.le_of_ble_eq_true rfl) rfl ?_
            refine x_iinc (pc := 96) (ls2 := [(4, .int (zi (z7 + 1))), (3, .int (zi (z6 + 0))), (5, .int (zi z8)), (0, .ref a0), (1, .int (zi z4)), (2, .int (zi z5))]) X d_Mod_aheadOf_96 5 (Nat.le_of_ble_eq_true rfl) rfl rfl ?_
            refine x_goto (pc := 99) (tgt := 5) X d_Mod_aheadOf_99 rfl ?_
            refine x_ls (ls2 := [(0, .ref a0), (1, .int (zi z4)), (2, .int (zi z5)), (3, .int (zi (z6 + 0))), (4, .int (zi (z7 + 1)))]) [3, 4, 5, 1, 0] rfl ?_
            exact ih z4 z5 (z6 + 0) (z7 + 1) m_owner o h hR
          · skip
            refine x_iconst (pc := 89) X d_Mod_aheadOf_89  ?_
            refine x_goto (pc := 90) (tgt := 94) X d_Mod_aheadOf_90 rfl ?_
            refine x_iadd (pc := 94) X d_Mod_aheadOf_94  ?_
            refine x_istore_n (pc := 95) (ls2 := [(3, .int (zi (z6 + 1))), (5, .int (zi z8)), (0, .ref a0), (1, .int (zi z4)), (2, .int (zi z5)), (4, .int (zi z7))]) X d_Mod_aheadOf_95 rfl (Nat.le_of_ble_eq_true rfl) rfl ?_
            refine x_iinc (pc := 96) (ls2 := [(4, .int (zi (z7 + 1))), (3, .int (zi (z6 + 1))), (5, .int (zi z8)), (0, .ref a0), (1, .int (zi z4)), (2, .int (zi z5))]) X d_Mod_aheadOf_96 5 (Nat.le_of_ble_eq_true rfl) rfl rfl ?_
            refine x_goto (pc := 99) (tgt := 5) X d_Mod_aheadOf_99 rfl ?_
            refine x_ls (ls2 := [(0, .ref a0), (1, .int (zi z4)), (2, .int (zi z5)), (3, .int (zi (z6 + 1))), (4, .int (zi (z7 + 1)))]) [3, 4, 5, 1, 0] rfl ?_
            exact ih z4 z5 (z6 + 1) (z7 + 1) m_owner o h hR
        clear hj9
        refine x_ifne (pc := 25) (tgt := 42) X d_Mod_aheadOf_25 rfl h (fun h => ?_) (fun h => ?_)
        · skip
          refine x_aload_n (pc := 42) X d_Mod_aheadOf_42 0 rfl rfl ?_
          refine x_iload (pc := 43) X d_Mod_aheadOf_43 4 rfl ?_
          obtain ⟨r11, h12, h⟩ := bnd_e h
          refine x_callV (pc := 45) (As := [.int (zi v4)]) (rest := []) (w2 := (w_Mod cI cB a0 a1 a2 a3 a4 a5 a6 a7 a8 a9 a10 a11 a12 a13 a14 a15 m_stepsMade m_stepsMost m_taped m_reading m_statements m_telling m_hasImage m_isKeeping m_cursor m_rowMany m_lots m_refused m_bytes m_owner m_block m_written m_waits m_kinds m_tape m_sort m_sortAt m_told m_kept m_was m_ends m_row)) X d_Mod_aheadOf_45 lk_Mod_89 mv_Mod_runSize (c_Mod_runSize l D cI cB a0 a1 a2 a3 a4 a5 a6 a7 a8 a9 a10 a11 a12 a13 a14 a15 m_stepsMade m_stepsMost m_taped m_reading m_statements m_telling m_hasImage m_isKeeping m_cursor m_rowMany m_lots m_refused m_bytes m_owner m_block m_written m_waits m_kinds m_tape m_sort m_sortAt m_told m_kept m_was m_ends m_row v4 h12) ⟨(Nat.le_of_ble_eq_true rfl), (Nat.le_of_ble_eq_true rfl), (Nat.le_of_ble_eq_true rfl), (Nat.le_of_ble_eq_true rfl)⟩ 0 rfl rfl [0, 1, 2, 3, 4, 5, 6, 7, 8, 9, 10, 11, 12, 13, 14, 15] rfl rfl rfl (Up.same rfl) rfl rfl (Nat.le_of_ble_eq_true rfl) ?_
          refine x_aload_n (pc := 48) X d_Mod_aheadOf_48 0 rfl rfl ?_
          refine x_iload_n (pc := 49) X d_Mod_aheadOf_49 1 rfl rfl ?_
          obtain ⟨r13, h14, h⟩ := bnd_e h
          refine x_callV (pc := 50) (As := [.int (zi v1)]) (rest := [.int (zi r11)]) (w2 := (w_Mod cI cB a0 a1 a2 a3 a4 a5 a6 a7 a8 a9 a10 a11 a12 a13 a14 a15 m_stepsMade m_stepsMost m_taped m_reading m_statements m_telling m_hasImage m_isKeeping m_cursor m_rowMany m_lots m_refused m_bytes m_owner m_block m_written m_waits m_kinds m_tape m_sort m_sortAt m_told m_kept m_was m_ends m_row)) X d_Mod_aheadOf_50 lk_Mod_89 mv_Mod_runSize (c_Mod_runSize l D cI cB a0 a1 a2 a3 a4 a5 a6 a7 a8 a9 a10 a11 a12 a13 a14 a15 m_stepsMade m_stepsMost m_taped m_reading m_statements m_telling m_hasImage m_isKeeping m_cursor m_rowMany m_lots m_refused m_bytes m_owner m_block m_written m_waits m_kinds m_tape m_sort m_sortAt m_told m_kept m_was m_ends m_row v1 h14) ⟨(Nat.le_of_ble_eq_true rfl), (Nat.le_of_ble_eq_true rfl), (Nat.le_of_ble_eq_true rfl), (Nat.le_of_ble_eq_true rfl)⟩ 0 rfl rfl [0, 1, 2, 3, 4, 5, 6, 7, 8, 9, 10, 11, 12, 13, 14, 15] rfl rfl rfl (Up.same rfl) rfl rfl (Nat.le_of_ble_eq_true rfl) ?_
          obtain ⟨j15, hj20, h⟩ := jn_e h
          have J21 : ∀ (z16 : Int) (z17 : Int) (z18 : Int) (z19 : Int), j15 z16 z17 z18 z19 = some o → Wx G 0 0 76 [(0, .ref a0), (1, .int (zi z16)), (2, .int (zi z17)), (3, .int (zi z18)), (4, .int (zi z19))] [] (w_Mod cI cB a0 a1 a2 a3 a4 a5 a6 a7 a8 a9 a10 a11 a12 a13 a14 a15 m_stepsMade m_stepsMost m_taped m_reading m_statements m_telling m_hasImage m_isKeeping m_cursor m_rowMany m_lots m_refused m_bytes m_owner m_block m_written m_waits m_kinds m_tape m_sort m_sortAt m_told m_kept m_was m_ends m_row) := by
            intro z16 z17 z18 z19 h
            rw [hj20] at h
            (try dsimp only at h)
            refine x_iconst (pc := 76) X d_Mod_aheadOf_76  ?_
            refine x_goto (pc := 77) (tgt := 81) X d_Mod_aheadOf_77 rfl ?_
            exact J10 z16 z17 z18 z19 1 h
          clear hj20
          refine x_icmplt (pc := 53) (tgt := 76) X d_Mod_aheadOf_53 rfl h (fun h => ?_) (fun h => ?_)
          · skip
            exact J21 v1 v2 v3 v4 h
          · skip
            refine x_aload_n (pc := 56) X d_Mod_aheadOf_56 0 rfl rfl ?_
            refine x_iload (pc := 57) X d_Mod_aheadOf_57 4 rfl ?_
            obtain ⟨r22, h23, h⟩ := bnd_e h
            refine x_callV (pc := 59) (As := [.int (zi v4)]) (rest := []) (w2 := (w_Mod cI cB a0 a1 a2 a3 a4 a5 a6 a7 a8 a9 a10 a11 a12 a13 a14 a15 m_stepsMade m_stepsMost m_taped m_reading m_statements m_telling m_hasImage m_isKeeping m_cursor m_rowMany m_lots m_refused m_bytes m_owner m_block m_written m_waits m_kinds m_tape m_sort m_sortAt m_told m_kept m_was m_ends m_row)) X d_Mod_aheadOf_59 lk_Mod_89 mv_Mod_runSize (c_Mod_runSize l D cI cB a0 a1 a2 a3 a4 a5 a6 a7 a8 a9 a10 a11 a12 a13 a14 a15 m_stepsMade m_stepsMost m_taped m_reading m_statements m_telling m_hasImage m_isKeeping m_cursor m_rowMany m_lots m_refused m_bytes m_owner m_block m_written m_waits m_kinds m_tape m_sort m_sortAt m_told m_kept m_was m_ends m_row v4 h23) ⟨(Nat.le_of_ble_eq_true rfl), (Nat.le_of_ble_eq_true rfl), (Nat.le_of_ble_eq_true rfl), (Nat.le_of_ble_eq_true rfl)⟩ 0 rfl rfl [0, 1, 2, 3, 4, 5, 6, 7, 8, 9, 10, 11, 12, 13, 14, 15] rfl rfl rfl (Up.same rfl) rfl rfl (Nat.le_of_ble_eq_true rfl) ?_
            refine x_aload_n (pc := 62) X d_Mod_aheadOf_62 0 rfl rfl ?_
            refine x_iload_n (pc := 63) X d_Mod_aheadOf_63 1 rfl rfl ?_
            obtain ⟨r24, h25, h⟩ := bnd_e h
            refine x_callV (pc := 64) (As := [.int (zi v1)]) (rest := [.int (zi r22)]) (w2 := (w_Mod cI cB a0 a1 a2 a3 a4 a5 a6 a7 a8 a9 a10 a11 a12 a13 a14 a15 m_stepsMade m_stepsMost m_taped m_reading m_statements m_telling m_hasImage m_isKeeping m_cursor m_rowMany m_lots m_refused m_bytes m_owner m_block m_written m_waits m_kinds m_tape m_sort m_sortAt m_told m_kept m_was m_ends m_row)) X d_Mod_aheadOf_64 lk_Mod_89 mv_Mod_runSize (c_Mod_runSize l D cI cB a0 a1 a2 a3 a4 a5 a6 a7 a8 a9 a10 a11 a12 a13 a14 a15 m_stepsMade m_stepsMost m_taped m_reading m_statements m_telling m_hasImage m_isKeeping m_cursor m_rowMany m_lots m_refused m_bytes m_owner m_block m_written m_waits m_kinds m_tape m_sort m_sortAt m_told m_kept m_was m_ends m_row v1 h25) ⟨(Nat.le_of_ble_eq_true rfl), (Nat.le_of_ble_eq_true rfl), (Nat.le_of_ble_eq_true rfl), (Nat.le_of_ble_eq_true rfl)⟩ 0 rfl rfl [0, 1, 2, 3, 4, 5, 6, 7, 8, 9, 10, 11, 12, 13, 14, 15] rfl rfl rfl (Up.same rfl) rfl rfl (Nat.le_of_ble_eq_true rfl) ?_
            obtain ⟨j26, hj31, h⟩ := jn_e h
            have J32 : ∀ (z27 : Int) (z28 : Int) (z29 : Int) (z30 : Int), j26 z27 z28 z29 z30 = some o → Wx G 0 0 80 [(0, .ref a0), (1, .int (zi z27)), (2, .int (zi z28)), (3, .int (zi z29)), (4, .int (zi z30))] [] (w_Mod cI cB a0 a1 a2 a3 a4 a5 a6 a7 a8 a9 a10 a11 a12 a13 a14 a15 m_stepsMade m_stepsMost m_taped m_reading m_statements m_telling m_hasImage m_isKeeping m_cursor m_rowMany m_lots m_refused m_bytes m_owner m_block m_written m_waits m_kinds m_tape m_sort m_sortAt m_told m_kept m_was m_ends m_row) := by
              intro z27 z28 z29 z30 h
              rw [hj31] at h
              (try dsimp only at h)
              refine x_iconst (pc := 80) X d_Mod_aheadOf_80  ?_
              exact J10 z27 z28 z29 z30 0 h
            clear hj31
            refine x_icmpne (pc := 67) (tgt := 80) X d_Mod_aheadOf_67 rfl h (fun h => ?_) (fun h => ?_)
            · skip
              exact J32 v1 v2 v3 v4 h
            · skip
              refine x_iload (pc := 70) X d_Mod_aheadOf_70 4 rfl ?_
              refine x_iload_n (pc := 72) X d_Mod_aheadOf_72 1 rfl rfl ?_
              refine x_icmpge (pc := 73) (tgt := 80) X d_Mod_aheadOf_73 rfl h (fun h => ?_) (fun h => ?_)
              · skip
                exact J32 v1 v2 v3 v4 h
              · skip
                exact J21 v1 v2 v3 v4 h
        · skip
          refine x_iload (pc := 28) X d_Mod_aheadOf_28 4 rfl ?_
          refine x_iload_n (pc := 30) X d_Mod_aheadOf_30 1 rfl rfl ?_
          refine x_icmpge (pc := 31) (tgt := 38) X d_Mod_aheadOf_31 rfl h (fun h => ?_) (fun h => ?_)
          · skip
            refine x_iconst (pc := 38) X d_Mod_aheadOf_38  ?_
            refine x_goto (pc := 39) (tgt := 81) X d_Mod_aheadOf_39 rfl ?_
            exact J10 v1 v2 v3 v4 0 h
          · skip
            refine x_iconst (pc := 34) X d_Mod_aheadOf_34  ?_
            refine x_goto (pc := 35) (tgt := 81) X d_Mod_aheadOf_35 rfl ?_
            exact J10 v1 v2 v3 v4 1 h
      · skip
        refine x_goto (pc := 21) (tgt := 96) X d_Mod_aheadOf_21 rfl ?_
        refine x_iinc (pc := 96) (ls2 := [(4, .int (zi (v4 + 1))), (0, .ref a0), (1, .int (zi v1)), (2, .int (zi v2)), (3, .int (zi v3))]) X d_Mod_aheadOf_96 4 (Nat.le_of_ble_eq_true rfl) rfl rfl ?_
        refine x_goto (pc := 99) (tgt := 5) X d_Mod_aheadOf_99 rfl ?_
        refine x_ls (ls2 := [(0, .ref a0), (1, .int (zi v1)), (2, .int (zi v2)), (3, .int (zi v3)), (4, .int (zi (v4 + 1)))]) [1, 2, 3, 4, 0] rfl ?_
        exact ih v1 v2 v3 (v4 + 1) m_owner o h hR
set_option maxHeartbeats 4000000 in
set_option maxRecDepth 100000 in
theorem c_Mod_aheadOf (l : Launch) (D : va_G) (cI cB : ClassId) (a0 a1 a2 a3 a4 a5 a6 a7 a8 a9 a10 a11 a12 a13 a14 a15 : Nat) (m_stepsMade : Int) (m_stepsMost : Int) (m_taped : Int) (m_reading : Int) (m_statements : Int) (m_telling : Int) (m_hasImage : Int) (m_isKeeping : Int) (m_cursor : Int) (m_rowMany : Int) (m_lots : Int) (m_refused : Int → Int) (m_bytes : Int → Int) (m_owner : Int → Int) (m_block : Int → Int) (m_written : Int → Int) (m_waits : Int → Int) (m_kinds : Int → Int) (m_tape : Int → Int) (m_sort : Int → Int) (m_sortAt : Int → Int) (m_told : Int → Int) (m_kept : Int → Int) (m_was : Int → Int) (m_ends : Int → Int) (m_row : Int → Int) (x1 : Int) (x2 : Int) {o : Int} (h : m_Mod_aheadOf x1 x2 m_owner = some o) : Ct l D cI cB y_Mod_aheadOf b_Mod_aheadOf 6 (some .int) { frames := 1, cells := 0, slots := 0, locals := 22 } [.ref a0, .int (zi x1), .int (zi x2)] (w_Mod cI cB a0 a1 a2 a3 a4 a5 a6 a7 a8 a9 a10 a11 a12 a13 a14 a15 m_stepsMade m_stepsMost m_taped m_reading m_statements m_telling m_hasImage m_isKeeping m_cursor m_rowMany m_lots m_refused m_bytes m_owner m_block m_written m_waits m_kinds m_tape m_sort m_sortAt m_told m_kept m_was m_ends m_row) (w_Mod cI cB a0 a1 a2 a3 a4 a5 a6 a7 a8 a9 a10 a11 a12 a13 a14 a15 m_stepsMade m_stepsMost m_taped m_reading m_statements m_telling m_hasImage m_isKeeping m_cursor m_rowMany m_lots m_refused m_bytes m_owner m_block m_written m_waits m_kinds m_tape m_sort m_sortAt m_told m_kept m_was m_ends m_row) (some (.int (zi o))) := by
  refine Ct.start (by decide) (Nat.le_of_ble_eq_true rfl) (fun G X hR => ?_)
  refine x_ls (ls2 := [(0, .ref a0), (1, .int (zi x1)), (2, .int (zi x2))]) [0, 1, 2] rfl ?_
  unfold m_Mod_aheadOf at h
  refine x_iconst (pc := 0) X d_Mod_aheadOf_0  ?_
  refine x_istore_n (pc := 1) (ls2 := [(3, .int (zi 0)), (0, .ref a0), (1, .int (zi x1)), (2, .int (zi x2))]) X d_Mod_aheadOf_1 rfl (Nat.le_of_ble_eq_true rfl) rfl ?_
  refine x_iconst (pc := 2) X d_Mod_aheadOf_2  ?_
  refine x_istore (pc := 3) (ls2 := [(4, .int (zi 0)), (3, .int (zi 0)), (0, .ref a0), (1, .int (zi x1)), (2, .int (zi x2))]) X d_Mod_aheadOf_3 (Nat.le_of_ble_eq_true rfl) rfl ?_
  refine x_ls (ls2 := [(0, .ref a0), (1, .int (zi x1)), (2, .int (zi x2)), (3, .int (zi 0)), (4, .int (zi 0))]) [2, 3, 4, 1, 0] rfl ?_
  exact l_Mod_aheadOf_5 X 5000 x1 x2 0 0 m_owner o h hR
theorem d_Mod_byPlace_0 : decode b_Mod_byPlace 0 = .ok (.iload_n 2, 1) := by decide +kernel
theorem d_Mod_byPlace_1 : decode b_Mod_byPlace 1 = .ok (.iconst 0, 1) := by decide +kernel
theorem d_Mod_byPlace_2 : decode b_Mod_byPlace 2 = .ok (.iconst 1, 1) := by decide +kernel
theorem d_Mod_byPlace_3 : decode b_Mod_byPlace 3 = .ok (.invokestatic 58, 3) := by decide +kernel
theorem d_Mod_byPlace_6 : decode b_Mod_byPlace 6 = .ok (.ifCond .ne 10, 3) := by decide +kernel
theorem d_Mod_byPlace_9 : decode b_Mod_byPlace 9 = .ok (.aload_n 0, 1) := by decide +kernel
theorem d_Mod_byPlace_10 : decode b_Mod_byPlace 10 = .ok (.bipush (-2), 2) := by decide +kernel
theorem d_Mod_byPlace_12 : decode b_Mod_byPlace 12 = .ok (.invokevirtual 172, 3) := by decide +kernel
theorem d_Mod_byPlace_15 : decode b_Mod_byPlace 15 = .ok (.ireturn, 1) := by decide +kernel
theorem d_Mod_byPlace_16 : decode b_Mod_byPlace 16 = .ok (.iconst 0, 1) := by decide +kernel
theorem d_Mod_byPlace_17 : decode b_Mod_byPlace 17 = .ok (.istore_n 3, 1) := by decide +kernel
theorem d_Mod_byPlace_18 : decode b_Mod_byPlace 18 = .ok (.iload_n 3, 1) := by decide +kernel
theorem d_Mod_byPlace_19 : decode b_Mod_byPlace 19 = .ok (.bipush 64, 2) := by decide +kernel
theorem d_Mod_byPlace_21 : decode b_Mod_byPlace 21 = .ok (.if_icmp .ge 38, 3) := by decide +kernel
theorem d_Mod_byPlace_24 : decode b_Mod_byPlace 24 = .ok (.aload_n 0, 1) := by decide +kernel
theorem d_Mod_byPlace_25 : decode b_Mod_byPlace 25 = .ok (.iload_n 3, 1) := by decide +kernel
theorem d_Mod_byPlace_26 : decode b_Mod_byPlace 26 = .ok (.invokevirtual 86, 3) := by decide +kernel
theorem d_Mod_byPlace_29 : decode b_Mod_byPlace 29 = .ok (.ifCond .eq 24, 3) := by decide +kernel
theorem d_Mod_byPlace_32 : decode b_Mod_byPlace 32 = .ok (.aload_n 0, 1) := by decide +kernel
theorem d_Mod_byPlace_33 : decode b_Mod_byPlace 33 = .ok (.iload_n 3, 1) := by decide +kernel
theorem d_Mod_byPlace_34 : decode b_Mod_byPlace 34 = .ok (.iload_n 2, 1) := by decide +kernel
theorem d_Mod_byPlace_35 : decode b_Mod_byPlace 35 = .ok (.invokevirtual 285, 3) := by decide +kernel
theorem d_Mod_byPlace_38 : decode b_Mod_byPlace 38 = .ok (.iload_n 1, 1) := by decide +kernel
theorem d_Mod_byPlace_39 : decode b_Mod_byPlace 39 = .ok (.if_icmp .ne 14, 3) := by decide +kernel
theorem d_Mod_byPlace_42 : decode b_Mod_byPlace 42 = .ok (.bipush 100, 2) := by decide +kernel
theorem d_Mod_byPlace_44 : decode b_Mod_byPlace 44 = .ok (.iload_n 3, 1) := by decide +kernel
theorem d_Mod_byPlace_45 : decode b_Mod_byPlace 45 = .ok (.imul, 1) := by decide +kernel
theorem d_Mod_byPlace_46 : decode b_Mod_byPlace 46 = .ok (.aload_n 0, 1) := by decide +kernel
theorem d_Mod_byPlace_47 : decode b_Mod_byPlace 47 = .ok (.iload_n 3, 1) := by decide +kernel
theorem d_Mod_byPlace_48 : decode b_Mod_byPlace 48 = .ok (.invokevirtual 89, 3) := by decide +kernel
theorem d_Mod_byPlace_51 : decode b_Mod_byPlace 51 = .ok (.iadd, 1) := by decide +kernel
theorem d_Mod_byPlace_52 : decode b_Mod_byPlace 52 = .ok (.ireturn, 1) := by decide +kernel
theorem d_Mod_byPlace_53 : decode b_Mod_byPlace 53 = .ok (.iinc 3 1, 3) := by decide +kernel
theorem d_Mod_byPlace_56 : decode b_Mod_byPlace 56 = .ok (.goto (-38), 3) := by decide +kernel
theorem d_Mod_byPlace_59 : decode b_Mod_byPlace 59 = .ok (.aload_n 0, 1) := by decide +kernel
theorem d_Mod_byPlace_60 : decode b_Mod_byPlace 60 = .ok (.iconst (-1), 1) := by decide +kernel
theorem d_Mod_byPlace_61 : decode b_Mod_byPlace 61 = .ok (.invokevirtual 172, 3) := by decide +kernel
theorem d_Mod_byPlace_64 : decode b_Mod_byPlace 64 = .ok (.ireturn, 1) := by decide +kernel
def m_Mod_byPlace_18 : Nat → Int → Int → Int → (Int → Int) → (Int → Int) → Option (Int × (Int → Int))
  | 0, _, _, _, _, _ => none
  | fuel + 1, v1, v2, v3, m_refused, m_owner =>
  clt v3 64 (bnd (m_Mod_beginsRun v3 m_owner) (fun r5 => ceq r5 0 (m_Mod_byPlace_18 fuel v1 v2 (v3 + 1) m_refused m_owner) (bnd (m_Mod_aheadOf v3 v2 m_owner) (fun r7 => ceq r7 v1 (bnd (m_Mod_runSize v3 m_owner) (fun r9 => some (((100 * v3) + r9), m_refused))) (m_Mod_byPlace_18 fuel v1 v2 (v3 + 1) m_refused m_owner))))) (bnd (m_Mod_no (-1) m_refused) (fun r3 => some (r3.1, r3.2)))
def m_Mod_byPlace (x1 : Int) (x2 : Int) (m_refused : Int → Int) (m_owner : Int → Int) : Option (Int × (Int → Int)) :=
  bnd (m_Mod_isIn x2 0 1) (fun r1 => ceq r1 0 (bnd (m_Mod_no (-2) m_refused) (fun r11 => some (r11.1, r11.2))) (m_Mod_byPlace_18 5000 x1 x2 0 m_refused m_owner))
set_option maxHeartbeats 4000000 in
set_option maxRecDepth 100000 in
theorem l_Mod_byPlace_18 {G : GT} {l : Launch} {D : va_G} {cI cB : ClassId} {a0 a1 a2 a3 a4 a5 a6 a7 a8 a9 a10 a11 a12 a13 a14 a15 : Nat} {m_stepsMade : Int} {m_stepsMost : Int} {m_taped : Int} {m_reading : Int} {m_statements : Int} {m_telling : Int} {m_hasImage : Int} {m_isKeeping : Int} {m_cursor : Int} {m_rowMany : Int} {m_lots : Int} {m_bytes : Int → Int} {m_block : Int → Int} {m_written : Int → Int} {m_waits : Int → Int} {m_kinds : Int → Int} {m_tape : Int → Int} {m_sort : Int → Int} {m_sortAt : Int → Int} {m_told : Int → Int} {m_kept : Int → Int} {m_was : Int → Int} {m_ends : Int → Int} {m_row : Int → Int} (X : Cx G l D cI cB b_Mod_byPlace y_Mod_byPlace.cls 4 { frames := 2, cells := 0, slots := 0, locals := 47 }) : ∀ (fuel : Nat) (v1 : Int) (v2 : Int) (v3 : Int) (m_refused : Int → Int) (m_owner : Int → Int) (o : Int × (Int → Int)), m_Mod_byPlace_18 fuel v1 v2 v3 m_refused m_owner = some o → Rt G (some .int) (some (.int (zi o.1))) (w_Mod cI cB a0 a1 a2 a3 a4 a5 a6 a7 a8 a9 a10 a11 a12 a13 a14 a15 m_stepsMade m_stepsMost m_taped m_reading m_statements m_telling m_hasImage m_isKeeping m_cursor m_rowMany m_lots o.2 m_bytes m_owner m_block m_written m_waits m_kinds m_tape m_sort m_sortAt m_told m_kept m_was m_ends m_row) → Wx G 0 0 18 [(0, .ref a0), (1, .int (zi v1)), (2, .int (zi v2)), (3, .int (zi v3))] [] (w_Mod cI cB a0 a1 a2 a3 a4 a5 a6 a7 a8 a9 a10 a11 a12 a13 a14 a15 m_stepsMade m_stepsMost m_taped m_reading m_statements m_telling m_hasImage m_isKeeping m_cursor m_rowMany m_lots m_refused m_bytes m_owner m_block m_written m_waits m_kinds m_tape m_sort m_sortAt m_told m_kept m_was m_ends m_row) := by
  intro fuel
  induction fuel with
  | zero =>
    intro v1 v2 v3 m_refused m_owner o h
    exact absurd h (by simp [m_Mod_byPlace_18])
  | succ fuel ih =>
    intro v1 v2 v3 m_refused m_owner o h hR
    rw [m_Mod_byPlace_18] at h
    refine x_iload_n (pc := 18) X d_Mod_byPlace_18 3 rfl rfl ?_
    refine x_bipush (pc := 19) (v := 64) X d_Mod_byPlace_19 rfl ?_
    refine x_icmpge (pc := 21) (tgt := 59) X d_Mod_byPlace_21 rfl h (fun h => ?_) (fun h => ?_)
    · skip
      refine x_aload_n (pc := 59) X d_Mod_byPlace_59 0 rfl rfl ?_
      refine x_iconst (pc := 60) X d_Mod_byPlace_60  ?_
      obtain ⟨r3, h4, h⟩ := bnd_e h
      refine x_callV (pc := 61) (As := [.int (zi (-1))]) (rest := []) (w2 := (w_Mod cI cB a0 a1 a2 a3 a4 a5 a6 a7 a8 a9 a10 a11 a12 a13 a14 a15 m_stepsMade m_stepsMost m_taped m_reading m_statements m_telling m_hasImage m_isKeeping m_cursor m_rowMany m_lots r3.2 m_bytes m_owner m_block m_written m_waits m_kinds m_tape m_sort m_sortAt m_told m_kept m_was m_ends m_row)) X d_Mod_byPlace_61 lk_Mod_172 mv_Mod_no (c_Mod_no l D cI cB a0 a1 a2 a3 a4 a5 a6 a7 a8 a9 a10 a11 a12 a13 a14 a15 m_stepsMade m_stepsMost m_taped m_reading m_statements m_telling m_hasImage m_isKeeping m_cursor m_rowMany m_lots m_refused m_bytes m_owner m_block m_written m_waits m_kinds m_tape m_sort m_sortAt m_told m_kept m_was m_ends m_row (-1) h4) ⟨(Nat.le_of_ble_eq_true rfl), (Nat.le_of_ble_eq_true rfl), (Nat.le_of_ble_eq_true rfl), (Nat.le_of_ble_eq_true rfl)⟩ 0 rfl rfl [0, 1, 2, 3, 4, 5, 6, 7, 8, 9, 10, 11, 12, 13, 14, 15] rfl rfl rfl (Up.of [] [] rfl rfl rfl 16 rfl (by decide +kernel)) rfl rfl (Nat.le_of_ble_eq_true rfl) ?_
      cases h
      exact x_iret (pc := 64) X hR d_Mod_byPlace_64
    · skip
      refine x_aload_n (pc := 24) X d_Mod_byPlace_24 0 rfl rfl ?_
      refine x_iload_n (pc := 25) X d_Mod_byPlace_25 3 rfl rfl ?_
      obtain ⟨r5, h6, h⟩ := bnd_e h
      refine x_callV (pc := 26) (As := [.int (zi v3)]) (rest := []) (w2 := (w_Mod cI cB a0 a1 a2 a3 a4 a5 a6 a7 a8 a9 a10 a11 a12 a13 a14 a15 m_stepsMade m_stepsMost m_taped m_reading m_statements m_telling m_hasImage m_isKeeping m_cursor m_rowMany m_lots m_refused m_bytes m_owner m_block m_written m_waits m_kinds m_tape m_sort m_sortAt m_told m_kept m_was m_ends m_row)) X d_Mod_byPlace_26 lk_Mod_86 mv_Mod_beginsRun (c_Mod_beginsRun l D cI cB a0 a1 a2 a3 a4 a5 a6 a7 a8 a9 a10 a11 a12 a13 a14 a15 m_stepsMade m_stepsMost m_taped m_reading m_statements m_telling m_hasImage m_isKeeping m_cursor m_rowMany m_lots m_refused m_bytes m_owner m_block m_written m_waits m_kinds m_tape m_sort m_sortAt m_told m_kept m_was m_ends m_row v3 h6) ⟨(Nat.le_of_ble_eq_true rfl), (Nat.le_of_ble_eq_true rfl), (Nat.le_of_ble_eq_true rfl), (Nat.le_of_ble_eq_true rfl)⟩ 0 rfl rfl [0, 1, 2, 3, 4, 5, 6, 7, 8, 9, 10, 11, 12, 13, 14, 15] rfl rfl rfl (Up.same rfl) rfl rfl (Nat.le_of_ble_eq_true rfl) ?_
      refine x_ifeq (pc := 29) (tgt := 53) X d_Mod_byPlace_29 rfl h (fun h => ?_) (fun h => ?_)
      · skip
        refine x_iinc (pc := 53) (ls2 := [(3, .int (zi (v3 + 1))), (0, .ref a0), (1, .int (zi v1)), (2, .int (zi v2))]) X d_Mod_byPlace_53 3 (Nat.le_of_ble_eq_true rfl) rfl rfl ?_
        refine x_goto (pc := 56) (tgt := 18) X d_Mod_byPlace_56 rfl ?_
        refine x_ls (ls2 := [(0, .ref a0), (1, .int (zi v1)), (2, .int (zi v2)), (3, .int (zi (v3 + 1)))]) [1, 2, 3, 0] rfl ?_
        exact ih v1 v2 (v3 + 1) m_refused m_owner o h hR
      · skip
        refine x_aload_n (pc := 32) X d_Mod_byPlace_32 0 rfl rfl ?_
        refine x_iload_n (pc := 33) X d_Mod_byPlace_33 3 rfl rfl ?_
        refine x_iload_n (pc := 34) X d_Mod_byPlace_34 2 rfl rfl ?_
        obtain ⟨r7, h8, h⟩ := bnd_e h
        refine x_callV (pc := 35) (As := [.int (zi v3), .int (zi v2)]) (rest := []) (w2 := (w_Mod cI cB a0 a1 a2 a3 a4 a5 a6 a7 a8 a9 a10 a11 a12 a13 a14 a15 m_stepsMade m_stepsMost m_taped m_reading m_statements m_telling m_hasImage m_isKeeping m_cursor m_rowMany m_lots m_refused m_bytes m_owner m_block m_written m_waits m_kinds m_tape m_sort m_sortAt m_told m_kept m_was m_ends m_row)) X d_Mod_byPlace_35 lk_Mod_285 mv_Mod_aheadOf (c_Mod_aheadOf l D cI cB a0 a1 a2 a3 a4 a5 a6 a7 a8 a9 a10 a11 a12 a13 a14 a15 m_stepsMade m_stepsMost m_taped m_reading m_statements m_telling m_hasImage m_isKeeping m_cursor m_rowMany m_lots m_refused m_bytes m_owner m_block m_written m_waits m_kinds m_tape m_sort m_sortAt m_told m_kept m_was m_ends m_row v3 v2 h8) ⟨(Nat.le_of_ble_eq_true rfl), (Nat.le_of_ble_eq_true rfl), (Nat.le_of_ble_eq_true rfl), (Nat.le_of_ble_eq_true rfl)⟩ 0 rfl rfl [0, 1, 2, 3, 4, 5, 6, 7, 8, 9, 10, 11, 12, 13, 14, 15] rfl rfl rfl (Up.same rfl) rfl rfl (Nat.le_of_ble_eq_true rfl) ?_
        refine x_iload_n (pc := 38) X d_Mod_byPlace_38 1 rfl rfl ?_
        refine x_icmpne (pc := 39) (tgt := 53) X d_Mod_byPlace_39 rfl h (fun h => ?_) (fun h => ?_)
        · skip
          refine x_iinc (pc := 53) (ls2 := [(3, .int (zi (v3 + 1))), (0, .ref a0), (1, .int (zi v1)), (2, .int (zi v2))]) X d_Mod_byPlace_53 3 (Nat.le_of_ble_eq_true rfl) rfl rfl ?_
          refine x_goto (pc := 56) (tgt := 18) X d_Mod_byPlace_56 rfl ?_
          refine x_ls (ls2 := [(0, .ref a0), (1, .int (zi v1)), (2, .int (zi v2)), (3, .int (zi (v3 + 1)))]) [1, 2, 3, 0] rfl ?_
          exact ih v1 v2 (v3 + 1) m_refused m_owner o h hR
        · skip
          refine x_bipush (pc := 42) (v := 100) X d_Mod_byPlace_42 rfl ?_
          refine x_iload_n (pc := 44) X d_Mod_byPlace_44 3 rfl rfl ?_
          refine x_imul (pc := 45) X d_Mod_byPlace_45  ?_
          refine x_aload_n (pc := 46) X d_Mod_byPlace_46 0 rfl rfl ?_
          refine x_iload_n (pc := 47) X d_Mod_byPlace_47 3 rfl rfl ?_
          obtain ⟨r9, h10, h⟩ := bnd_e h
          refine x_callV (pc := 48) (As := [.int (zi v3)]) (rest := [.int (zi (100 * v3))]) (w2 := (w_Mod cI cB a0 a1 a2 a3 a4 a5 a6 a7 a8 a9 a10 a11 a12 a13 a14 a15 m_stepsMade m_stepsMost m_taped m_reading m_statements m_telling m_hasImage m_isKeeping m_cursor m_rowMany m_lots m_refused m_bytes m_owner m_block m_written m_waits m_kinds m_tape m_sort m_sortAt m_told m_kept m_was m_ends m_row)) X d_Mod_byPlace_48 lk_Mod_89 mv_Mod_runSize (c_Mod_runSize l D cI cB a0 a1 a2 a3 a4 a5 a6 a7 a8 a9 a10 a11 a12 a13 a14 a15 m_stepsMade m_stepsMost m_taped m_reading m_statements m_telling m_hasImage m_isKeeping m_cursor m_rowMany m_lots m_refused m_bytes m_owner m_block m_written m_waits m_kinds m_tape m_sort m_sortAt m_told m_kept m_was m_ends m_row v3 h10) ⟨(Nat.le_of_ble_eq_true rfl), (Nat.le_of_ble_eq_true rfl), (Nat.le_of_ble_eq_true rfl), (Nat.le_of_ble_eq_true rfl)⟩ 0 rfl rfl [0, 1, 2, 3, 4, 5, 6, 7, 8, 9, 10, 11, 12, 13, 14, 15] rfl rfl rfl (Up.same rfl) rfl rfl (Nat.le_of_ble_eq_true rfl) ?_
          refine x_iadd (pc := 51) X d_Mod_byPlace_51  ?_
          cases h
          exact x_iret (pc := 52) X hR d_Mod_byPlace_52
set_option maxHeartbeats 4000000 in
set_option maxRecDepth 100000 in
theorem c_Mod_byPlace (l : Launch) (D : va_G) (cI cB : ClassId) (a0 a1 a2 a3 a4 a5 a6 a7 a8 a9 a10 a11 a12 a13 a14 a15 : Nat) (m_stepsMade : Int) (m_stepsMost : Int) (m_taped : Int) (m_reading : Int) (m_statements : Int) (m_telling : Int) (m_hasImage : Int) (m_isKeeping : Int) (m_cursor : Int) (m_rowMany : Int) (m_lots : Int) (m_refused : Int → Int) (m_bytes : Int → Int) (m_owner : Int → Int) (m_block : Int → Int) (m_written : Int → Int) (m_waits : Int → Int) (m_kinds : Int → Int) (m_tape : Int → Int) (m_sort : Int → Int) (m_sortAt : Int → Int) (m_told : Int → Int) (m_kept : Int → Int) (m_was : Int → Int) (m_ends : Int → Int) (m_row : Int → Int) (x1 : Int) (x2 : Int) {o : Int × (Int → Int)} (h : m_Mod_byPlace x1 x2 m_refused m_owner = some o) : Ct l D cI cB y_Mod_byPlace b_Mod_byPlace 4 (some .int) { frames := 2, cells := 0, slots := 0, locals := 47 } [.ref a0, .int (zi x1), .int (zi x2)] (w_Mod cI cB a0 a1 a2 a3 a4 a5 a6 a7 a8 a9 a10 a11 a12 a13 a14 a15 m_stepsMade m_stepsMost m_taped m_reading m_statements m_telling m_hasImage m_isKeeping m_cursor m_rowMany m_lots m_refused m_bytes m_owner m_block m_written m_waits m_kinds m_tape m_sort m_sortAt m_told m_kept m_was m_ends m_row) (w_Mod cI cB a0 a1 a2 a3 a4 a5 a6 a7 a8 a9 a10 a11 a12 a13 a14 a15 m_stepsMade m_stepsMost m_taped m_reading m_statements m_telling m_hasImage m_isKeeping m_cursor m_rowMany m_lots o.2 m_bytes m_owner m_block m_written m_waits m_kinds m_tape m_sort m_sortAt m_told m_kept m_was m_ends m_row) (some (.int (zi o.1))) := by
  refine Ct.start (by decide) (Nat.le_of_ble_eq_true rfl) (fun G X hR => ?_)
  refine x_ls (ls2 := [(0, .ref a0), (1, .int (zi x1)), (2, .int (zi x2))]) [0, 1, 2] rfl ?_
  unfold m_Mod_byPlace at h
  refine x_iload_n (pc := 0) X d_Mod_byPlace_0 2 rfl rfl ?_
  refine x_iconst (pc := 1) X d_Mod_byPlace_1  ?_
  refine x_iconst (pc := 2) X d_Mod_byPlace_2  ?_
  obtain ⟨r1, h2, h⟩ := bnd_e h
  refine x_callS (pc := 3) (As := [.int (zi x2), .int (zi 0), .int (zi 1)]) (rest := []) (w2 := (w_Mod cI cB a0 a1 a2 a3 a4 a5 a6 a7 a8 a9 a10 a11 a12 a13 a14 a15 m_stepsMade m_stepsMost m_taped m_reading m_statements m_telling m_hasImage m_isKeeping m_cursor m_rowMany m_lots m_refused m_bytes m_owner m_block m_written m_waits m_kinds m_tape m_sort m_sortAt m_told m_kept m_was m_ends m_row)) X d_Mod_byPlace_3 lk_Mod_58 mv_Mod_isIn (c_Mod_isIn l D cI cB x2 0 1 h2) ⟨(Nat.le_of_ble_eq_true rfl), (Nat.le_of_ble_eq_true rfl), (Nat.le_of_ble_eq_true rfl), (Nat.le_of_ble_eq_true rfl)⟩ [] rfl rfl rfl (Up.same rfl) rfl rfl (Nat.le_of_ble_eq_true rfl) ?_
  refine x_ifne (pc := 6) (tgt := 16) X d_Mod_byPlace_6 rfl h (fun h => ?_) (fun h => ?_)
  · skip
    refine x_iconst (pc := 16) X d_Mod_byPlace_16  ?_
    refine x_istore_n (pc := 17) (ls2 := [(3, .int (zi 0)), (0, .ref a0), (1, .int (zi x1)), (2, .int (zi x2))]) X d_Mod_byPlace_17 rfl (Nat.le_of_ble_eq_true rfl) rfl ?_
    refine x_ls (ls2 := [(0, .ref a0), (1, .int (zi x1)), (2, .int (zi x2)), (3, .int (zi 0))]) [1, 2, 3, 0] rfl ?_
    exact l_Mod_byPlace_18 X 5000 x1 x2 0 m_refused m_owner o h hR
  · skip
    refine x_aload_n (pc := 9) X d_Mod_byPlace_9 0 rfl rfl ?_
    refine x_bipush (pc := 10) (v := -2) X d_Mod_byPlace_10 rfl ?_
    obtain ⟨r11, h12, h⟩ := bnd_e h
    refine x_callV (pc := 12) (As := [.int (zi (-2))]) (rest := []) (w2 := (w_Mod cI cB a0 a1 a2 a3 a4 a5 a6 a7 a8 a9 a10 a11 a12 a13 a14 a15 m_stepsMade m_stepsMost m_taped m_reading m_statements m_telling m_hasImage m_isKeeping m_cursor m_rowMany m_lots r11.2 m_bytes m_owner m_block m_written m_waits m_kinds m_tape m_sort m_sortAt m_told m_kept m_was m_ends m_row)) X d_Mod_byPlace_12 lk_Mod_172 mv_Mod_no (c_Mod_no l D cI cB a0 a1 a2 a3 a4 a5 a6 a7 a8 a9 a10 a11 a12 a13 a14 a15 m_stepsMade m_stepsMost m_taped m_reading m_statements m_telling m_hasImage m_isKeeping m_cursor m_rowMany m_lots m_refused m_bytes m_owner m_block m_written m_waits m_kinds m_tape m_sort m_sortAt m_told m_kept m_was m_ends m_row (-2) h12) ⟨(Nat.le_of_ble_eq_true rfl), (Nat.le_of_ble_eq_true rfl), (Nat.le_of_ble_eq_true rfl), (Nat.le_of_ble_eq_true rfl)⟩ 0 rfl rfl [0, 1, 2, 3, 4, 5, 6, 7, 8, 9, 10, 11, 12, 13, 14, 15] rfl rfl rfl (Up.of [] [] rfl rfl rfl 16 rfl (by decide +kernel)) rfl rfl (Nat.le_of_ble_eq_true rfl) ?_
    cases h
    exact x_iret (pc := 15) X hR d_Mod_byPlace_15
theorem d_Mod_fit_0 : decode b_Mod_fit 0 = .ok (.iload_n 1, 1) := by decide +kernel
theorem d_Mod_fit_1 : decode b_Mod_fit 1 = .ok (.iconst 1, 1) := by decide +kernel
theorem d_Mod_fit_2 : decode b_Mod_fit 2 = .ok (.bipush 64, 2) := by decide +kernel
theorem d_Mod_fit_4 : decode b_Mod_fit 4 = .ok (.invokestatic 166, 3) := by decide +kernel
theorem d_Mod_fit_7 : decode b_Mod_fit 7 = .ok (.istore_n 2, 1) := by decide +kernel
theorem d_Mod_fit_8 : decode b_Mod_fit 8 = .ok (.iload_n 2, 1) := by decide +kernel
theorem d_Mod_fit_9 : decode b_Mod_fit 9 = .ok (.ifCond .eq 11, 3) := by decide +kernel
theorem d_Mod_fit_12 : decode b_Mod_fit 12 = .ok (.aload_n 0, 1) := by decide +kernel
theorem d_Mod_fit_13 : decode b_Mod_fit 13 = .ok (.iload_n 2, 1) := by decide +kernel
theorem d_Mod_fit_14 : decode b_Mod_fit 14 = .ok (.invokevirtual 172, 3) := by decide +kernel
theorem d_Mod_fit_17 : decode b_Mod_fit 17 = .ok (.goto 8, 3) := by decide +kernel
theorem d_Mod_fit_20 : decode b_Mod_fit 20 = .ok (.aload_n 0, 1) := by decide +kernel
theorem d_Mod_fit_21 : decode b_Mod_fit 21 = .ok (.iload_n 1, 1) := by decide +kernel
theorem d_Mod_fit_22 : decode b_Mod_fit 22 = .ok (.invokevirtual 106, 3) := by decide +kernel
theorem d_Mod_fit_25 : decode b_Mod_fit 25 = .ok (.ireturn, 1) := by decide +kernel
def m_Mod_fit (x1 : Int) (m_refused : Int → Int) (m_owner : Int → Int) : Option (Int × (Int → Int)) :=
  bnd (m_Mod_bound x1 1 64) (fun r1 => ceq r1 0 (bnd (m_Mod_fitOf x1 m_owner) (fun r3 => some (r3, m_refused))) (bnd (m_Mod_no r1 m_refused) (fun r5 => some (r5.1, r5.2))))
set_option maxHeartbeats 4000000 in
set_option maxRecDepth 100000 in
theorem c_Mod_fit (l : Launch) (D : va_G) (cI cB : ClassId) (a0 a1 a2 a3 a4 a5 a6 a7 a8 a9 a10 a11 a12 a13 a14 a15 : Nat) (m_stepsMade : Int) (m_stepsMost : Int) (m_taped : Int) (m_reading : Int) (m_statements : Int) (m_telling : Int) (m_hasImage : Int) (m_isKeeping : Int) (m_cursor : Int) (m_rowMany : Int) (m_lots : Int) (m_refused : Int → Int) (m_bytes : Int → Int) (m_owner : Int → Int) (m_block : Int → Int) (m_written : Int → Int) (m_waits : Int → Int) (m_kinds : Int → Int) (m_tape : Int → Int) (m_sort : Int → Int) (m_sortAt : Int → Int) (m_told : Int → Int) (m_kept : Int → Int) (m_was : Int → Int) (m_ends : Int → Int) (m_row : Int → Int) (x1 : Int) {o : Int × (Int → Int)} (h : m_Mod_fit x1 m_refused m_owner = some o) : Ct l D cI cB y_Mod_fit b_Mod_fit 3 (some .int) { frames := 2, cells := 0, slots := 0, locals := 45 } [.ref a0, .int (zi x1)] (w_Mod cI cB a0 a1 a2 a3 a4 a5 a6 a7 a8 a9 a10 a11 a12 a13 a14 a15 m_stepsMade m_stepsMost m_taped m_reading m_statements m_telling m_hasImage m_isKeeping m_cursor m_rowMany m_lots m_refused m_bytes m_owner m_block m_written m_waits m_kinds m_tape m_sort m_sortAt m_told m_kept m_was m_ends m_row) (w_Mod cI cB a0 a1 a2 a3 a4 a5 a6 a7 a8 a9 a10 a11 a12 a13 a14 a15 m_stepsMade m_stepsMost m_taped m_reading m_statements m_telling m_hasImage m_isKeeping m_cursor m_rowMany m_lots o.2 m_bytes m_owner m_block m_written m_waits m_kinds m_tape m_sort m_sortAt m_told m_kept m_was m_ends m_row) (some (.int (zi o.1))) := by
  refine Ct.start (by decide) (Nat.le_of_ble_eq_true rfl) (fun G X hR => ?_)
  refine x_ls (ls2 := [(0, .ref a0), (1, .int (zi x1))]) [0, 1] rfl ?_
  unfold m_Mod_fit at h
  refine x_iload_n (pc := 0) X d_Mod_fit_0 1 rfl rfl ?_
  refine x_iconst (pc := 1) X d_Mod_fit_1  ?_
  refine x_bipush (pc := 2) (v := 64) X d_Mod_fit_2 rfl ?_
  obtain ⟨r1, h2, h⟩ := bnd_e h
  refine x_callS (pc := 4) (As := [.int (zi x1), .int (zi 1), .int (zi 64)]) (rest := []) (w2 := (w_Mod cI cB a0 a1 a2 a3 a4 a5 a6 a7 a8 a9 a10 a11 a12 a13 a14 a15 m_stepsMade m_stepsMost m_taped m_reading m_statements m_telling m_hasImage m_isKeeping m_cursor m_rowMany m_lots m_refused m_bytes m_owner m_block m_written m_waits m_kinds m_tape m_sort m_sortAt m_told m_kept m_was m_ends m_row)) X d_Mod_fit_4 lk_Mod_166 mv_Mod_bound (c_Mod_bound l D cI cB x1 1 64 h2) ⟨(Nat.le_of_ble_eq_true rfl), (Nat.le_of_ble_eq_true rfl), (Nat.le_of_ble_eq_true rfl), (Nat.le_of_ble_eq_true rfl)⟩ [] rfl rfl rfl (Up.same rfl) rfl rfl (Nat.le_of_ble_eq_true rfl) ?_
  refine x_istore_n (pc := 7) (ls2 := [(2, .int (zi r1)), (0, .ref a0), (1, .int (zi x1))]) X d_Mod_fit_7 rfl (Nat.le_of_ble_eq_true rfl) rfl ?_
  refine x_iload_n (pc := 8) X d_Mod_fit_8 0 rfl rfl ?_
  refine x_ifeq (pc := 9) (tgt := 20) X d_Mod_fit_9 rfl h (fun h => ?_) (fun h => ?_)
  · skip
    refine x_aload_n (pc := 20) X d_Mod_fit_20 1 rfl rfl ?_
    refine x_iload_n (pc := 21) X d_Mod_fit_21 2 rfl rfl ?_
    obtain ⟨r3, h4, h⟩ := bnd_e h
    refine x_callV (pc := 22) (As := [.int (zi x1)]) (rest := []) (w2 := (w_Mod cI cB a0 a1 a2 a3 a4 a5 a6 a7 a8 a9 a10 a11 a12 a13 a14 a15 m_stepsMade m_stepsMost m_taped m_reading m_statements m_telling m_hasImage m_isKeeping m_cursor m_rowMany m_lots m_refused m_bytes m_owner m_block m_written m_waits m_kinds m_tape m_sort m_sortAt m_told m_kept m_was m_ends m_row)) X d_Mod_fit_22 lk_Mod_106 mv_Mod_fitOf (c_Mod_fitOf l D cI cB a0 a1 a2 a3 a4 a5 a6 a7 a8 a9 a10 a11 a12 a13 a14 a15 m_stepsMade m_stepsMost m_taped m_reading m_statements m_telling m_hasImage m_isKeeping m_cursor m_rowMany m_lots m_refused m_bytes m_owner m_block m_written m_waits m_kinds m_tape m_sort m_sortAt m_told m_kept m_was m_ends m_row x1 h4) ⟨(Nat.le_of_ble_eq_true rfl), (Nat.le_of_ble_eq_true rfl), (Nat.le_of_ble_eq_true rfl), (Nat.le_of_ble_eq_true rfl)⟩ 0 rfl rfl [0, 1, 2, 3, 4, 5, 6, 7, 8, 9, 10, 11, 12, 13, 14, 15] rfl rfl rfl (Up.same rfl) rfl rfl (Nat.le_of_ble_eq_true rfl) ?_
    cases h
    exact x_iret (pc := 25) X hR d_Mod_fit_25
  · skip
    refine x_aload_n (pc := 12) X d_Mod_fit_12 1 rfl rfl ?_
    refine x_iload_n (pc := 13) X d_Mod_fit_13 0 rfl rfl ?_
    obtain ⟨r5, h6, h⟩ := bnd_e h
    refine x_callV (pc := 14) (As := [.int (zi r1)]) (rest := []) (w2 := (w_Mod cI cB a0 a1 a2 a3 a4 a5 a6 a7 a8 a9 a10 a11 a12 a13 a14 a15 m_stepsMade m_stepsMost m_taped m_reading m_statements m_telling m_hasImage m_isKeeping m_cursor m_rowMany m_lots r5.2 m_bytes m_owner m_block m_written m_waits m_kinds m_tape m_sort m_sortAt m_told m_kept m_was m_ends m_row)) X d_Mod_fit_14 lk_Mod_172 mv_Mod_no (c_Mod_no l D cI cB a0 a1 a2 a3 a4 a5 a6 a7 a8 a9 a10 a11 a12 a13 a14 a15 m_stepsMade m_stepsMost m_taped m_reading m_statements m_telling m_hasImage m_isKeeping m_cursor m_rowMany m_lots m_refused m_bytes m_owner m_block m_written m_waits m_kinds m_tape m_sort m_sortAt m_told m_kept m_was m_ends m_row r1 h6) ⟨(Nat.le_of_ble_eq_true rfl), (Nat.le_of_ble_eq_true rfl), (Nat.le_of_ble_eq_true rfl), (Nat.le_of_ble_eq_true rfl)⟩ 0 rfl rfl [0, 1, 2, 3, 4, 5, 6, 7, 8, 9, 10, 11, 12, 13, 14, 15] rfl rfl rfl (Up.of [] [] rfl rfl rfl 16 rfl (by decide +kernel)) rfl rfl (Nat.le_of_ble_eq_true rfl) ?_
    refine x_goto (pc := 17) (tgt := 25) X d_Mod_fit_17 rfl ?_
    cases h
    exact x_iret (pc := 25) X hR d_Mod_fit_25
theorem d_Mod_nearest_0 : decode b_Mod_nearest 0 = .ok (.iload_n 1, 1) := by decide +kernel
theorem d_Mod_nearest_1 : decode b_Mod_nearest 1 = .ok (.invokestatic 288, 3) := by decide +kernel
theorem d_Mod_nearest_4 : decode b_Mod_nearest 4 = .ok (.ifCond .ne 7, 3) := by decide +kernel
theorem d_Mod_nearest_7 : decode b_Mod_nearest 7 = .ok (.iconst (-1), 1) := by decide +kernel
theorem d_Mod_nearest_8 : decode b_Mod_nearest 8 = .ok (.goto 10, 3) := by decide +kernel
theorem d_Mod_nearest_11 : decode b_Mod_nearest 11 = .ok (.iload_n 2, 1) := by decide +kernel
theorem d_Mod_nearest_12 : decode b_Mod_nearest 12 = .ok (.iconst 1, 1) := by decide +kernel
theorem d_Mod_nearest_13 : decode b_Mod_nearest 13 = .ok (.bipush 64, 2) := by decide +kernel
theorem d_Mod_nearest_15 : decode b_Mod_nearest 15 = .ok (.invokestatic 166, 3) := by decide +kernel
theorem d_Mod_nearest_18 : decode b_Mod_nearest 18 = .ok (.istore_n 3, 1) := by decide +kernel
theorem d_Mod_nearest_19 : decode b_Mod_nearest 19 = .ok (.iload_n 3, 1) := by decide +kernel
theorem d_Mod_nearest_20 : decode b_Mod_nearest 20 = .ok (.ifCond .eq 11, 3) := by decide +kernel
theorem d_Mod_nearest_23 : decode b_Mod_nearest 23 = .ok (.aload_n 0, 1) := by decide +kernel
theorem d_Mod_nearest_24 : decode b_Mod_nearest 24 = .ok (.iload_n 3, 1) := by decide +kernel
theorem d_Mod_nearest_25 : decode b_Mod_nearest 25 = .ok (.invokevirtual 172, 3) := by decide +kernel
theorem d_Mod_nearest_28 : decode b_Mod_nearest 28 = .ok (.goto 9, 3) := by decide +kernel
theorem d_Mod_nearest_31 : decode b_Mod_nearest 31 = .ok (.aload_n 0, 1) := by decide +kernel
theorem d_Mod_nearest_32 : decode b_Mod_nearest 32 = .ok (.iload_n 1, 1) := by decide +kernel
theorem d_Mod_nearest_33 : decode b_Mod_nearest 33 = .ok (.iload_n 2, 1) := by decide +kernel
theorem d_Mod_nearest_34 : decode b_Mod_nearest 34 = .ok (.invokevirtual 115, 3) := by decide +kernel
theorem d_Mod_nearest_37 : decode b_Mod_nearest 37 = .ok (.ireturn, 1) := by decide +kernel
def m_Mod_nearest (x1 : Int) (x2 : Int) (m_refused : Int → Int) (m_owner : Int → Int) : Option (Int × (Int → Int)) :=
  bnd (m_Mod_isBlock x1) (fun r1 => jn (fun (z4 : Int) (z5 : Int) (z6 : Int) (c7 : Int → Int) => ceq z6 0 (bnd (m_Mod_nearestOf z4 z5 m_owner) (fun r8 => some (r8, c7))) (bnd (m_Mod_no z6 c7) (fun r10 => some (r10.1, r10.2)))) (fun j3 => ceq r1 0 (j3 x1 x2 (-1) m_refused) (bnd (m_Mod_bound x2 1 64) (fun r14 => j3 x1 x2 r14 m_refused))))
set_option maxHeartbeats 4000000 in
set_option maxRecDepth 100000 in
theorem c_Mod_nearest (l : Launch) (D : va_G) (cI cB : ClassId) (a0 a1 a2 a3 a4 a5 a6 a7 a8 a9 a10 a11 a12 a13 a14 a15 : Nat) (m_stepsMade : Int) (m_stepsMost : Int) (m_taped : Int) (m_reading : Int) (m_statements : Int) (m_telling : Int) (m_hasImage : Int) (m_isKeeping : Int) (m_cursor : Int) (m_rowMany : Int) (m_lots : Int) (m_refused : Int → Int) (m_bytes : Int → Int) (m_owner : Int → Int) (m_block : Int → Int) (m_written : Int → Int) (m_waits : Int → Int) (m_kinds : Int → Int) (m_tape : Int → Int) (m_sort : Int → Int) (m_sortAt : Int → Int) (m_told : Int → Int) (m_kept : Int → Int) (m_was : Int → Int) (m_ends : Int → Int) (m_row : Int → Int) (x1 : Int) (x2 : Int) {o : Int × (Int → Int)} (h : m_Mod_nearest x1 x2 m_refused m_owner = some o) : Ct l D cI cB y_Mod_nearest b_Mod_nearest 4 (some .int) { frames := 2, cells := 0, slots := 0, locals := 46 } [.ref a0, .int (zi x1), .int (zi x2)] (w_Mod cI cB a0 a1 a2 a3 a4 a5 a6 a7 a8 a9 a10 a11 a12 a13 a14 a15 m_stepsMade m_stepsMost m_taped m_reading m_statements m_telling m_hasImage m_isKeeping m_cursor m_rowMany m_lots m_refused m_bytes m_owner m_block m_written m_waits m_kinds m_tape m_sort m_sortAt m_told m_kept m_was m_ends m_row) (w_Mod cI cB a0 a1 a2 a3 a4 a5 a6 a7 a8 a9 a10 a11 a12 a13 a14 a15 m_stepsMade m_stepsMost m_taped m_reading m_statements m_telling m_hasImage m_isKeeping m_cursor m_rowMany m_lots o.2 m_bytes m_owner m_block m_written m_waits m_kinds m_tape m_sort m_sortAt m_told m_kept m_was m_ends m_row) (some (.int (zi o.1))) := by
  refine Ct.start (by decide) (Nat.le_of_ble_eq_true rfl) (fun G X hR => ?_)
  refine x_ls (ls2 := [(0, .ref a0), (1, .int (zi x1)), (2, .int (zi x2))]) [0, 1, 2] rfl ?_
  unfold m_Mod_nearest at h
  refine x_iload_n (pc := 0) X d_Mod_nearest_0 1 rfl rfl ?_
  obtain ⟨r1, h2, h⟩ := bnd_e h
  refine x_callS (pc := 1) (As := [.int (zi x1)]) (rest := []) (w2 := (w_Mod cI cB a0 a1 a2 a3 a4 a5 a6 a7 a8 a9 a10 a11 a12 a13 a14 a15 m_stepsMade m_stepsMost m_taped m_reading m_statements m_telling m_hasImage m_isKeeping m_cursor m_rowMany m_lots m_refused m_bytes m_owner m_block m_written m_waits m_kinds m_tape m_sort m_sortAt m_told m_kept m_was m_ends m_row)) X d_Mod_nearest_1 lk_Mod_288 mv_Mod_isBlock (c_Mod_isBlock l D cI cB x1 h2) ⟨(Nat.le_of_ble_eq_true rfl), (Nat.le_of_ble_eq_true rfl), (Nat.le_of_ble_eq_true rfl), (Nat.le_of_ble_eq_true rfl)⟩ [] rfl rfl rfl (Up.same rfl) rfl rfl (Nat.le_of_ble_eq_true rfl) ?_
  obtain ⟨j3, hj12, h⟩ := jn_e h
  have J13 : ∀ (z4 : Int) (z5 : Int) (z6 : Int) (c7 : Int → Int), j3 z4 z5 z6 c7 = some o → Wx G 0 0 18 [(0, .ref a0), (1, .int (zi z4)), (2, .int (zi z5))] [.int (zi z6)] (w_Mod cI cB a0 a1 a2 a3 a4 a5 a6 a7 a8 a9 a10 a11 a12 a13 a14 a15 m_stepsMade m_stepsMost m_taped m_reading m_statements m_telling m_hasImage m_isKeeping m_cursor m_rowMany m_lots c7 m_bytes m_owner m_block m_written m_waits m_kinds m_tape m_sort m_sortAt m_told m_kept m_was m_ends m_row) := by
    intro z4 z5 z6 c7 h
    rw [hj12] at h
    (try dsimp only at h)
    refine x_istore_n (pc := 18) (ls2 := [(3, .int (zi z6)), (0, .ref a0), (1, .int (zi z4)), (2, .int (zi z5))]) X d_Mod_nearest_18 rfl (Nat.le_of_ble_eq_true rfl) rfl ?_
    refine x_iload_n (pc := 19) X d_Mod_nearest_19 0 rfl rfl ?_
    refine x_ifeq (pc := 20) (tgt := 31) X d_Mod_nearest_20 rfl h (fun h => ?_) (fun h => ?_)
    · skip
      refine x_aload_n (pc := 31) X d_Mod_nearest_31 1 rfl rfl ?_
      refine x_iload_n (pc := 32) X d_Mod_nearest_32 2 rfl rfl ?_
      refine x_iload_n (pc := 33) X d_Mod_nearest_33 3 rfl rfl ?_
      obtain ⟨r8, h9, h⟩ := bnd_e h
      refine x_callV (pc := 34) (As := [.int (zi z4), .int (zi z5)]) (rest := []) (w2 := (w_Mod cI cB a0 a1 a2 a3 a4 a5 a6 a7 a8 a9 a10 a11 a12 a13 a14 a15 m_stepsMade m_stepsMost m_taped m_reading m_statements m_telling m_hasImage m_isKeeping m_cursor m_rowMany m_lots c7 m_bytes m_owner m_block m_written m_waits m_kinds m_tape m_sort m_sortAt m_told m_kept m_was m_ends m_row)) X d_Mod_nearest_34 lk_Mod_115 mv_Mod_nearestOf (c_Mod_nearestOf l D cI cB a0 a1 a2 a3 a4 a5 a6 a7 a8 a9 a10 a11 a12 a13 a14 a15 m_stepsMade m_stepsMost m_taped m_reading m_statements m_telling m_hasImage m_isKeeping m_cursor m_rowMany m_lots c7 m_bytes m_owner m_block m_written m_waits m_kinds m_tape m_sort m_sortAt m_told m_kept m_was m_ends m_row z4 z5 h9) ⟨(Nat.le_of_ble_eq_true rfl), (Nat.le_of_ble_eq_true rfl), (Nat.le_of_ble_eq_true rfl), (Nat.le_of_ble_eq_true rfl)⟩ 0 rfl rfl [0, 1, 2, 3, 4, 5, 6, 7, 8, 9, 10, 11, 12, 13, 14, 15] rfl rfl rfl (Up.same rfl) rfl rfl (Nat.le_of_ble_eq_true rfl) ?_
      cases h
      exact x_iret (pc := 37) X hR d_Mod_nearest_37
    · skip
      refine x_aload_n (pc := 23) X d_Mod_nearest_23 1 rfl rfl ?_
      refine x_iload_n (pc := 24) X d_Mod_nearest_24 0 rfl rfl ?_
      obtain ⟨r10, h11, h⟩ := bnd_e h
      refine x_callV (pc := 25) (As := [.int (zi z6)]) (rest := []) (w2 := (w_Mod cI cB a0 a1 a2 a3 a4 a5 a6 a7 a8 a9 a10 a11 a12 a13 a14 a15 m_stepsMade m_stepsMost m_taped m_reading m_statements m_telling m_hasImage m_isKeeping m_cursor m_rowMany m_lots r10.2 m_bytes m_owner m_block m_written m_waits m_kinds m_tape m_sort m_sortAt m_told m_kept m_was m_ends m_row)) X d_Mod_nearest_25 lk_Mod_172 mv_Mod_no (c_Mod_no l D cI cB a0 a1 a2 a3 a4 a5 a6 a7 a8 a9 a10 a11 a12 a13 a14 a15 m_stepsMade m_stepsMost m_taped m_reading m_statements m_telling m_hasImage m_isKeeping m_cursor m_rowMany m_lots c7 m_bytes m_owner m_block m_written m_waits m_kinds m_tape m_sort m_sortAt m_told m_kept m_was m_ends m_row z6 h11) ⟨(Nat.le_of_ble_eq_true rfl), (Nat.le_of_ble_eq_true rfl), (Nat.le_of_ble_eq_true rfl), (Nat.le_of_ble_eq_true rfl)⟩ 0 rfl rfl [0, 1, 2, 3, 4, 5, 6, 7, 8, 9, 10, 11, 12, 13, 14, 15] rfl rfl rfl (Up.of [] [] rfl rfl rfl 16 rfl (by decide +kernel)) rfl rfl (Nat.le_of_ble_eq_true rfl) ?_
      refine x_goto (pc := 28) (tgt := 37) X d_Mod_nearest_28 rfl ?_
      cases h
      exact x_iret (pc := 37) X hR d_Mod_nearest_37
  clear hj12
  refine x_ifne (pc := 4) (tgt := 11) X d_Mod_nearest_4 rfl h (fun h => ?_) (fun h => ?_)
  · skip
    refine x_iload_n (pc := 11) X d_Mod_nearest_11 2 rfl rfl ?_
    refine x_iconst (pc := 12) X d_Mod_nearest_12  ?_
    refine x_bipush (pc := 13) (v := 64) X d_Mod_nearest_13 rfl ?_
    obtain ⟨r14, h15, h⟩ := bnd_e h
    refine x_callS (pc := 15) (As := [.int (zi x2), .int (zi 1), .int (zi 64)]) (rest := []) (w2 := (w_Mod cI cB a0 a1 a2 a3 a4 a5 a6 a7 a8 a9 a10 a11 a12 a13 a14 a15 m_stepsMade m_stepsMost m_taped m_reading m_statements m_telling m_hasImage m_isKeeping m_cursor m_rowMany m_lots m_refused m_bytes m_owner m_block m_written m_waits m_kinds m_tape m_sort m_sortAt m_told m_kept m_was m_ends m_row)) X d_Mod_nearest_15 lk_Mod_166 mv_Mod_bound (c_Mod_bound l D cI cB x2 1 64 h15) ⟨(Nat.le_of_ble_eq_true rfl), (Nat.le_of_ble_eq_true rfl), (Nat.le_of_ble_eq_true rfl), (Nat.le_of_ble_eq_true rfl)⟩ [] rfl rfl rfl (Up.same rfl) rfl rfl (Nat.le_of_ble_eq_true rfl) ?_
    exact J13 x1 x2 r14 m_refused h
  · skip
    refine x_iconst (pc := 7) X d_Mod_nearest_7  ?_
    refine x_goto (pc := 8) (tgt := 18) X d_Mod_nearest_8 rfl ?_
    exact J13 x1 x2 (-1) m_refused h
theorem d_Mod_whose_0 : decode b_Mod_whose 0 = .ok (.iload_n 1, 1) := by decide +kernel
theorem d_Mod_whose_1 : decode b_Mod_whose 1 = .ok (.invokestatic 288, 3) := by decide +kernel
theorem d_Mod_whose_4 : decode b_Mod_whose 4 = .ok (.ifCond .ne 9, 3) := by decide +kernel
theorem d_Mod_whose_7 : decode b_Mod_whose 7 = .ok (.aload_n 0, 1) := by decide +kernel
theorem d_Mod_whose_8 : decode b_Mod_whose 8 = .ok (.iconst (-1), 1) := by decide +kernel
theorem d_Mod_whose_9 : decode b_Mod_whose 9 = .ok (.invokevirtual 172, 3) := by decide +kernel
theorem d_Mod_whose_12 : decode b_Mod_whose 12 = .ok (.ireturn, 1) := by decide +kernel
theorem d_Mod_whose_13 : decode b_Mod_whose 13 = .ok (.iload_n 2, 1) := by decide +kernel
theorem d_Mod_whose_14 : decode b_Mod_whose 14 = .ok (.iconst 0, 1) := by decide +kernel
theorem d_Mod_whose_15 : decode b_Mod_whose 15 = .ok (.iconst 1, 1) := by decide +kernel
theorem d_Mod_whose_16 : decode b_Mod_whose 16 = .ok (.invokestatic 58, 3) := by decide +kernel
theorem d_Mod_whose_19 : decode b_Mod_whose 19 = .ok (.ifCond .ne 10, 3) := by decide +kernel
theorem d_Mod_whose_22 : decode b_Mod_whose 22 = .ok (.aload_n 0, 1) := by decide +kernel
theorem d_Mod_whose_23 : decode b_Mod_whose 23 = .ok (.bipush (-2), 2) := by decide +kernel
theorem d_Mod_whose_25 : decode b_Mod_whose 25 = .ok (.invokevirtual 172, 3) := by decide +kernel
theorem d_Mod_whose_28 : decode b_Mod_whose 28 = .ok (.ireturn, 1) := by decide +kernel
theorem d_Mod_whose_29 : decode b_Mod_whose 29 = .ok (.aload_n 0, 1) := by decide +kernel
theorem d_Mod_whose_30 : decode b_Mod_whose 30 = .ok (.getfield 16, 3) := by decide +kernel
theorem d_Mod_whose_33 : decode b_Mod_whose 33 = .ok (.iload_n 1, 1) := by decide +kernel
theorem d_Mod_whose_34 : decode b_Mod_whose 34 = .ok (.iaload, 1) := by decide +kernel
theorem d_Mod_whose_35 : decode b_Mod_whose 35 = .ok (.istore_n 3, 1) := by decide +kernel
theorem d_Mod_whose_36 : decode b_Mod_whose 36 = .ok (.iload_n 2, 1) := by decide +kernel
theorem d_Mod_whose_37 : decode b_Mod_whose 37 = .ok (.iconst 1, 1) := by decide +kernel
theorem d_Mod_whose_38 : decode b_Mod_whose 38 = .ok (.if_icmp .ne 12, 3) := by decide +kernel
theorem d_Mod_whose_41 : decode b_Mod_whose 41 = .ok (.aload_n 0, 1) := by decide +kernel
theorem d_Mod_whose_42 : decode b_Mod_whose 42 = .ok (.getfield 13, 3) := by decide +kernel
theorem d_Mod_whose_45 : decode b_Mod_whose 45 = .ok (.iload_n 1, 1) := by decide +kernel
theorem d_Mod_whose_46 : decode b_Mod_whose 46 = .ok (.iaload, 1) := by decide +kernel
theorem d_Mod_whose_47 : decode b_Mod_whose 47 = .ok (.goto 24, 3) := by decide +kernel
theorem d_Mod_whose_50 : decode b_Mod_whose 50 = .ok (.iload_n 3, 1) := by decide +kernel
theorem d_Mod_whose_51 : decode b_Mod_whose 51 = .ok (.ifCond .ge 8, 3) := by decide +kernel
theorem d_Mod_whose_54 : decode b_Mod_whose 54 = .ok (.bipush (-9), 2) := by decide +kernel
theorem d_Mod_whose_56 : decode b_Mod_whose 56 = .ok (.goto 15, 3) := by decide +kernel
theorem d_Mod_whose_59 : decode b_Mod_whose 59 = .ok (.bipush 100, 2) := by decide +kernel
theorem d_Mod_whose_61 : decode b_Mod_whose 61 = .ok (.iload_n 3, 1) := by decide +kernel
theorem d_Mod_whose_62 : decode b_Mod_whose 62 = .ok (.bipush 24, 2) := by decide +kernel
theorem d_Mod_whose_64 : decode b_Mod_whose 64 = .ok (.idiv, 1) := by decide +kernel
theorem d_Mod_whose_65 : decode b_Mod_whose 65 = .ok (.imul, 1) := by decide +kernel
theorem d_Mod_whose_66 : decode b_Mod_whose 66 = .ok (.iload_n 3, 1) := by decide +kernel
theorem d_Mod_whose_67 : decode b_Mod_whose 67 = .ok (.bipush 24, 2) := by decide +kernel
theorem d_Mod_whose_69 : decode b_Mod_whose 69 = .ok (.irem, 1) := by decide +kernel
theorem d_Mod_whose_70 : decode b_Mod_whose 70 = .ok (.iadd, 1) := by decide +kernel
theorem d_Mod_whose_71 : decode b_Mod_whose 71 = .ok (.ireturn, 1) := by decide +kernel
def m_Mod_whose (x1 : Int) (x2 : Int) (m_refused : Int → Int) (m_bytes : Int → Int) (m_owner : Int → Int) : Option (Int × (Int → Int)) :=
  bnd (m_Mod_isBlock x1) (fun r1 => ceq r1 0 (bnd (m_Mod_no (-1) m_refused) (fun r7 => some (r7.1, r7.2))) (bnd (m_Mod_isIn x2 0 1) (fun r3 => ceq r3 0 (bnd (m_Mod_no (-2) m_refused) (fun r5 => some (r5.1, r5.2))) (gd (zx x1 64) (ceq x2 1 (gd (zx x1 64) (some ((m_bytes x1), m_refused))) (clt (m_owner x1) 0 (some ((-9), m_refused)) (gd (zx (m_owner x1) 2147483648 ∧ zp 24 2147483648) (gd (zx (m_owner x1) 2147483648 ∧ zp 24 2147483648) (some (((100 * ((m_owner x1) / 24)) + ((m_owner x1) % 24)), m_refused))))))))))
set_option maxHeartbeats 4000000 in
set_option maxRecDepth 100000 in
theorem c_Mod_whose (l : Launch) (D : va_G) (cI cB : ClassId) (a0 a1 a2 a3 a4 a5 a6 a7 a8 a9 a10 a11 a12 a13 a14 a15 : Nat) (m_stepsMade : Int) (m_stepsMost : Int) (m_taped : Int) (m_reading : Int) (m_statements : Int) (m_telling : Int) (m_hasImage : Int) (m_isKeeping : Int) (m_cursor : Int) (m_rowMany : Int) (m_lots : Int) (m_refused : Int → Int) (m_bytes : Int → Int) (m_owner : Int → Int) (m_block : Int → Int) (m_written : Int → Int) (m_waits : Int → Int) (m_kinds : Int → Int) (m_tape : Int → Int) (m_sort : Int → Int) (m_sortAt : Int → Int) (m_told : Int → Int) (m_kept : Int → Int) (m_was : Int → Int) (m_ends : Int → Int) (m_row : Int → Int) (x1 : Int) (x2 : Int) {o : Int × (Int → Int)} (h : m_Mod_whose x1 x2 m_refused m_bytes m_owner = some o) : Ct l D cI cB y_Mod_whose b_Mod_whose 4 (some .int) { frames := 2, cells := 0, slots := 0, locals := 42 } [.ref a0, .int (zi x1), .int (zi x2)] (w_Mod cI cB a0 a1 a2 a3 a4 a5 a6 a7 a8 a9 a10 a11 a12 a13 a14 a15 m_stepsMade m_stepsMost m_taped m_reading m_statements m_telling m_hasImage m_isKeeping m_cursor m_rowMany m_lots m_refused m_bytes m_owner m_block m_written m_waits m_kinds m_tape m_sort m_sortAt m_told m_kept m_was m_ends m_row) (w_Mod cI cB a0 a1 a2 a3 a4 a5 a6 a7 a8 a9 a10 a11 a12 a13 a14 a15 m_stepsMade m_stepsMost m_taped m_reading m_statements m_telling m_hasImage m_isKeeping m_cursor m_rowMany m_lots o.2 m_bytes m_owner m_block m_written m_waits m_kinds m_tape m_sort m_sortAt m_told m_kept m_was m_ends m_row) (some (.int (zi o.1))) := by
  refine Ct.start (by decide) (Nat.le_of_ble_eq_true rfl) (fun G X hR => ?_)
  refine x_ls (ls2 := [(0, .ref a0), (1, .int (zi x1)), (2, .int (zi x2))]) [0, 1, 2] rfl ?_
  unfold m_Mod_whose at h
  refine x_iload_n (pc := 0) X d_Mod_whose_0 1 rfl rfl ?_
  obtain ⟨r1, h2, h⟩ := bnd_e h
  refine x_callS (pc := 1) (As := [.int (zi x1)]) (rest := []) (w2 := (w_Mod cI cB a0 a1 a2 a3 a4 a5 a6 a7 a8 a9 a10 a11 a12 a13 a14 a15 m_stepsMade m_stepsMost m_taped m_reading m_statements m_telling m_hasImage m_isKeeping m_cursor m_rowMany m_lots m_refused m_bytes m_owner m_block m_written m_waits m_kinds m_tape m_sort m_sortAt m_told m_kept m_was m_ends m_row)) X d_Mod_whose_1 lk_Mod_288 mv_Mod_isBlock (c_Mod_isBlock l D cI cB x1 h2) ⟨(Nat.le_of_ble_eq_true rfl), (Nat.le_of_ble_eq_true rfl), (Nat.le_of_ble_eq_true rfl), (Nat.le_of_ble_eq_true rfl)⟩ [] rfl rfl rfl (Up.same rfl) rfl rfl (Nat.le_of_ble_eq_true rfl) ?_
  refine x_ifne (pc := 4) (tgt := 13) X d_Mod_whose_4 rfl h (fun h => ?_) (fun h => ?_)
  · skip
    refine x_iload_n (pc := 13) X d_Mod_whose_13 2 rfl rfl ?_
    refine x_iconst (pc := 14) X d_Mod_whose_14  ?_
    refine x_iconst (pc := 15) X d_Mod_whose_15  ?_
    obtain ⟨r3, h4, h⟩ := bnd_e h
    refine x_callS (pc := 16) (As := [.int (zi x2), .int (zi 0), .int (zi 1)]) (rest := []) (w2 := (w_Mod cI cB a0 a1 a2 a3 a4 a5 a6 a7 a8 a9 a10 a11 a12 a13 a14 a15 m_stepsMade m_stepsMost m_taped m_reading m_statements m_telling m_hasImage m_isKeeping m_cursor m_rowMany m_lots m_refused m_bytes m_owner m_block m_written m_waits m_kinds m_tape m_sort m_sortAt m_told m_kept m_was m_ends m_row)) X d_Mod_whose_16 lk_Mod_58 mv_Mod_isIn (c_Mod_isIn l D cI cB x2 0 1 h4) ⟨(Nat.le_of_ble_eq_true rfl), (Nat.le_of_ble_eq_true rfl), (Nat.le_of_ble_eq_true rfl), (Nat.le_of_ble_eq_true rfl)⟩ [] rfl rfl rfl (Up.same rfl) rfl rfl (Nat.le_of_ble_eq_true rfl) ?_
    refine x_ifne (pc := 19) (tgt := 29) X d_Mod_whose_19 rfl h (fun h => ?_) (fun h => ?_)
    · skip
      refine x_aload_n (pc := 29) X d_Mod_whose_29 0 rfl rfl ?_
      refine x_get (pc := 30) X d_Mod_whose_30 0 rfl fl_Mod_16 rfl ?_
      refine x_iload_n (pc := 33) X d_Mod_whose_33 1 rfl rfl ?_
      refine x_iald (pc := 34) X d_Mod_whose_34 3 rfl (Nat.le_of_ble_eq_true rfl) rfl h (fun h => ?_)
      refine x_istore_n (pc := 35) (ls2 := [(3, .int (zi (m_owner x1))), (0, .ref a0), (1, .int (zi x1)), (2, .int (zi x2))]) X d_Mod_whose_35 rfl (Nat.le_of_ble_eq_true rfl) rfl ?_
      refine x_iload_n (pc := 36) X d_Mod_whose_36 3 rfl rfl ?_
      refine x_iconst (pc := 37) X d_Mod_whose_37  ?_
      refine x_icmpne (pc := 38) (tgt := 50) X d_Mod_whose_38 rfl h (fun h => ?_) (fun h => ?_)
      · skip
        refine x_iload_n (pc := 50) X d_Mod_whose_50 0 rfl rfl ?_
        refine x_ifge (pc := 51) (tgt := 59) X d_Mod_whose_51 rfl h (fun h => ?_) (fun h => ?_)
        · skip
          refine x_bipush (pc := 59) (v := 100) X d_Mod_whose_59 rfl ?_
          refine x_iload_n (pc := 61) X d_Mod_whose_61 0 rfl rfl ?_
          refine x_bipush (pc := 62) (v := 24) X d_Mod_whose_62 rfl ?_
          refine x_idiv (pc := 64) X d_Mod_whose_64 h (fun h => ?_)
          refine x_imul (pc := 65) X d_Mod_whose_65  ?_
          refine x_iload_n (pc := 66) X d_Mod_whose_66 0 rfl rfl ?_
          refine x_bipush (pc := 67) (v := 24) X d_Mod_whose_67 rfl ?_
          refine x_irem (pc := 69) X d_Mod_whose_69 h (fun h => ?_)
          refine x_iadd (pc := 70) X d_Mod_whose_70  ?_
          cases h
          exact x_iret (pc := 71) X hR d_Mod_whose_71
        · skip
          refine x_bipush (pc := 54) (v := -9) X d_Mod_whose_54 rfl ?_
          refine x_goto (pc := 56) (tgt := 71) X d_Mod_whose_56 rfl ?_
          cases h
          exact x_iret (pc := 71) X hR d_Mod_whose_71
      · skip
        refine x_aload_n (pc := 41) X d_Mod_whose_41 1 rfl rfl ?_
        refine x_get (pc := 42) X d_Mod_whose_42 0 rfl fl_Mod_13 rfl ?_
        refine x_iload_n (pc := 45) X d_Mod_whose_45 2 rfl rfl ?_
        refine x_iald (pc := 46) X d_Mod_whose_46 2 rfl (Nat.le_of_ble_eq_true rfl) rfl h (fun h => ?_)
        refine x_goto (pc := 47) (tgt := 71) X d_Mod_whose_47 rfl ?_
        cases h
        exact x_iret (pc := 71) X hR d_Mod_whose_71
    · skip
      refine x_aload_n (pc := 22) X d_Mod_whose_22 0 rfl rfl ?_
      refine x_bipush (pc := 23) (v := -2) X d_Mod_whose_23 rfl ?_
      obtain ⟨r5, h6, h⟩ := bnd_e h
      refine x_callV (pc := 25) (As := [.int (zi (-2))]) (rest := []) (w2 := (w_Mod cI cB a0 a1 a2 a3 a4 a5 a6 a7 a8 a9 a10 a11 a12 a13 a14 a15 m_stepsMade m_stepsMost m_taped m_reading m_statements m_telling m_hasImage m_isKeeping m_cursor m_rowMany m_lots r5.2 m_bytes m_owner m_block m_written m_waits m_kinds m_tape m_sort m_sortAt m_told m_kept m_was m_ends m_row)) X d_Mod_whose_25 lk_Mod_172 mv_Mod_no (c_Mod_no l D cI cB a0 a1 a2 a3 a4 a5 a6 a7 a8 a9 a10 a11 a12 a13 a14 a15 m_stepsMade m_stepsMost m_taped m_reading m_statements m_telling m_hasImage m_isKeeping m_cursor m_rowMany m_lots m_refused m_bytes m_owner m_block m_written m_waits m_kinds m_tape m_sort m_sortAt m_told m_kept m_was m_ends m_row (-2) h6) ⟨(Nat.le_of_ble_eq_true rfl), (Nat.le_of_ble_eq_true rfl), (Nat.le_of_ble_eq_true rfl), (Nat.le_of_ble_eq_true rfl)⟩ 0 rfl rfl [0, 1, 2, 3, 4, 5, 6, 7, 8, 9, 10, 11, 12, 13, 14, 15] rfl rfl rfl (Up.of [] [] rfl rfl rfl 16 rfl (by decide +kernel)) rfl rfl (Nat.le_of_ble_eq_true rfl) ?_
      cases h
      exact x_iret (pc := 28) X hR d_Mod_whose_28
  · skip
    refine x_aload_n (pc := 7) X d_Mod_whose_7 0 rfl rfl ?_
    refine x_iconst (pc := 8) X d_Mod_whose_8  ?_
    obtain ⟨r7, h8, h⟩ := bnd_e h
    refine x_callV (pc := 9) (As := [.int (zi (-1))]) (rest := []) (w2 := (w_Mod cI cB a0 a1 a2 a3 a4 a5 a6 a7 a8 a9 a10 a11 a12 a13 a14 a15 m_stepsMade m_stepsMost m_taped m_reading m_statements m_telling m_hasImage m_isKeeping m_cursor m_rowMany m_lots r7.2 m_bytes m_owner m_block m_written m_waits m_kinds m_tape m_sort m_sortAt m_told m_kept m_was m_ends m_row)) X d_Mod_whose_9 lk_Mod_172 mv_Mod_no (c_Mod_no l D cI cB a0 a1 a2 a3 a4 a5 a6 a7 a8 a9 a10 a11 a12 a13 a14 a15 m_stepsMade m_stepsMost m_taped m_reading m_statements m_telling m_hasImage m_isKeeping m_cursor m_rowMany m_lots m_refused m_bytes m_owner m_block m_written m_waits m_kinds m_tape m_sort m_sortAt m_told m_kept m_was m_ends m_row (-1) h8) ⟨(Nat.le_of_ble_eq_true rfl), (Nat.le_of_ble_eq_true rfl), (Nat.le_of_ble_eq_true rfl), (Nat.le_of_ble_eq_true rfl)⟩ 0 rfl rfl [0, 1, 2, 3, 4, 5, 6, 7, 8, 9, 10, 11, 12, 13, 14, 15] rfl rfl rfl (Up.of [] [] rfl rfl rfl 16 rfl (by decide +kernel)) rfl rfl (Nat.le_of_ble_eq_true rfl) ?_
    cases h
    exact x_iret (pc := 12) X hR d_Mod_whose_12
theorem d_Mod_stale_0 : decode b_Mod_stale 0 = .ok (.iload_n 1, 1) := by decide +kernel
theorem d_Mod_stale_1 : decode b_Mod_stale 1 = .ok (.iconst 0, 1) := by decide +kernel
theorem d_Mod_stale_2 : decode b_Mod_stale 2 = .ok (.iconst 1, 1) := by decide +kernel
theorem d_Mod_stale_3 : decode b_Mod_stale 3 = .ok (.invokestatic 58, 3) := by decide +kernel
theorem d_Mod_stale_6 : decode b_Mod_stale 6 = .ok (.ifCond .ne 10, 3) := by decide +kernel
theorem d_Mod_stale_9 : decode b_Mod_stale 9 = .ok (.aload_n 0, 1) := by decide +kernel
theorem d_Mod_stale_10 : decode b_Mod_stale 10 = .ok (.bipush (-2), 2) := by decide +kernel
theorem d_Mod_stale_12 : decode b_Mod_stale 12 = .ok (.invokevirtual 172, 3) := by decide +kernel
theorem d_Mod_stale_15 : decode b_Mod_stale 15 = .ok (.ireturn, 1) := by decide +kernel
theorem d_Mod_stale_16 : decode b_Mod_stale 16 = .ok (.iconst 0, 1) := by decide +kernel
theorem d_Mod_stale_17 : decode b_Mod_stale 17 = .ok (.istore_n 2, 1) := by decide +kernel
theorem d_Mod_stale_18 : decode b_Mod_stale 18 = .ok (.iconst 0, 1) := by decide +kernel
theorem d_Mod_stale_19 : decode b_Mod_stale 19 = .ok (.istore_n 3, 1) := by decide +kernel
theorem d_Mod_stale_20 : decode b_Mod_stale 20 = .ok (.iload_n 3, 1) := by decide +kernel
theorem d_Mod_stale_21 : decode b_Mod_stale 21 = .ok (.bipush 64, 2) := by decide +kernel
theorem d_Mod_stale_23 : decode b_Mod_stale 23 = .ok (.if_icmp .ge 82, 3) := by decide +kernel
theorem d_Mod_stale_26 : decode b_Mod_stale 26 = .ok (.iload_n 1, 1) := by decide +kernel
theorem d_Mod_stale_27 : decode b_Mod_stale 27 = .ok (.ifCond .ne 20, 3) := by decide +kernel
theorem d_Mod_stale_30 : decode b_Mod_stale 30 = .ok (.aload_n 0, 1) := by decide +kernel
theorem d_Mod_stale_31 : decode b_Mod_stale 31 = .ok (.getfield 16, 3) := by decide +kernel
theorem d_Mod_stale_34 : decode b_Mod_stale 34 = .ok (.iload_n 3, 1) := by decide +kernel
theorem d_Mod_stale_35 : decode b_Mod_stale 35 = .ok (.iaload, 1) := by decide +kernel
theorem d_Mod_stale_36 : decode b_Mod_stale 36 = .ok (.ifCond .ge 7, 3) := by decide +kernel
theorem d_Mod_stale_39 : decode b_Mod_stale 39 = .ok (.iconst 1, 1) := by decide +kernel
theorem d_Mod_stale_40 : decode b_Mod_stale 40 = .ok (.goto 35, 3) := by decide +kernel
theorem d_Mod_stale_43 : decode b_Mod_stale 43 = .ok (.iconst 0, 1) := by decide +kernel
theorem d_Mod_stale_44 : decode b_Mod_stale 44 = .ok (.goto 31, 3) := by decide +kernel
theorem d_Mod_stale_47 : decode b_Mod_stale 47 = .ok (.aload_n 0, 1) := by decide +kernel
theorem d_Mod_stale_48 : decode b_Mod_stale 48 = .ok (.getfield 16, 3) := by decide +kernel
theorem d_Mod_stale_51 : decode b_Mod_stale 51 = .ok (.iload_n 3, 1) := by decide +kernel
theorem d_Mod_stale_52 : decode b_Mod_stale 52 = .ok (.iaload, 1) := by decide +kernel
theorem d_Mod_stale_53 : decode b_Mod_stale 53 = .ok (.ifCond .lt 21, 3) := by decide +kernel
theorem d_Mod_stale_56 : decode b_Mod_stale 56 = .ok (.aload_n 0, 1) := by decide +kernel
theorem d_Mod_stale_57 : decode b_Mod_stale 57 = .ok (.getfield 22, 3) := by decide +kernel
theorem d_Mod_stale_60 : decode b_Mod_stale 60 = .ok (.aload_n 0, 1) := by decide +kernel
theorem d_Mod_stale_61 : decode b_Mod_stale 61 = .ok (.getfield 16, 3) := by decide +kernel
theorem d_Mod_stale_64 : decode b_Mod_stale 64 = .ok (.iload_n 3, 1) := by decide +kernel
theorem d_Mod_stale_65 : decode b_Mod_stale 65 = .ok (.iaload, 1) := by decide +kernel
theorem d_Mod_stale_66 : decode b_Mod_stale 66 = .ok (.iaload, 1) := by decide +kernel
theorem d_Mod_stale_67 : decode b_Mod_stale 67 = .ok (.ifCond .ne 7, 3) := by decide +kernel
theorem d_Mod_stale_70 : decode b_Mod_stale 70 = .ok (.iconst 1, 1) := by decide +kernel
theorem d_Mod_stale_71 : decode b_Mod_stale 71 = .ok (.goto 4, 3) := by decide +kernel
theorem d_Mod_stale_74 : decode b_Mod_stale 74 = .ok (.iconst 0, 1) := by decide +kernel
theorem d_Mod_stale_75 : decode b_Mod_stale 75 = .ok (.istore 4, 2) := by decide +kernel
theorem d_Mod_stale_77 : decode b_Mod_stale 77 = .ok (.iload_n 2, 1) := by decide +kernel
theorem d_Mod_stale_78 : decode b_Mod_stale 78 = .ok (.iload 4, 2) := by decide +kernel
theorem d_Mod_stale_80 : decode b_Mod_stale 80 = .ok (.ifCond .eq 16, 3) := by decide +kernel
theorem d_Mod_stale_83 : decode b_Mod_stale 83 = .ok (.aload_n 0, 1) := by decide +kernel
theorem d_Mod_stale_84 : decode b_Mod_stale 84 = .ok (.getfield 13, 3) := by decide +kernel
theorem d_Mod_stale_87 : decode b_Mod_stale 87 = .ok (.iload_n 3, 1) := by decide +kernel
theorem d_Mod_stale_88 : decode b_Mod_stale 88 = .ok (.iaload, 1) := by decide +kernel
theorem d_Mod_stale_89 : decode b_Mod_stale 89 = .ok (.ifCond .eq 7, 3) := by decide +kernel
theorem d_Mod_stale_92 : decode b_Mod_stale 92 = .ok (.iconst 1, 1) := by decide +kernel
theorem d_Mod_stale_93 : decode b_Mod_stale 93 = .ok (.goto 4, 3) := by decide +kernel
theorem d_Mod_stale_96 : decode b_Mod_stale 96 = .ok (.iconst 0, 1) := by decide +kernel
theorem d_Mod_stale_97 : decode b_Mod_stale 97 = .ok (.iadd, 1) := by decide +kernel
theorem d_Mod_stale_98 : decode b_Mod_stale 98 = .ok (.istore_n 2, 1) := by decide +kernel
theorem d_Mod_stale_99 : decode b_Mod_stale 99 = .ok (.iinc 3 1, 3) := by decide +kernel
theorem d_Mod_stale_102 : decode b_Mod_stale 102 = .ok (.goto (-82), 3) := by decide +kernel
theorem d_Mod_stale_105 : decode b_Mod_stale 105 = .ok (.iload_n 2, 1) := by decide +kernel
theorem d_Mod_stale_106 : decode b_Mod_stale 106 = .ok (.ireturn, 1) := by decide +kernel
def m_Mod_stale_20 : Nat → Int → Int → Int → (Int → Int) → (Int → Int) → (Int → Int) → (Int → Int) → Option (Int × (Int → Int))
  | 0, _, _, _, _, _, _, _ => none
  | fuel + 1, v1, v2, v3, m_refused, m_bytes, m_owner, m_written =>
  clt v3 64 (jn (fun (z4 : Int) (z5 : Int) (z6 : Int) (z7 : Int) (c8 : Int → Int) => ceq z7 0 (m_Mod_stale_20 fuel z4 (z5 + 0) (z6 + 1) c8 m_bytes m_owner m_written) (gd (zx z6 64) (ceq (m_bytes z6) 0 (m_Mod_stale_20 fuel z4 (z5 + 0) (z6 + 1) c8 m_bytes m_owner m_written) (m_Mod_stale_20 fuel z4 (z5 + 1) (z6 + 1) c8 m_bytes m_owner m_written)))) (fun j3 => ceq v1 0 (gd (zx v3 64) (clt (m_owner v3) 0 (j3 v1 v2 v3 1 m_refused) (j3 v1 v2 v3 0 m_refused))) (gd (zx v3 64) (jn (fun (z12 : Int) (z13 : Int) (z14 : Int) (c15 : Int → Int) => j3 z12 z13 z14 0 c15) (fun j11 => clt (m_owner v3) 0 (j11 v1 v2 v3 m_refused) (gd (zx v3 64) (gd (zx (m_owner v3) 96) (ceq (m_written (m_owner v3)) 0 (j3 v1 v2 v3 1 m_refused) (j11 v1 v2 v3 m_refused))))))))) (some (v2, m_refused))
def m_Mod_stale (x1 : Int) (m_refused : Int → Int) (m_bytes : Int → Int) (m_owner : Int → Int) (m_written : Int → Int) : Option (Int × (Int → Int)) :=
  bnd (m_Mod_isIn x1 0 1) (fun r1 => ceq r1 0 (bnd (m_Mod_no (-2) m_refused) (fun r18 => some (r18.1, r18.2))) (m_Mod_stale_20 5000 x1 0 0 m_refused m_bytes m_owner m_written))
set_option maxHeartbeats 4000000 in
set_option maxRecDepth 100000 in
theorem l_Mod_stale_20 {G : GT} {l : Launch} {D : va_G} {cI cB : ClassId} {a0 a1 a2 a3 a4 a5 a6 a7 a8 a9 a10 a11 a12 a13 a14 a15 : Nat} {m_stepsMade : Int} {m_stepsMost : Int} {m_taped : Int} {m_reading : Int} {m_statements : Int} {m_telling : Int} {m_hasImage : Int} {m_isKeeping : Int} {m_cursor : Int} {m_rowMany : Int} {m_lots : Int} {m_block : Int → Int} {m_waits : Int → Int} {m_kinds : Int → Int} {m_tape : Int → Int} {m_sort : Int → Int} {m_sortAt : Int → Int} {m_told : Int → Int} {m_kept : Int → Int} {m_was : Int → Int} {m_ends : Int → Int} {m_row : Int → Int} (X : Cx G l D cI cB b_Mod_stale y_Mod_stale.cls 5 { frames := 1, cells := 0, slots := 0, locals := 22 }) : ∀ (fuel : Nat) (v1 : Int) (v2 : Int) (v3 : Int) (m_refused : Int → Int) (m_bytes : Int → Int) (m_owner : Int → Int) (m_written : Int → Int) (o : Int × (Int → Int)), m_Mod_stale_20 fuel v1 v2 v3 m_refused m_bytes m_owner m_written = some o → Rt G (some .int) (some (.int (zi o.1))) (w_Mod cI cB a0 a1 a2 a3 a4 a5 a6 a7 a8 a9 a10 a11 a12 a13 a14 a15 m_stepsMade m_stepsMost m_taped m_reading m_statements m_telling m_hasImage m_isKeeping m_cursor m_rowMany m_lots o.2 m_bytes m_owner m_block m_written m_waits m_kinds m_tape m_sort m_sortAt m_told m_kept m_was m_ends m_row) → Wx G 0 0 20 [(0, .ref a0), (1, .int (zi v1)), (2, .int (zi v2)), (3, .int (zi v3))] [] (w_Mod cI cB a0 a1 a2 a3 a4 a5 a6 a7 a8 a9 a10 a11 a12 a13 a14 a15 m_stepsMade m_stepsMost m_taped m_reading m_statements m_telling m_hasImage m_isKeeping m_cursor m_rowMany m_lots m_refused m_bytes m_owner m_block m_written m_waits m_kinds m_tape m_sort m_sortAt m_told m_kept m_was m_ends m_row) := by
  intro fuel
  induction fuel with
  | zero =>
    intro v1 v2 v3 m_refused m_bytes m_owner m_written o h
    exact absurd h (by simp [m_Mod_stale_20])
  | succ fuel ih =>
    intro v1 v2 v3 m_refused m_bytes m_owner m_written o h hR
    rw [m_Mod_stale_20] at h
    refine x_iload_n (pc := 20) X d_Mod_stale_20 3 rfl rfl ?_
    refine x_bipush (pc := 21) (v := 64) X d_Mod_stale_21 rfl ?_
    refine x_icmpge (pc := 23) (tgt := 105) X d_Mod_stale_23 rfl h (fun h => ?_) (fun h => ?_)
    · skip
      refine x_iload_n (pc := 105) X d_Mod_stale_105 2 rfl rfl ?_
      cases h
      exact x_iret (pc := 106) X hR d_Mod_stale_106
    · skip
      refine x_iload_n (pc := 26) X d_Mod_stale_26 1 rfl rfl ?_
      obtain ⟨j3, hj9, h⟩ := jn_e h
      have J10 : ∀ (z4 : Int) (z5 : Int) (z6 : Int) (z7 : Int) (c8 : Int → Int), j3 z4 z5 z6 z7 c8 = some o → Wx G 0 0 75 [(0, .ref a0), (1, .int (zi z4)), (2, .int (zi z5)), (3, .int (zi z6))] [.int (zi z7)] (w_Mod cI cB a0 a1 a2 a3 a4 a5 a6 a7 a8 a9 a10 a11 a12 a13 a14 a15 m_stepsMade m_stepsMost m_taped m_reading m_statements m_telling m_hasImage m_isKeeping m_cursor m_rowMany m_lots c8 m_bytes m_owner m_block m_written m_waits m_kinds m_tape m_sort m_sortAt m_told m_kept m_was m_ends m_row) := by
        intro z4 z5 z6 z7 c8 h
        rw [hj9] at h
        (try dsimp only at h)
        refine x_istore (pc := 75) (ls2 := [(4, .int (zi z7)), (0, .ref a0), (1, .int (zi z4)), (2, .int (zi z5)), (3, .int (zi z6))]) X d_Mod_stale_75 (Nat.le_of_ble_eq_true rfl) rfl ?_
        refine x_iload_n (pc := 77) X d_Mod_stale_77 3 rfl rfl ?_
        refine x_iload (pc := 78) X d_Mod_stale_78 0 rfl ?_
        refine x_ifeq (pc := 80) (tgt := 96) X d_Mod_stale_80 rfl h (fun h => ?_) (fun h => ?_)
        · skip
          refine x_iconst (pc := 96) X d_Mod_stale_96  ?_
          refine x_iadd (pc := 97) X d_Mod_stale_97  ?_
          refine x_istore_n (pc := 98) (ls2 := [(2, .int (zi (z5 + 0))), (4, .int (zi z7)), (0, .ref a0), (1, .int (zi z4)), (3, .int (zi z6))]) X d_Mod_stale_98 rfl (Nat.le_of_ble_eq_true rfl) rfl ?_
          refine x_iinc (pc := 99) (ls2 := [(3, .int (zi (z6 + 1))), (2, .int (zi (z5 + 0))), (4, .int (zi z7)), (0, .ref a0), (1, .int (zi z4))]) X d_Mod_stale_99 4 (Nat.le_of_ble_eq_true rfl) rfl rfl ?_
          refine x_goto (pc := 102) (tgt := 20) X d_Mod_stale_102 rfl ?_
          refine x_ls (ls2 := [(0, .ref a0), (1, .int (zi z4)), (2, .int (zi (z5 + 0))), (3, .int (zi (z6 + 1)))]) [3, 4, 1, 0] rfl ?_
          exact ih z4 (z5 + 0) (z6 + 1) c8 m_bytes m_owner m_written o h hR
        · skip
          refine x_aload_n (pc := 83) X d_Mod_stale_83 1 rfl rfl ?_
          refine x_get (pc := 84) X d_Mod_stale_84 0 rfl fl_Mod_13 rfl ?_
          refine x_iload_n (pc := 87) X d_Mod_stale_87 4 rfl rfl ?_
          refine x_iald (pc := 88) X d_Mod_stale_88 2 rfl (Nat.le_of_ble_eq_true rfl) rfl h (fun h => ?_)
          refine x_ifeq (pc := 89) (tgt := 96) X d_Mod_stale_89 rfl h (fun h => ?_) (fun h => ?_)
          · skip
            refine x_iconst (pc := 96) X d_Mod_stale_96  ?_
            refine x_iadd (pc := 97) X d_Mod_stale_97  ?_
            refine x_istore_n (pc := 98) (ls2 := [(2, .int (zi (z5 + 0))), (4, .int (zi z7)), (0, .ref a0), (1, .int (zi z4)), (3, .int (zi z6))]) X d_Mod_stale_98 rfl (Nat.le_of_ble_eq_true rfl) rfl ?_
            refine x_iinc (pc := 99) (ls2 := [(3, .int (zi (z6 + 1))), (2, .int (zi (z5 + 0))), (4, .int (zi z7)), (0, .ref a0), (1, .int (zi z4))]) X d_Mod_stale_99 4 (Nat.le_of_ble_eq_true rfl) rfl rfl ?_
            refine x_goto (pc := 102) (tgt := 20) X d_Mod_stale_102 rfl ?_
            refine x_ls (ls2 := [(0, .ref a0), (1, .int (zi z4)), (2, .int (zi (z5 + 0))), (3, .int (zi (z6 + 1)))]) [3, 4, 1, 0] rfl ?_
            exact ih z4 (z5 + 0) (z6 + 1) c8 m_bytes m_owner m_written o h hR
          · skip
            refine x_iconst (pc := 92) X d_Mod_stale_92  ?_
            refine x_goto (pc := 93) (tgt := 97) X d_Mod_stale_93 rfl ?_
            refine x_iadd (pc := 97) X d_Mod_stale_97  ?_
            refine x_istore_n (pc := 98) (ls2 := [(2, .int (zi (z5 + 1))), (4, .int (zi z7)), (0, .ref a0), (1, .int (zi z4)), (3, .int (zi z6))]) X d_Mod_stale_98 rfl (Nat.le_of_ble_eq_true rfl) rfl ?_
            refine x_iinc (pc := 99) (ls2 := [(3, .int (zi (z6 + 1))), (2, .int (zi (z5 + 1))), (4, .int (zi z7)), (0, .ref a0), (1, .int (zi z4))]) X d_Mod_stale_99 4 (Nat.le_of_ble_eq_true rfl) rfl rfl ?_
            refine x_goto (pc := 102) (tgt := 20) X d_Mod_stale_102 rfl ?_
            refine x_ls (ls2 := [(0, .ref a0), (1, .int (zi z4)), (2, .int (zi (z5 + 1))), (3, .int (zi (z6 + 1)))]) [3, 4, 1, 0] rfl ?_
            exact ih z4 (z5 + 1) (z6 + 1) c8 m_bytes m_owner m_written o h hR
      clear hj9
      refine x_ifne (pc := 27) (tgt := 47) X d_Mod_stale_27 rfl h (fun h => ?_) (fun h => ?_)
      · skip
        refine x_aload_n (pc := 47) X d_Mod_stale_47 0 rfl rfl ?_
        refine x_get (pc := 48) X d_Mod_stale_48 0 rfl fl_Mod_16 rfl ?_
        refine x_iload_n (pc := 51) X d_Mod_stale_51 3 rfl rfl ?_
        refine x_iald (pc := 52) X d_Mod_stale_52 3 rfl (Nat.le_of_ble_eq_true rfl) rfl h (fun h => ?_)
        obtain ⟨j11, hj16, h⟩ := jn_e h
        have J17 : ∀ (z12 : Int) (z13 : Int) (z14 : Int) (c15 : Int → Int), j11 z12 z13 z14 c15 = some o → Wx G 0 0 74 [(0, .ref a0), (1, .int (zi z12)), (2, .int (zi z13)), (3, .int (zi z14))] [] (w_Mod cI cB a0 a1 a2 a3 a4 a5 a6 a7 a8 a9 a10 a11 a12 a13 a14 a15 m_stepsMade m_stepsMost m_taped m_reading m_statements m_telling m_hasImage m_isKeeping m_cursor m_rowMany m_lots c15 m_bytes m_owner m_block m_written m_waits m_kinds m_tape m_sort m_sortAt m_told m_kept m_was m_ends m_row) := by
          intro z12 z13 z14 c15 h
          rw [hj16] at h
          (try dsimp only at h)
          refine x_iconst (pc := 74) X d_Mod_stale_74  ?_
          exact J10 z12 z13 z14 0 c15 h
        clear hj16
        refine x_iflt (pc := 53) (tgt := 74) X d_Mod_stale_53 rfl h (fun h => ?_) (fun h => ?_)
        · skip
          exact J17 v1 v2 v3 m_refused h
        · skip
          refine x_aload_n (pc := 56) X d_Mod_stale_56 0 rfl rfl ?_
          refine x_get (pc := 57) X d_Mod_stale_57 0 rfl fl_Mod_22 rfl ?_
          refine x_aload_n (pc := 60) X d_Mod_stale_60 0 rfl rfl ?_
          refine x_get (pc := 61) X d_Mod_stale_61 0 rfl fl_Mod_16 rfl ?_
          refine x_iload_n (pc := 64) X d_Mod_stale_64 3 rfl rfl ?_
          refine x_iald (pc := 65) X d_Mod_stale_65 3 rfl (Nat.le_of_ble_eq_true rfl) rfl h (fun h => ?_)
          refine x_iald (pc := 66) X d_Mod_stale_66 5 rfl (Nat.le_of_ble_eq_true rfl) rfl h (fun h => ?_)
          refine x_ifne (pc := 67) (tgt := 74) X d_Mod_stale_67 rfl h (fun h => ?_) (fun h => ?_)
          · skip
            exact J17 v1 v2 v3 m_refused h
          · skip
            refine x_iconst (pc := 70) X d_Mod_stale_70  ?_
            refine x_goto (pc := 71) (tgt := 75) X d_Mod_stale_71 rfl ?_
            exact J10 v1 v2 v3 1 m_refused h
      · skip
        refine x_aload_n (pc := 30) X d_Mod_stale_30 0 rfl rfl ?_
        refine x_get (pc := 31) X d_Mod_stale_31 0 rfl fl_Mod_16 rfl ?_
        refine x_iload_n (pc := 34) X d_Mod_stale_34 3 rfl rfl ?_
        refine x_iald (pc := 35) X d_Mod_stale_35 3 rfl (Nat.le_of_ble_eq_true rfl) rfl h (fun h => ?_)
        refine x_ifge (pc := 36) (tgt := 43) X d_Mod_stale_36 rfl h (fun h => ?_) (fun h => ?_)
        · skip
          refine x_iconst (pc := 43) X d_Mod_stale_43  ?_
          refine x_goto (pc := 44) (tgt := 75) X d_Mod_stale_44 rfl ?_
          exact J10 v1 v2 v3 0 m_refused h
        · skip
          refine x_iconst (pc := 39) X d_Mod_stale_39  ?_
          refine x_goto (pc := 40) (tgt := 75) X d_Mod_stale_40 rfl ?_
          exact J10 v1 v2 v3 1 m_refused h
set_option maxHeartbeats 4000000 in
set_option maxRecDepth 100000 in
theorem c_Mod_stale (l : Launch) (D : va_G) (cI cB : ClassId) (a0 a1 a2 a3 a4 a5 a6 a7 a8 a9 a10 a11 a12 a13 a14 a15 : Nat) (m_stepsMade : Int) (m_stepsMost : Int) (m_taped : Int) (m_reading : Int) (m_statements : Int) (m_telling : Int) (m_hasImage : Int) (m_isKeeping : Int) (m_cursor : Int) (m_rowMany : Int) (m_lots : Int) (m_refused : Int → Int) (m_bytes : Int → Int) (m_owner : Int → Int) (m_block : Int → Int) (m_written : Int → Int) (m_waits : Int → Int) (m_kinds : Int → Int) (m_tape : Int → Int) (m_sort : Int → Int) (m_sortAt : Int → Int) (m_told : Int → Int) (m_kept : Int → Int) (m_was : Int → Int) (m_ends : Int → Int) (m_row : Int → Int) (x1 : Int) {o : Int × (Int → Int)} (h : m_Mod_stale x1 m_refused m_bytes m_owner m_written = some o) : Ct l D cI cB y_Mod_stale b_Mod_stale 5 (some .int) { frames := 1, cells := 0, slots := 0, locals := 22 } [.ref a0, .int (zi x1)] (w_Mod cI cB a0 a1 a2 a3 a4 a5 a6 a7 a8 a9 a10 a11 a12 a13 a14 a15 m_stepsMade m_stepsMost m_taped m_reading m_statements m_telling m_hasImage m_isKeeping m_cursor m_rowMany m_lots m_refused m_bytes m_owner m_block m_written m_waits m_kinds m_tape m_sort m_sortAt m_told m_kept m_was m_ends m_row) (w_Mod cI cB a0 a1 a2 a3 a4 a5 a6 a7 a8 a9 a10 a11 a12 a13 a14 a15 m_stepsMade m_stepsMost m_taped m_reading m_statements m_telling m_hasImage m_isKeeping m_cursor m_rowMany m_lots o.2 m_bytes m_owner m_block m_written m_waits m_kinds m_tape m_sort m_sortAt m_told m_kept m_was m_ends m_row) (some (.int (zi o.1))) := by
  refine Ct.start (by decide) (Nat.le_of_ble_eq_true rfl) (fun G X hR => ?_)
  refine x_ls (ls2 := [(0, .ref a0), (1, .int (zi x1))]) [0, 1] rfl ?_
  unfold m_Mod_stale at h
  refine x_iload_n (pc := 0) X d_Mod_stale_0 1 rfl rfl ?_
  refine x_iconst (pc := 1) X d_Mod_stale_1  ?_
  refine x_iconst (pc := 2) X d_Mod_stale_2  ?_
  obtain ⟨r1, h2, h⟩ := bnd_e h
  refine x_callS (pc := 3) (As := [.int (zi x1), .int (zi 0), .int (zi 1)]) (rest := []) (w2 := (w_Mod cI cB a0 a1 a2 a3 a4 a5 a6 a7 a8 a9 a10 a11 a12 a13 a14 a15 m_stepsMade m_stepsMost m_taped m_reading m_statements m_telling m_hasImage m_isKeeping m_cursor m_rowMany m_lots m_refused m_bytes m_owner m_block m_written m_waits m_kinds m_tape m_sort m_sortAt m_told m_kept m_was m_ends m_row)) X d_Mod_stale_3 lk_Mod_58 mv_Mod_isIn (c_Mod_isIn l D cI cB x1 0 1 h2) ⟨(Nat.le_of_ble_eq_true rfl), (Nat.le_of_ble_eq_true rfl), (Nat.le_of_ble_eq_true rfl), (Nat.le_of_ble_eq_true rfl)⟩ [] rfl rfl rfl (Up.same rfl) rfl rfl (Nat.le_of_ble_eq_true rfl) ?_
  refine x_ifne (pc := 6) (tgt := 16) X d_Mod_stale_6 rfl h (fun h => ?_) (fun h => ?_)
  · skip
    refine x_iconst (pc := 16) X d_Mod_stale_16  ?_
    refine x_istore_n (pc := 17) (ls2 := [(2, .int (zi 0)), (0, .ref a0), (1, .int (zi x1))]) X d_Mod_stale_17 rfl (Nat.le_of_ble_eq_true rfl) rfl ?_
    refine x_iconst (pc := 18) X d_Mod_stale_18  ?_
    refine x_istore_n (pc := 19) (ls2 := [(3, .int (zi 0)), (2, .int (zi 0)), (0, .ref a0), (1, .int (zi x1))]) X d_Mod_stale_19 rfl (Nat.le_of_ble_eq_true rfl) rfl ?_
    refine x_ls (ls2 := [(0, .ref a0), (1, .int (zi x1)), (2, .int (zi 0)), (3, .int (zi 0))]) [2, 3, 1, 0] rfl ?_
    exact l_Mod_stale_20 X 5000 x1 0 0 m_refused m_bytes m_owner m_written o h hR
  · skip
    refine x_aload_n (pc := 9) X d_Mod_stale_9 0 rfl rfl ?_
    refine x_bipush (pc := 10) (v := -2) X d_Mod_stale_10 rfl ?_
    obtain ⟨r18, h19, h⟩ := bnd_e h
    refine x_callV (pc := 12) (As := [.int (zi (-2))]) (rest := []) (w2 := (w_Mod cI cB a0 a1 a2 a3 a4 a5 a6 a7 a8 a9 a10 a11 a12 a13 a14 a15 m_stepsMade m_stepsMost m_taped m_reading m_statements m_telling m_hasImage m_isKeeping m_cursor m_rowMany m_lots r18.2 m_bytes m_owner m_block m_written m_waits m_kinds m_tape m_sort m_sortAt m_told m_kept m_was m_ends m_row)) X d_Mod_stale_12 lk_Mod_172 mv_Mod_no (c_Mod_no l D cI cB a0 a1 a2 a3 a4 a5 a6 a7 a8 a9 a10 a11 a12 a13 a14 a15 m_stepsMade m_stepsMost m_taped m_reading m_statements m_telling m_hasImage m_isKeeping m_cursor m_rowMany m_lots m_refused m_bytes m_owner m_block m_written m_waits m_kinds m_tape m_sort m_sortAt m_told m_kept m_was m_ends m_row (-2) h19) ⟨(Nat.le_of_ble_eq_true rfl), (Nat.le_of_ble_eq_true rfl), (Nat.le_of_ble_eq_true rfl), (Nat.le_of_ble_eq_true rfl)⟩ 0 rfl rfl [0, 1, 2, 3, 4, 5, 6, 7, 8, 9, 10, 11, 12, 13, 14, 15] rfl rfl rfl (Up.of [] [] rfl rfl rfl 16 rfl (by decide +kernel)) rfl rfl (Nat.le_of_ble_eq_true rfl) ?_
    cases h
    exact x_iret (pc := 15) X hR d_Mod_stale_15
theorem d_Mod_minds_0 : decode b_Mod_minds 0 = .ok (.aload_n 0, 1) := by decide +kernel
theorem d_Mod_minds_1 : decode b_Mod_minds 1 = .ok (.iconst 2, 1) := by decide +kernel
theorem d_Mod_minds_2 : decode b_Mod_minds 2 = .ok (.iconst 1, 1) := by decide +kernel
theorem d_Mod_minds_3 : decode b_Mod_minds 3 = .ok (.invokevirtual 251, 3) := by decide +kernel
theorem d_Mod_minds_6 : decode b_Mod_minds 6 = .ok (.return_, 1) := by decide +kernel
def m_Mod_minds  (m_isKeeping : Int) (m_cursor : Int) (m_bytes : Int → Int) (m_owner : Int → Int) (m_block : Int → Int) (m_written : Int → Int) (m_waits : Int → Int) (m_kinds : Int → Int) (m_kept : Int → Int) : Option (Int × Int × (Int → Int) × (Int → Int) × (Int → Int) × (Int → Int) × (Int → Int) × (Int → Int) × (Int → Int)) :=
  bnd (m_Mod_passesAll 2 1 m_isKeeping m_cursor m_bytes m_owner m_block m_written m_waits m_kinds m_kept) (fun r1 => some (r1.1, r1.2.1, r1.2.2.1, r1.2.2.2.1, r1.2.2.2.2.1, r1.2.2.2.2.2.1, r1.2.2.2.2.2.2.1, r1.2.2.2.2.2.2.2.1, r1.2.2.2.2.2.2.2.2))
set_option maxHeartbeats 4000000 in
set_option maxRecDepth 100000 in
theorem c_Mod_minds (l : Launch) (D : va_G) (cI cB : ClassId) (a0 a1 a2 a3 a4 a5 a6 a7 a8 a9 a10 a11 a12 a13 a14 a15 : Nat) (m_stepsMade : Int) (m_stepsMost : Int) (m_taped : Int) (m_reading : Int) (m_statements : Int) (m_telling : Int) (m_hasImage : Int) (m_isKeeping : Int) (m_cursor : Int) (m_rowMany : Int) (m_lots : Int) (m_refused : Int → Int) (m_bytes : Int → Int) (m_owner : Int → Int) (m_block : Int → Int) (m_written : Int → Int) (m_waits : Int → Int) (m_kinds : Int → Int) (m_tape : Int → Int) (m_sort : Int → Int) (m_sortAt : Int → Int) (m_told : Int → Int) (m_kept : Int → Int) (m_was : Int → Int) (m_ends : Int → Int) (m_row : Int → Int)  {o : Int × Int × (Int → Int) × (Int → Int) × (Int → Int) × (Int → Int) × (Int → Int) × (Int → Int) × (Int → Int)} (h : m_Mod_minds m_isKeeping m_cursor m_bytes m_owner m_block m_written m_waits m_kinds m_kept = some o) : Ct l D cI cB y_Mod_minds b_Mod_minds 1 none { frames := 2, cells := 0, slots := 0, locals := 44 } [.ref a0] (w_Mod cI cB a0 a1 a2 a3 a4 a5 a6 a7 a8 a9 a10 a11 a12 a13 a14 a15 m_stepsMade m_stepsMost m_taped m_reading m_statements m_telling m_hasImage m_isKeeping m_cursor m_rowMany m_lots m_refused m_bytes m_owner m_block m_written m_waits m_kinds m_tape m_sort m_sortAt m_told m_kept m_was m_ends m_row) (w_Mod cI cB a0 a1 a2 a3 a4 a5 a6 a7 a8 a9 a10 a11 a12 a13 a14 a15 m_stepsMade m_stepsMost m_taped m_reading m_statements m_telling m_hasImage o.1 o.2.1 m_rowMany m_lots m_refused o.2.2.1 o.2.2.2.1 o.2.2.2.2.1 o.2.2.2.2.2.1 o.2.2.2.2.2.2.1 o.2.2.2.2.2.2.2.1 m_tape m_sort m_sortAt m_told o.2.2.2.2.2.2.2.2 m_was m_ends m_row) none := by
  refine Ct.start (by decide) (Nat.le_of_ble_eq_true rfl) (fun G X hR => ?_)
  refine x_ls (ls2 := [(0, .ref a0)]) [0] rfl ?_
  unfold m_Mod_minds at h
  refine x_aload_n (pc := 0) X d_Mod_minds_0 0 rfl rfl ?_
  refine x_iconst (pc := 1) X d_Mod_minds_1  ?_
  refine x_iconst (pc := 2) X d_Mod_minds_2  ?_
  obtain ⟨r1, h2, h⟩ := bnd_e h
  refine x_callV (pc := 3) (As := [.int (zi 2), .int (zi 1)]) (rest := []) (w2 := (w_Mod cI cB a0 a1 a2 a3 a4 a5 a6 a7 a8 a9 a10 a11 a12 a13 a14 a15 m_stepsMade m_stepsMost m_taped m_reading m_statements m_telling m_hasImage r1.1 r1.2.1 m_rowMany m_lots m_refused r1.2.2.1 r1.2.2.2.1 r1.2.2.2.2.1 r1.2.2.2.2.2.1 r1.2.2.2.2.2.2.1 r1.2.2.2.2.2.2.2.1 m_tape m_sort m_sortAt m_told r1.2.2.2.2.2.2.2.2 m_was m_ends m_row)) X d_Mod_minds_3 lk_Mod_251 mv_Mod_passesAll (c_Mod_passesAll l D cI cB a0 a1 a2 a3 a4 a5 a6 a7 a8 a9 a10 a11 a12 a13 a14 a15 m_stepsMade m_stepsMost m_taped m_reading m_statements m_telling m_hasImage m_isKeeping m_cursor m_rowMany m_lots m_refused m_bytes m_owner m_block m_written m_waits m_kinds m_tape m_sort m_sortAt m_told m_kept m_was m_ends m_row 2 1 h2) ⟨(Nat.le_of_ble_eq_true rfl), (Nat.le_of_ble_eq_true rfl), (Nat.le_of_ble_eq_true rfl), (Nat.le_of_ble_eq_true rfl)⟩ 0 rfl rfl [0, 1, 2, 3, 4, 5, 6, 7, 8, 9, 10, 11, 12, 13, 14, 15] rfl rfl rfl (Up.of [] [] rfl rfl rfl 16 rfl (by decide +kernel)) rfl rfl (Nat.le_of_ble_eq_true rfl) ?_
  cases h
  exact x_vret (pc := 6) X hR d_Mod_minds_6
theorem d_Mod_forgets_0 : decode b_Mod_forgets 0 = .ok (.aload_n 0, 1) := by decide +kernel
theorem d_Mod_forgets_1 : decode b_Mod_forgets 1 = .ok (.iconst 2, 1) := by decide +kernel
theorem d_Mod_forgets_2 : decode b_Mod_forgets 2 = .ok (.iconst 0, 1) := by decide +kernel
theorem d_Mod_forgets_3 : decode b_Mod_forgets 3 = .ok (.invokevirtual 251, 3) := by decide +kernel
theorem d_Mod_forgets_6 : decode b_Mod_forgets 6 = .ok (.return_, 1) := by decide +kernel
def m_Mod_forgets  (m_isKeeping : Int) (m_cursor : Int) (m_bytes : Int → Int) (m_owner : Int → Int) (m_block : Int → Int) (m_written : Int → Int) (m_waits : Int → Int) (m_kinds : Int → Int) (m_kept : Int → Int) : Option (Int × Int × (Int → Int) × (Int → Int) × (Int → Int) × (Int → Int) × (Int → Int) × (Int → Int) × (Int → Int)) :=
  bnd (m_Mod_passesAll 2 0 m_isKeeping m_cursor m_bytes m_owner m_block m_written m_waits m_kinds m_kept) (fun r1 => some (r1.1, r1.2.1, r1.2.2.1, r1.2.2.2.1, r1.2.2.2.2.1, r1.2.2.2.2.2.1, r1.2.2.2.2.2.2.1, r1.2.2.2.2.2.2.2.1, r1.2.2.2.2.2.2.2.2))
set_option maxHeartbeats 4000000 in
set_option maxRecDepth 100000 in
theorem c_Mod_forgets (l : Launch) (D : va_G) (cI cB : ClassId) (a0 a1 a2 a3 a4 a5 a6 a7 a8 a9 a10 a11 a12 a13 a14 a15 : Nat) (m_stepsMade : Int) (m_stepsMost : Int) (m_taped : Int) (m_reading : Int) (m_statements : Int) (m_telling : Int) (m_hasImage : Int) (m_isKeeping : Int) (m_cursor : Int) (m_rowMany : Int) (m_lots : Int) (m_refused : Int → Int) (m_bytes : Int → Int) (m_owner : Int → Int) (m_block : Int → Int) (m_written : Int → Int) (m_waits : Int → Int) (m_kinds : Int → Int) (m_tape : Int → Int) (m_sort : Int → Int) (m_sortAt : Int → Int) (m_told : Int → Int) (m_kept : Int → Int) (m_was : Int → Int) (m_ends : Int → Int) (m_row : Int → Int)  {o : Int × Int × (Int → Int) × (Int → Int) × (Int → Int) × (Int → Int) × (Int → Int) × (Int → Int) × (Int → Int)} (h : m_Mod_forgets m_isKeeping m_cursor m_bytes m_owner m_block m_written m_waits m_kinds m_kept = some o) : Ct l D cI cB y_Mod_forgets b_Mod_forgets 1 none { frames := 2, cells := 0, slots := 0, locals := 44 } [.ref a0] (w_Mod cI cB a0 a1 a2 a3 a4 a5 a6 a7 a8 a9 a10 a11 a12 a13 a14 a15 m_stepsMade m_stepsMost m_taped m_reading m_statements m_telling m_hasImage m_isKeeping m_cursor m_rowMany m_lots m_refused m_bytes m_owner m_block m_written m_waits m_kinds m_tape m_sort m_sortAt m_told m_kept m_was m_ends m_row) (w_Mod cI cB a0 a1 a2 a3 a4 a5 a6 a7 a8 a9 a10 a11 a12 a13 a14 a15 m_stepsMade m_stepsMost m_taped m_reading m_statements m_telling m_hasImage o.1 o.2.1 m_rowMany m_lots m_refused o.2.2.1 o.2.2.2.1 o.2.2.2.2.1 o.2.2.2.2.2.1 o.2.2.2.2.2.2.1 o.2.2.2.2.2.2.2.1 m_tape m_sort m_sortAt m_told o.2.2.2.2.2.2.2.2 m_was m_ends m_row) none := by
  refine Ct.start (by decide) (Nat.le_of_ble_eq_true rfl) (fun G X hR => ?_)
  refine x_ls (ls2 := [(0, .ref a0)]) [0] rfl ?_
  unfold m_Mod_forgets at h
  refine x_aload_n (pc := 0) X d_Mod_forgets_0 0 rfl rfl ?_
  refine x_iconst (pc := 1) X d_Mod_forgets_1  ?_
  refine x_iconst (pc := 2) X d_Mod_forgets_2  ?_
  obtain ⟨r1, h2, h⟩ := bnd_e h
  refine x_callV (pc := 3) (As := [.int (zi 2), .int (zi 0)]) (rest := []) (w2 := (w_Mod cI cB a0 a1 a2 a3 a4 a5 a6 a7 a8 a9 a10 a11 a12 a13 a14 a15 m_stepsMade m_stepsMost m_taped m_reading m_statements m_telling m_hasImage r1.1 r1.2.1 m_rowMany m_lots m_refused r1.2.2.1 r1.2.2.2.1 r1.2.2.2.2.1 r1.2.2.2.2.2.1 r1.2.2.2.2.2.2.1 r1.2.2.2.2.2.2.2.1 m_tape m_sort m_sortAt m_told r1.2.2.2.2.2.2.2.2 m_was m_ends m_row)) X d_Mod_forgets_3 lk_Mod_251 mv_Mod_passesAll (c_Mod_passesAll l D cI cB a0 a1 a2 a3 a4 a5 a6 a7 a8 a9 a10 a11 a12 a13 a14 a15 m_stepsMade m_stepsMost m_taped m_reading m_statements m_telling m_hasImage m_isKeeping m_cursor m_rowMany m_lots m_refused m_bytes m_owner m_block m_written m_waits m_kinds m_tape m_sort m_sortAt m_told m_kept m_was m_ends m_row 2 0 h2) ⟨(Nat.le_of_ble_eq_true rfl), (Nat.le_of_ble_eq_true rfl), (Nat.le_of_ble_eq_true rfl), (Nat.le_of_ble_eq_true rfl)⟩ 0 rfl rfl [0, 1, 2, 3, 4, 5, 6, 7, 8, 9, 10, 11, 12, 13, 14, 15] rfl rfl rfl (Up.of [] [] rfl rfl rfl 16 rfl (by decide +kernel)) rfl rfl (Nat.le_of_ble_eq_true rfl) ?_
  cases h
  exact x_vret (pc := 6) X hR d_Mod_forgets_6
theorem d_Mod_scatterOf_0 : decode b_Mod_scatterOf 0 = .ok (.aload_n 0, 1) := by decide +kernel
theorem d_Mod_scatterOf_1 : decode b_Mod_scatterOf 1 = .ok (.invokevirtual 291, 3) := by decide +kernel
theorem d_Mod_scatterOf_4 : decode b_Mod_scatterOf 4 = .ok (.aload_n 0, 1) := by decide +kernel
theorem d_Mod_scatterOf_5 : decode b_Mod_scatterOf 5 = .ok (.iload_n 1, 1) := by decide +kernel
theorem d_Mod_scatterOf_6 : decode b_Mod_scatterOf 6 = .ok (.ldc 165, 2) := by decide +kernel
theorem d_Mod_scatterOf_8 : decode b_Mod_scatterOf 8 = .ok (.invokevirtual 150, 3) := by decide +kernel
theorem d_Mod_scatterOf_11 : decode b_Mod_scatterOf 11 = .ok (.pop, 1) := by decide +kernel
theorem d_Mod_scatterOf_12 : decode b_Mod_scatterOf 12 = .ok (.aload_n 0, 1) := by decide +kernel
theorem d_Mod_scatterOf_13 : decode b_Mod_scatterOf 13 = .ok (.iload_n 1, 1) := by decide +kernel
theorem d_Mod_scatterOf_14 : decode b_Mod_scatterOf 14 = .ok (.invokevirtual 82, 3) := by decide +kernel
theorem d_Mod_scatterOf_17 : decode b_Mod_scatterOf 17 = .ok (.istore_n 2, 1) := by decide +kernel
theorem d_Mod_scatterOf_18 : decode b_Mod_scatterOf 18 = .ok (.aload_n 0, 1) := by decide +kernel
theorem d_Mod_scatterOf_19 : decode b_Mod_scatterOf 19 = .ok (.invokevirtual 294, 3) := by decide +kernel
theorem d_Mod_scatterOf_22 : decode b_Mod_scatterOf 22 = .ok (.iload_n 2, 1) := by decide +kernel
theorem d_Mod_scatterOf_23 : decode b_Mod_scatterOf 23 = .ok (.ireturn, 1) := by decide +kernel
def m_Mod_scatterOf (x1 : Int) (m_stepsMade : Int) (m_stepsMost : Int) (m_isKeeping : Int) (m_cursor : Int) (m_bytes : Int → Int) (m_owner : Int → Int) (m_block : Int → Int) (m_written : Int → Int) (m_waits : Int → Int) (m_kinds : Int → Int) (m_kept : Int → Int) : Option (Int × Int × Int × Int × Int × (Int → Int) × (Int → Int) × (Int → Int) × (Int → Int) × (Int → Int) × (Int → Int) × (Int → Int)) :=
  bnd (m_Mod_minds m_isKeeping m_cursor m_bytes m_owner m_block m_written m_waits m_kinds m_kept) (fun r1 => bnd (m_Mod_flushes x1 1000000 m_stepsMade m_stepsMost r1.2.2.1 r1.2.2.2.1 r1.2.2.2.2.1 r1.2.2.2.2.2.1 r1.2.2.2.2.2.2.1 r1.2.2.2.2.2.2.2.1) (fun r3 => bnd (m_Mod_extents x1 r3.2.2.2.2.2.1 r3.2.2.2.2.2.2.1) (fun r5 => bnd (m_Mod_forgets r1.1 r1.2.1 r3.2.2.2.1 r3.2.2.2.2.1 r3.2.2.2.2.2.1 r3.2.2.2.2.2.2.1 r3.2.2.2.2.2.2.2 r1.2.2.2.2.2.2.2.1 r1.2.2.2.2.2.2.2.2) (fun r7 => some (r5, r3.2.1, r3.2.2.1, r7.1, r7.2.1, r7.2.2.1, r7.2.2.2.1, r7.2.2.2.2.1, r7.2.2.2.2.2.1, r7.2.2.2.2.2.2.1, r7.2.2.2.2.2.2.2.1, r7.2.2.2.2.2.2.2.2)))))
set_option maxHeartbeats 4000000 in
set_option maxRecDepth 100000 in
theorem c_Mod_scatterOf (l : Launch) (D : va_G) (cI cB : ClassId) (a0 a1 a2 a3 a4 a5 a6 a7 a8 a9 a10 a11 a12 a13 a14 a15 : Nat) (m_stepsMade : Int) (m_stepsMost : Int) (m_taped : Int) (m_reading : Int) (m_statements : Int) (m_telling : Int) (m_hasImage : Int) (m_isKeeping : Int) (m_cursor : Int) (m_rowMany : Int) (m_lots : Int) (m_refused : Int → Int) (m_bytes : Int → Int) (m_owner : Int → Int) (m_block : Int → Int) (m_written : Int → Int) (m_waits : Int → Int) (m_kinds : Int → Int) (m_tape : Int → Int) (m_sort : Int → Int) (m_sortAt : Int → Int) (m_told : Int → Int) (m_kept : Int → Int) (m_was : Int → Int) (m_ends : Int → Int) (m_row : Int → Int) (x1 : Int) {o : Int × Int × Int × Int × Int × (Int → Int) × (Int → Int) × (Int → Int) × (Int → Int) × (Int → Int) × (Int → Int) × (Int → Int)} (h : m_Mod_scatterOf x1 m_stepsMade m_stepsMost m_isKeeping m_cursor m_bytes m_owner m_block m_written m_waits m_kinds m_kept = some o) : Ct l D cI cB y_Mod_scatterOf b_Mod_scatterOf 3 (some .int) { frames := 6, cells := 0, slots := 0, locals := 142 } [.ref a0, .int (zi x1)] (w_Mod cI cB a0 a1 a2 a3 a4 a5 a6 a7 a8 a9 a10 a11 a12 a13 a14 a15 m_stepsMade m_stepsMost m_taped m_reading m_statements m_telling m_hasImage m_isKeeping m_cursor m_rowMany m_lots m_refused m_bytes m_owner m_block m_written m_waits m_kinds m_tape m_sort m_sortAt m_told m_kept m_was m_ends m_row) (w_Mod cI cB a0 a1 a2 a3 a4 a5 a6 a7 a8 a9 a10 a11 a12 a13 a14 a15 o.2.1 o.2.2.1 m_taped m_reading m_statements m_telling m_hasImage o.2.2.2.1 o.2.2.2.2.1 m_rowMany m_lots m_refused o.2.2.2.2.2.1 o.2.2.2.2.2.2.1 o.2.2.2.2.2.2.2.1 o.2.2.2.2.2.2.2.2.1 o.2.2.2.2.2.2.2.2.2.1 o.2.2.2.2.2.2.2.2.2.2.1 m_tape m_sort m_sortAt m_told o.2.2.2.2.2.2.2.2.2.2.2 m_was m_ends m_row) (some (.int (zi o.1))) := by
  refine Ct.start (by decide) (Nat.le_of_ble_eq_true rfl) (fun G X hR => ?_)
  refine x_ls (ls2 := [(0, .ref a0), (1, .int (zi x1))]) [0, 1] rfl ?_
  unfold m_Mod_scatterOf at h
  refine x_aload_n (pc := 0) X d_Mod_scatterOf_0 0 rfl rfl ?_
  obtain ⟨r1, h2, h⟩ := bnd_e h
  refine x_callV (pc := 1) (As := []) (rest := []) (w2 := (w_Mod cI cB a0 a1 a2 a3 a4 a5 a6 a7 a8 a9 a10 a11 a12 a13 a14 a15 m_stepsMade m_stepsMost m_taped m_reading m_statements m_telling m_hasImage r1.1 r1.2.1 m_rowMany m_lots m_refused r1.2.2.1 r1.2.2.2.1 r1.2.2.2.2.1 r1.2.2.2.2.2.1 r1.2.2.2.2.2.2.1 r1.2.2.2.2.2.2.2.1 m_tape m_sort m_sortAt m_told r1.2.2.2.2.2.2.2.2 m_was m_ends m_row)) X d_Mod_scatterOf_1 lk_Mod_291 mv_Mod_minds (c_Mod_minds l D cI cB a0 a1 a2 a3 a4 a5 a6 a7 a8 a9 a10 a11 a12 a13 a14 a15 m_stepsMade m_stepsMost m_taped m_reading m_statements m_telling m_hasImage m_isKeeping m_cursor m_rowMany m_lots m_refused m_bytes m_owner m_block m_written m_waits m_kinds m_tape m_sort m_sortAt m_told m_kept m_was m_ends m_row h2) ⟨(Nat.le_of_ble_eq_true rfl), (Nat.le_of_ble_eq_true rfl), (Nat.le_of_ble_eq_true rfl), (Nat.le_of_ble_eq_true rfl)⟩ 0 rfl rfl [0, 1, 2, 3, 4, 5, 6, 7, 8, 9, 10, 11, 12, 13, 14, 15] rfl rfl rfl (Up.of [] [] rfl rfl rfl 16 rfl (by decide +kernel)) rfl rfl (Nat.le_of_ble_eq_true rfl) ?_
  refine x_aload_n (pc := 4) X d_Mod_scatterOf_4 0 rfl rfl ?_
  refine x_iload_n (pc := 5) X d_Mod_scatterOf_5 1 rfl rfl ?_
  refine x_ldc (pc := 6) X d_Mod_scatterOf_6 cw_Mod_165 cg_Mod_165 ?_
  obtain ⟨r3, h4, h⟩ := bnd_e h
  refine x_callV (pc := 8) (As := [.int (zi x1), .int (zi 1000000)]) (rest := []) (w2 := (w_Mod cI cB a0 a1 a2 a3 a4 a5 a6 a7 a8 a9 a10 a11 a12 a13 a14 a15 r3.2.1 r3.2.2.1 m_taped m_reading m_statements m_telling m_hasImage r1.1 r1.2.1 m_rowMany m_lots m_refused r3.2.2.2.1 r3.2.2.2.2.1 r3.2.2.2.2.2.1 r3.2.2.2.2.2.2.1 r3.2.2.2.2.2.2.2 r1.2.2.2.2.2.2.2.1 m_tape m_sort m_sortAt m_told r1.2.2.2.2.2.2.2.2 m_was m_ends m_row)) X d_Mod_scatterOf_8 lk_Mod_150 mv_Mod_flushes (c_Mod_flushes l D cI cB a0 a1 a2 a3 a4 a5 a6 a7 a8 a9 a10 a11 a12 a13 a14 a15 m_stepsMade m_stepsMost m_taped m_reading m_statements m_telling m_hasImage r1.1 r1.2.1 m_rowMany m_lots m_refused r1.2.2.1 r1.2.2.2.1 r1.2.2.2.2.1 r1.2.2.2.2.2.1 r1.2.2.2.2.2.2.1 r1.2.2.2.2.2.2.2.1 m_tape m_sort m_sortAt m_told r1.2.2.2.2.2.2.2.2 m_was m_ends m_row x1 1000000 h4) ⟨(Nat.le_of_ble_eq_true rfl), (Nat.le_of_ble_eq_true rfl), (Nat.le_of_ble_eq_true rfl), (Nat.le_of_ble_eq_true rfl)⟩ 0 rfl rfl [0, 1, 2, 3, 4, 5, 6, 7, 8, 9, 10, 11, 12, 13, 14, 15] rfl rfl rfl (Up.of [] [] rfl rfl rfl 16 rfl (by decide +kernel)) rfl rfl (Nat.le_of_ble_eq_true rfl) ?_
  refine x_pop (pc := 11) X d_Mod_scatterOf_11 rfl ?_
  refine x_aload_n (pc := 12) X d_Mod_scatterOf_12 0 rfl rfl ?_
  refine x_iload_n (pc := 13) X d_Mod_scatterOf_13 1 rfl rfl ?_
  obtain ⟨r5, h6, h⟩ := bnd_e h
  refine x_callV (pc := 14) (As := [.int (zi x1)]) (rest := []) (w2 := (w_Mod cI cB a0 a1 a2 a3 a4 a5 a6 a7 a8 a9 a10 a11 a12 a13 a14 a15 r3.2.1 r3.2.2.1 m_taped m_reading m_statements m_telling m_hasImage r1.1 r1.2.1 m_rowMany m_lots m_refused r3.2.2.2.1 r3.2.2.2.2.1 r3.2.2.2.2.2.1 r3.2.2.2.2.2.2.1 r3.2.2.2.2.2.2.2 r1.2.2.2.2.2.2.2.1 m_tape m_sort m_sortAt m_told r1.2.2.2.2.2.2.2.2 m_was m_ends m_row)) X d_Mod_scatterOf_14 lk_Mod_82 mv_Mod_extents (c_Mod_extents l D cI cB a0 a1 a2 a3 a4 a5 a6 a7 a8 a9 a10 a11 a12 a13 a14 a15 r3.2.1 r3.2.2.1 m_taped m_reading m_statements m_telling m_hasImage r1.1 r1.2.1 m_rowMany m_lots m_refused r3.2.2.2.1 r3.2.2.2.2.1 r3.2.2.2.2.2.1 r3.2.2.2.2.2.2.1 r3.2.2.2.2.2.2.2 r1.2.2.2.2.2.2.2.1 m_tape m_sort m_sortAt m_told r1.2.2.2.2.2.2.2.2 m_was m_ends m_row x1 h6) ⟨(Nat.le_of_ble_eq_true rfl), (Nat.le_of_ble_eq_true rfl), (Nat.le_of_ble_eq_true rfl), (Nat.le_of_ble_eq_true rfl)⟩ 0 rfl rfl [0, 1, 2, 3, 4, 5, 6, 7, 8, 9, 10, 11, 12, 13, 14, 15] rfl rfl rfl (Up.same rfl) rfl rfl (Nat.le_of_ble_eq_true rfl) ?_
  refine x_istore_n (pc := 17) (ls2 := [(2, .int (zi r5)), (0, .ref a0), (1, .int (zi x1))]) X d_Mod_scatterOf_17 rfl (Nat.le_of_ble_eq_true rfl) rfl ?_
  refine x_aload_n (pc := 18) X d_Mod_scatterOf_18 1 rfl rfl ?_
  obtain ⟨r7, h8, h⟩ := bnd_e h
  refine x_callV (pc := 19) (As := []) (rest := []) (w2 := (w_Mod cI cB a0 a1 a2 a3 a4 a5 a6 a7 a8 a9 a10 a11 a12 a13 a14 a15 r3.2.1 r3.2.2.1 m_taped m_reading m_statements m_telling m_hasImage r7.1 r7.2.1 m_rowMany m_lots m_refused r7.2.2.1 r7.2.2.2.1 r7.2.2.2.2.1 r7.2.2.2.2.2.1 r7.2.2.2.2.2.2.1 r7.2.2.2.2.2.2.2.1 m_tape m_sort m_sortAt m_told r7.2.2.2.2.2.2.2.2 m_was m_ends m_row)) X d_Mod_scatterOf_19 lk_Mod_294 mv_Mod_forgets (c_Mod_forgets l D cI cB a0 a1 a2 a3 a4 a5 a6 a7 a8 a9 a10 a11 a12 a13 a14 a15 r3.2.1 r3.2.2.1 m_taped m_reading m_statements m_telling m_hasImage r1.1 r1.2.1 m_rowMany m_lots m_refused r3.2.2.2.1 r3.2.2.2.2.1 r3.2.2.2.2.2.1 r3.2.2.2.2.2.2.1 r3.2.2.2.2.2.2.2 r1.2.2.2.2.2.2.2.1 m_tape m_sort m_sortAt m_told r1.2.2.2.2.2.2.2.2 m_was m_ends m_row h8) ⟨(Nat.le_of_ble_eq_true rfl), (Nat.le_of_ble_eq_true rfl), (Nat.le_of_ble_eq_true rfl), (Nat.le_of_ble_eq_true rfl)⟩ 0 rfl rfl [0, 1, 2, 3, 4, 5, 6, 7, 8, 9, 10, 11, 12, 13, 14, 15] rfl rfl rfl (Up.of [] [] rfl rfl rfl 16 rfl (by decide +kernel)) rfl rfl (Nat.le_of_ble_eq_true rfl) ?_
  refine x_iload_n (pc := 22) X d_Mod_scatterOf_22 0 rfl rfl ?_
  cases h
  exact x_iret (pc := 23) X hR d_Mod_scatterOf_23
theorem d_Mod_scatter_0 : decode b_Mod_scatter 0 = .ok (.iload_n 1, 1) := by decide +kernel
theorem d_Mod_scatter_1 : decode b_Mod_scatter 1 = .ok (.invokestatic 230, 3) := by decide +kernel
theorem d_Mod_scatter_4 : decode b_Mod_scatter 4 = .ok (.ifCond .eq 11, 3) := by decide +kernel
theorem d_Mod_scatter_7 : decode b_Mod_scatter 7 = .ok (.aload_n 0, 1) := by decide +kernel
theorem d_Mod_scatter_8 : decode b_Mod_scatter 8 = .ok (.iload_n 1, 1) := by decide +kernel
theorem d_Mod_scatter_9 : decode b_Mod_scatter 9 = .ok (.invokevirtual 297, 3) := by decide +kernel
theorem d_Mod_scatter_12 : decode b_Mod_scatter 12 = .ok (.goto 8, 3) := by decide +kernel
theorem d_Mod_scatter_15 : decode b_Mod_scatter 15 = .ok (.aload_n 0, 1) := by decide +kernel
theorem d_Mod_scatter_16 : decode b_Mod_scatter 16 = .ok (.iconst (-1), 1) := by decide +kernel
theorem d_Mod_scatter_17 : decode b_Mod_scatter 17 = .ok (.invokevirtual 172, 3) := by decide +kernel
theorem d_Mod_scatter_20 : decode b_Mod_scatter 20 = .ok (.ireturn, 1) := by decide +kernel
def m_Mod_scatter (x1 : Int) (m_stepsMade : Int) (m_stepsMost : Int) (m_isKeeping : Int) (m_cursor : Int) (m_refused : Int → Int) (m_bytes : Int → Int) (m_owner : Int → Int) (m_block : Int → Int) (m_written : Int → Int) (m_waits : Int → Int) (m_kinds : Int → Int) (m_kept : Int → Int) : Option (Int × Int × Int × Int × Int × (Int → Int) × (Int → Int) × (Int → Int) × (Int → Int) × (Int → Int) × (Int → Int) × (Int → Int) × (Int → Int)) :=
  bnd (m_Mod_isFile x1) (fun r1 => ceq r1 0 (bnd (m_Mod_no (-1) m_refused) (fun r3 => some (r3.1, m_stepsMade, m_stepsMost, m_isKeeping, m_cursor, r3.2, m_bytes, m_owner, m_block, m_written, m_waits, m_kinds, m_kept))) (bnd (m_Mod_scatterOf x1 m_stepsMade m_stepsMost m_isKeeping m_cursor m_bytes m_owner m_block m_written m_waits m_kinds m_kept) (fun r5 => some (r5.1, r5.2.1, r5.2.2.1, r5.2.2.2.1, r5.2.2.2.2.1, m_refused, r5.2.2.2.2.2.1, r5.2.2.2.2.2.2.1, r5.2.2.2.2.2.2.2.1, r5.2.2.2.2.2.2.2.2.1, r5.2.2.2.2.2.2.2.2.2.1, r5.2.2.2.2.2.2.2.2.2.2.1, r5.2.2.2.2.2.2.2.2.2.2.2))))
set_option maxHeartbeats 4000000 in
set_option maxRecDepth 100000 in
theorem c_Mod_scatter (l : Launch) (D : va_G) (cI cB : ClassId) (a0 a1 a2 a3 a4 a5 a6 a7 a8 a9 a10 a11 a12 a13 a14 a15 : Nat) (m_stepsMade : Int) (m_stepsMost : Int) (m_taped : Int) (m_reading : Int) (m_statements : Int) (m_telling : Int) (m_hasImage : Int) (m_isKeeping : Int) (m_cursor : Int) (m_rowMany : Int) (m_lots : Int) (m_refused : Int → Int) (m_bytes : Int → Int) (m_owner : Int → Int) (m_block : Int → Int) (m_written : Int → Int) (m_waits : Int → Int) (m_kinds : Int → Int) (m_tape : Int → Int) (m_sort : Int → Int) (m_sortAt : Int → Int) (m_told : Int → Int) (m_kept : Int → Int) (m_was : Int → Int) (m_ends : Int → Int) (m_row : Int → Int) (x1 : Int) {o : Int × Int × Int × Int × Int × (Int → Int) × (Int → Int) × (Int → Int) × (Int → Int) × (Int → Int) × (Int → Int) × (Int → Int) × (Int → Int)} (h : m_Mod_scatter x1 m_stepsMade m_stepsMost m_isKeeping m_cursor m_refused m_bytes m_owner m_block m_written m_waits m_kinds m_kept = some o) : Ct l D cI cB y_Mod_scatter b_Mod_scatter 2 (some .int) { frames := 7, cells := 0, slots := 0, locals := 164 } [.ref a0, .int (zi x1)] (w_Mod cI cB a0 a1 a2 a3 a4 a5 a6 a7 a8 a9 a10 a11 a12 a13 a14 a15 m_stepsMade m_stepsMost m_taped m_reading m_statements m_telling m_hasImage m_isKeeping m_cursor m_rowMany m_lots m_refused m_bytes m_owner m_block m_written m_waits m_kinds m_tape m_sort m_sortAt m_told m_kept m_was m_ends m_row) (w_Mod cI cB a0 a1 a2 a3 a4 a5 a6 a7 a8 a9 a10 a11 a12 a13 a14 a15 o.2.1 o.2.2.1 m_taped m_reading m_statements m_telling m_hasImage o.2.2.2.1 o.2.2.2.2.1 m_rowMany m_lots o.2.2.2.2.2.1 o.2.2.2.2.2.2.1 o.2.2.2.2.2.2.2.1 o.2.2.2.2.2.2.2.2.1 o.2.2.2.2.2.2.2.2.2.1 o.2.2.2.2.2.2.2.2.2.2.1 o.2.2.2.2.2.2.2.2.2.2.2.1 m_tape m_sort m_sortAt m_told o.2.2.2.2.2.2.2.2.2.2.2.2 m_was m_ends m_row) (some (.int (zi o.1))) := by
  refine Ct.start (by decide) (Nat.le_of_ble_eq_true rfl) (fun G X hR => ?_)
  refine x_ls (ls2 := [(0, .ref a0), (1, .int (zi x1))]) [0, 1] rfl ?_
  unfold m_Mod_scatter at h
  refine x_iload_n (pc := 0) X d_Mod_scatter_0 1 rfl rfl ?_
  obtain ⟨r1, h2, h⟩ := bnd_e h
  refine x_callS (pc := 1) (As := [.int (zi x1)]) (rest := []) (w2 := (w_Mod cI cB a0 a1 a2 a3 a4 a5 a6 a7 a8 a9 a10 a11 a12 a13 a14 a15 m_stepsMade m_stepsMost m_taped m_reading m_statements m_telling m_hasImage m_isKeeping m_cursor m_rowMany m_lots m_refused m_bytes m_owner m_block m_written m_waits m_kinds m_tape m_sort m_sortAt m_told m_kept m_was m_ends m_row)) X d_Mod_scatter_1 lk_Mod_230 mv_Mod_isFile (c_Mod_isFile l D cI cB x1 h2) ⟨(Nat.le_of_ble_eq_true rfl), (Nat.le_of_ble_eq_true rfl), (Nat.le_of_ble_eq_true rfl), (Nat.le_of_ble_eq_true rfl)⟩ [] rfl rfl rfl (Up.same rfl) rfl rfl (Nat.le_of_ble_eq_true rfl) ?_
  refine x_ifeq (pc := 4) (tgt := 15) X d_Mod_scatter_4 rfl h (fun h => ?_) (fun h => ?_)
  · skip
    refine x_aload_n (pc := 15) X d_Mod_scatter_15 0 rfl rfl ?_
    refine x_iconst (pc := 16) X d_Mod_scatter_16  ?_
    obtain ⟨r3, h4, h⟩ := bnd_e h
    refine x_callV (pc := 17) (As := [.int (zi (-1))]) (rest := []) (w2 := (w_Mod cI cB a0 a1 a2 a3 a4 a5 a6 a7 a8 a9 a10 a11 a12 a13 a14 a15 m_stepsMade m_stepsMost m_taped m_reading m_statements m_telling m_hasImage m_isKeeping m_cursor m_rowMany m_lots r3.2 m_bytes m_owner m_block m_written m_waits m_kinds m_tape m_sort m_sortAt m_told m_kept m_was m_ends m_row)) X d_Mod_scatter_17 lk_Mod_172 mv_Mod_no (c_Mod_no l D cI cB a0 a1 a2 a3 a4 a5 a6 a7 a8 a9 a10 a11 a12 a13 a14 a15 m_stepsMade m_stepsMost m_taped m_reading m_statements m_telling m_hasImage m_isKeeping m_cursor m_rowMany m_lots m_refused m_bytes m_owner m_block m_written m_waits m_kinds m_tape m_sort m_sortAt m_told m_kept m_was m_ends m_row (-1) h4) ⟨(Nat.le_of_ble_eq_true rfl), (Nat.le_of_ble_eq_true rfl), (Nat.le_of_ble_eq_true rfl), (Nat.le_of_ble_eq_true rfl)⟩ 0 rfl rfl [0, 1, 2, 3, 4, 5, 6, 7, 8, 9, 10, 11, 12, 13, 14, 15] rfl rfl rfl (Up.of [] [] rfl rfl rfl 16 rfl (by decide +kernel)) rfl rfl (Nat.le_of_ble_eq_true rfl) ?_
    cases h
    exact x_iret (pc := 20) X hR d_Mod_scatter_20
  · skip
    refine x_aload_n (pc := 7) X d_Mod_scatter_7 0 rfl rfl ?_
    refine x_iload_n (pc := 8) X d_Mod_scatter_8 1 rfl rfl ?_
    obtain ⟨r5, h6, h⟩ := bnd_e h
    refine x_callV (pc := 9) (As := [.int (zi x1)]) (rest := []) (w2 := (w_Mod cI cB a0 a1 a2 a3 a4 a5 a6 a7 a8 a9 a10 a11 a12 a13 a14 a15 r5.2.1 r5.2.2.1 m_taped m_reading m_statements m_telling m_hasImage r5.2.2.2.1 r5.2.2.2.2.1 m_rowMany m_lots m_refused r5.2.2.2.2.2.1 r5.2.2.2.2.2.2.1 r5.2.2.2.2.2.2.2.1 r5.2.2.2.2.2.2.2.2.1 r5.2.2.2.2.2.2.2.2.2.1 r5.2.2.2.2.2.2.2.2.2.2.1 m_tape m_sort m_sortAt m_told r5.2.2.2.2.2.2.2.2.2.2.2 m_was m_ends m_row)) X d_Mod_scatter_9 lk_Mod_297 mv_Mod_scatterOf (c_Mod_scatterOf l D cI cB a0 a1 a2 a3 a4 a5 a6 a7 a8 a9 a10 a11 a12 a13 a14 a15 m_stepsMade m_stepsMost m_taped m_reading m_statements m_telling m_hasImage m_isKeeping m_cursor m_rowMany m_lots m_refused m_bytes m_owner m_block m_written m_waits m_kinds m_tape m_sort m_sortAt m_told m_kept m_was m_ends m_row x1 h6) ⟨(Nat.le_of_ble_eq_true rfl), (Nat.le_of_ble_eq_true rfl), (Nat.le_of_ble_eq_true rfl), (Nat.le_of_ble_eq_true rfl)⟩ 0 rfl rfl [0, 1, 2, 3, 4, 5, 6, 7, 8, 9, 10, 11, 12, 13, 14, 15] rfl rfl rfl (Up.of [] [] rfl rfl rfl 16 rfl (by decide +kernel)) rfl rfl (Nat.le_of_ble_eq_true rfl) ?_
    refine x_goto (pc := 12) (tgt := 20) X d_Mod_scatter_12 rfl ?_
    cases h
    exact x_iret (pc := 20) X hR d_Mod_scatter_20
theorem d_Mod_kindBest_0 : decode b_Mod_kindBest 0 = .ok (.iload_n 1, 1) := by decide +kernel
theorem d_Mod_kindBest_1 : decode b_Mod_kindBest 1 = .ok (.invokestatic 230, 3) := by decide +kernel
theorem d_Mod_kindBest_4 : decode b_Mod_kindBest 4 = .ok (.ifCond .ne 7, 3) := by decide +kernel
theorem d_Mod_kindBest_7 : decode b_Mod_kindBest 7 = .ok (.iconst (-1), 1) := by decide +kernel
theorem d_Mod_kindBest_8 : decode b_Mod_kindBest 8 = .ok (.goto 18, 3) := by decide +kernel
theorem d_Mod_kindBest_11 : decode b_Mod_kindBest 11 = .ok (.iload_n 2, 1) := by decide +kernel
theorem d_Mod_kindBest_12 : decode b_Mod_kindBest 12 = .ok (.iconst 0, 1) := by decide +kernel
theorem d_Mod_kindBest_13 : decode b_Mod_kindBest 13 = .ok (.iconst 1, 1) := by decide +kernel
theorem d_Mod_kindBest_14 : decode b_Mod_kindBest 14 = .ok (.invokestatic 58, 3) := by decide +kernel
theorem d_Mod_kindBest_17 : decode b_Mod_kindBest 17 = .ok (.ifCond .ne 8, 3) := by decide +kernel
theorem d_Mod_kindBest_20 : decode b_Mod_kindBest 20 = .ok (.bipush (-2), 2) := by decide +kernel
theorem d_Mod_kindBest_22 : decode b_Mod_kindBest 22 = .ok (.goto 4, 3) := by decide +kernel
theorem d_Mod_kindBest_25 : decode b_Mod_kindBest 25 = .ok (.iconst 0, 1) := by decide +kernel
theorem d_Mod_kindBest_26 : decode b_Mod_kindBest 26 = .ok (.istore_n 3, 1) := by decide +kernel
theorem d_Mod_kindBest_27 : decode b_Mod_kindBest 27 = .ok (.iload_n 3, 1) := by decide +kernel
theorem d_Mod_kindBest_28 : decode b_Mod_kindBest 28 = .ok (.ifCond .eq 9, 3) := by decide +kernel
theorem d_Mod_kindBest_31 : decode b_Mod_kindBest 31 = .ok (.aload_n 0, 1) := by decide +kernel
theorem d_Mod_kindBest_32 : decode b_Mod_kindBest 32 = .ok (.iload_n 3, 1) := by decide +kernel
theorem d_Mod_kindBest_33 : decode b_Mod_kindBest 33 = .ok (.invokevirtual 172, 3) := by decide +kernel
theorem d_Mod_kindBest_36 : decode b_Mod_kindBest 36 = .ok (.ireturn, 1) := by decide +kernel
theorem d_Mod_kindBest_37 : decode b_Mod_kindBest 37 = .ok (.aload_n 0, 1) := by decide +kernel
theorem d_Mod_kindBest_38 : decode b_Mod_kindBest 38 = .ok (.getfield 28, 3) := by decide +kernel
theorem d_Mod_kindBest_41 : decode b_Mod_kindBest 41 = .ok (.iload_n 1, 1) := by decide +kernel
theorem d_Mod_kindBest_42 : decode b_Mod_kindBest 42 = .ok (.iaload, 1) := by decide +kernel
theorem d_Mod_kindBest_43 : decode b_Mod_kindBest 43 = .ok (.istore 4, 2) := by decide +kernel
theorem d_Mod_kindBest_45 : decode b_Mod_kindBest 45 = .ok (.bipush (-9), 2) := by decide +kernel
theorem d_Mod_kindBest_47 : decode b_Mod_kindBest 47 = .ok (.istore 5, 2) := by decide +kernel
theorem d_Mod_kindBest_49 : decode b_Mod_kindBest 49 = .ok (.iconst 0, 1) := by decide +kernel
theorem d_Mod_kindBest_50 : decode b_Mod_kindBest 50 = .ok (.istore 6, 2) := by decide +kernel
theorem d_Mod_kindBest_52 : decode b_Mod_kindBest 52 = .ok (.iconst 0, 1) := by decide +kernel
theorem d_Mod_kindBest_53 : decode b_Mod_kindBest 53 = .ok (.istore 7, 2) := by decide +kernel
theorem d_Mod_kindBest_55 : decode b_Mod_kindBest 55 = .ok (.iload 7, 2) := by decide +kernel
theorem d_Mod_kindBest_57 : decode b_Mod_kindBest 57 = .ok (.bipush 6, 2) := by decide +kernel
theorem d_Mod_kindBest_59 : decode b_Mod_kindBest 59 = .ok (.if_icmp .ge 47, 3) := by decide +kernel
theorem d_Mod_kindBest_62 : decode b_Mod_kindBest 62 = .ok (.aload_n 0, 1) := by decide +kernel
theorem d_Mod_kindBest_63 : decode b_Mod_kindBest 63 = .ok (.getfield 28, 3) := by decide +kernel
theorem d_Mod_kindBest_66 : decode b_Mod_kindBest 66 = .ok (.iload_n 1, 1) := by decide +kernel
theorem d_Mod_kindBest_67 : decode b_Mod_kindBest 67 = .ok (.iload 7, 2) := by decide +kernel
theorem d_Mod_kindBest_69 : decode b_Mod_kindBest 69 = .ok (.iastore, 1) := by decide +kernel
theorem d_Mod_kindBest_70 : decode b_Mod_kindBest 70 = .ok (.aload_n 0, 1) := by decide +kernel
theorem d_Mod_kindBest_71 : decode b_Mod_kindBest 71 = .ok (.iload_n 1, 1) := by decide +kernel
theorem d_Mod_kindBest_72 : decode b_Mod_kindBest 72 = .ok (.invokevirtual 297, 3) := by decide +kernel
theorem d_Mod_kindBest_75 : decode b_Mod_kindBest 75 = .ok (.istore 8, 2) := by decide +kernel
theorem d_Mod_kindBest_77 : decode b_Mod_kindBest 77 = .ok (.iload 5, 2) := by decide +kernel
theorem d_Mod_kindBest_79 : decode b_Mod_kindBest 79 = .ok (.ifCond .lt 13, 3) := by decide +kernel
theorem d_Mod_kindBest_82 : decode b_Mod_kindBest 82 = .ok (.iload 8, 2) := by decide +kernel
theorem d_Mod_kindBest_84 : decode b_Mod_kindBest 84 = .ok (.iload 6, 2) := by decide +kernel
theorem d_Mod_kindBest_86 : decode b_Mod_kindBest 86 = .ok (.if_icmp .lt 6, 3) := by decide +kernel
theorem d_Mod_kindBest_89 : decode b_Mod_kindBest 89 = .ok (.goto 11, 3) := by decide +kernel
theorem d_Mod_kindBest_92 : decode b_Mod_kindBest 92 = .ok (.iload 7, 2) := by decide +kernel
theorem d_Mod_kindBest_94 : decode b_Mod_kindBest 94 = .ok (.istore 5, 2) := by decide +kernel
theorem d_Mod_kindBest_96 : decode b_Mod_kindBest 96 = .ok (.iload 8, 2) := by decide +kernel
theorem d_Mod_kindBest_98 : decode b_Mod_kindBest 98 = .ok (.istore 6, 2) := by decide +kernel
theorem d_Mod_kindBest_100 : decode b_Mod_kindBest 100 = .ok (.iinc 7 1, 3) := by decide +kernel
theorem d_Mod_kindBest_103 : decode b_Mod_kindBest 103 = .ok (.goto (-48), 3) := by decide +kernel
theorem d_Mod_kindBest_106 : decode b_Mod_kindBest 106 = .ok (.aload_n 0, 1) := by decide +kernel
theorem d_Mod_kindBest_107 : decode b_Mod_kindBest 107 = .ok (.getfield 28, 3) := by decide +kernel
theorem d_Mod_kindBest_110 : decode b_Mod_kindBest 110 = .ok (.iload_n 1, 1) := by decide +kernel
theorem d_Mod_kindBest_111 : decode b_Mod_kindBest 111 = .ok (.iload 4, 2) := by decide +kernel
theorem d_Mod_kindBest_113 : decode b_Mod_kindBest 113 = .ok (.iastore, 1) := by decide +kernel
theorem d_Mod_kindBest_114 : decode b_Mod_kindBest 114 = .ok (.iload_n 2, 1) := by decide +kernel
theorem d_Mod_kindBest_115 : decode b_Mod_kindBest 115 = .ok (.ifCond .ne 8, 3) := by decide +kernel
theorem d_Mod_kindBest_118 : decode b_Mod_kindBest 118 = .ok (.iload 5, 2) := by decide +kernel
theorem d_Mod_kindBest_120 : decode b_Mod_kindBest 120 = .ok (.goto 5, 3) := by decide +kernel
theorem d_Mod_kindBest_123 : decode b_Mod_kindBest 123 = .ok (.iload 6, 2) := by decide +kernel
theorem d_Mod_kindBest_125 : decode b_Mod_kindBest 125 = .ok (.ireturn, 1) := by decide +kernel
def m_Mod_kindBest_55 : Nat → Int → Int → Int → Int → Int → Int → Int → Int → Int → Int → (Int → Int) → (Int → Int) → (Int → Int) → (Int → Int) → (Int → Int) → (Int → Int) → (Int → Int) → (Int → Int) → Option (Int × Int × Int × Int × Int × (Int → Int) × (Int → Int) × (Int → Int) × (Int → Int) × (Int → Int) × (Int → Int) × (Int → Int) × (Int → Int))
  | 0, _, _, _, _, _, _, _, _, _, _, _, _, _, _, _, _, _, _ => none
  | fuel + 1, v1, v2, v4, v5, v6, v7, m_stepsMade, m_stepsMost, m_isKeeping, m_cursor, m_refused, m_bytes, m_owner, m_block, m_written, m_waits, m_kinds, m_kept =>
  clt v7 6 (gd (zx v1 4) (bnd (m_Mod_scatterOf v1 m_stepsMade m_stepsMost m_isKeeping m_cursor m_bytes m_owner m_block m_written m_waits (uf m_kinds v1 v7) m_kept) (fun r19 => clt v5 0 (m_Mod_kindBest_55 fuel v1 v2 v4 v7 r19.1 (v7 + 1) r19.2.1 r19.2.2.1 r19.2.2.2.1 r19.2.2.2.2.1 m_refused r19.2.2.2.2.2.1 r19.2.2.2.2.2.2.1 r19.2.2.2.2.2.2.2.1 r19.2.2.2.2.2.2.2.2.1 r19.2.2.2.2.2.2.2.2.2.1 r19.2.2.2.2.2.2.2.2.2.2.1 r19.2.2.2.2.2.2.2.2.2.2.2) (clt r19.1 v6 (m_Mod_kindBest_55 fuel v1 v2 v4 v7 r19.1 (v7 + 1) r19.2.1 r19.2.2.1 r19.2.2.2.1 r19.2.2.2.2.1 m_refused r19.2.2.2.2.2.1 r19.2.2.2.2.2.2.1 r19.2.2.2.2.2.2.2.1 r19.2.2.2.2.2.2.2.2.1 r19.2.2.2.2.2.2.2.2.2.1 r19.2.2.2.2.2.2.2.2.2.2.1 r19.2.2.2.2.2.2.2.2.2.2.2) (m_Mod_kindBest_55 fuel v1 v2 v4 v5 v6 (v7 + 1) r19.2.1 r19.2.2.1 r19.2.2.2.1 r19.2.2.2.2.1 m_refused r19.2.2.2.2.2.1 r19.2.2.2.2.2.2.1 r19.2.2.2.2.2.2.2.1 r19.2.2.2.2.2.2.2.2.1 r19.2.2.2.2.2.2.2.2.2.1 r19.2.2.2.2.2.2.2.2.2.2.1 r19.2.2.2.2.2.2.2.2.2.2.2))))) (gd (zx v1 4) (ceq v2 0 (some (v5, m_stepsMade, m_stepsMost, m_isKeeping, m_cursor, m_refused, m_bytes, m_owner, m_block, m_written, m_waits, (uf m_kinds v1 v4), m_kept)) (some (v6, m_stepsMade, m_stepsMost, m_isKeeping, m_cursor, m_refused, m_bytes, m_owner, m_block, m_written, m_waits, (uf m_kinds v1 v4), m_kept))))
def m_Mod_kindBest (x1 : Int) (x2 : Int) (m_stepsMade : Int) (m_stepsMost : Int) (m_isKeeping : Int) (m_cursor : Int) (m_refused : Int → Int) (m_bytes : Int → Int) (m_owner : Int → Int) (m_block : Int → Int) (m_written : Int → Int) (m_waits : Int → Int) (m_kinds : Int → Int) (m_kept : Int → Int) : Option (Int × Int × Int × Int × Int × (Int → Int) × (Int → Int) × (Int → Int) × (Int → Int) × (Int → Int) × (Int → Int) × (Int → Int) × (Int → Int)) :=
  bnd (m_Mod_isFile x1) (fun r1 => jn (fun (z4 : Int) (z5 : Int) (z6 : Int) (c7 : Int) (c8 : Int) (c9 : Int) (c10 : Int) (c11 : Int → Int) (c12 : Int → Int) (c13 : Int → Int) (c14 : Int → Int) (c15 : Int → Int) (c16 : Int → Int) (c17 : Int → Int) (c18 : Int → Int) => ceq z6 0 (gd (zx z4 4) (m_Mod_kindBest_55 5000 z4 z5 (c17 z4) (-9) 0 0 c7 c8 c9 c10 c11 c12 c13 c14 c15 c16 c17 c18)) (bnd (m_Mod_no z6 c11) (fun r21 => some (r21.1, c7, c8, c9, c10, r21.2, c12, c13, c14, c15, c16, c17, c18)))) (fun j3 => ceq r1 0 (j3 x1 x2 (-1) m_stepsMade m_stepsMost m_isKeeping m_cursor m_refused m_bytes m_owner m_block m_written m_waits m_kinds m_kept) (bnd (m_Mod_isIn x2 0 1) (fun r25 => ceq r25 0 (j3 x1 x2 (-2) m_stepsMade m_stepsMost m_isKeeping m_cursor m_refused m_bytes m_owner m_block m_written m_waits m_kinds m_kept) (j3 x1 x2 0 m_stepsMade m_stepsMost m_isKeeping m_cursor m_refused m_bytes m_owner m_block m_written m_waits m_kinds m_kept)))))
set_option maxHeartbeats 4000000 in
set_option maxRecDepth 100000 in
theorem l_Mod_kindBest_55 {G : GT} {l : Launch} {D : va_G} {cI cB : ClassId} {a0 a1 a2 a3 a4 a5 a6 a7 a8 a9 a10 a11 a12 a13 a14 a15 : Nat} {m_taped : Int} {m_reading : Int} {m_statements : Int} {m_telling : Int} {m_hasImage : Int} {m_rowMany : Int} {m_lots : Int} {m_tape : Int → Int} {m_sort : Int → Int} {m_sortAt : Int → Int} {m_told : Int → Int} {m_was : Int → Int} {m_ends : Int → Int} {m_row : Int → Int} (X : Cx G l D cI cB b_Mod_kindBest y_Mod_kindBest.cls 9 { frames := 7, cells := 0, slots := 0, locals := 164 }) : ∀ (fuel : Nat) (v1 : Int) (v2 : Int) (v4 : Int) (v5 : Int) (v6 : Int) (v7 : Int) (m_stepsMade : Int) (m_stepsMost : Int) (m_isKeeping : Int) (m_cursor : Int) (m_refused : Int → Int) (m_bytes : Int → Int) (m_owner : Int → Int) (m_block : Int → Int) (m_written : Int → Int) (m_waits : Int → Int) (m_kinds : Int → Int) (m_kept : Int → Int) (o : Int × Int × Int × Int × Int × (Int → Int) × (Int → Int) × (Int → Int) × (Int → Int) × (Int → Int) × (Int → Int) × (Int → Int) × (Int → Int)), m_Mod_kindBest_55 fuel v1 v2 v4 v5 v6 v7 m_stepsMade m_stepsMost m_isKeeping m_cursor m_refused m_bytes m_owner m_block m_written m_waits m_kinds m_kept = some o → Rt G (some .int) (some (.int (zi o.1))) (w_Mod cI cB a0 a1 a2 a3 a4 a5 a6 a7 a8 a9 a10 a11 a12 a13 a14 a15 o.2.1 o.2.2.1 m_taped m_reading m_statements m_telling m_hasImage o.2.2.2.1 o.2.2.2.2.1 m_rowMany m_lots o.2.2.2.2.2.1 o.2.2.2.2.2.2.1 o.2.2.2.2.2.2.2.1 o.2.2.2.2.2.2.2.2.1 o.2.2.2.2.2.2.2.2.2.1 o.2.2.2.2.2.2.2.2.2.2.1 o.2.2.2.2.2.2.2.2.2.2.2.1 m_tape m_sort m_sortAt m_told o.2.2.2.2.2.2.2.2.2.2.2.2 m_was m_ends m_row) → Wx G 0 0 55 [(0, .ref a0), (1, .int (zi v1)), (2, .int (zi v2)), (4, .int (zi v4)), (5, .int (zi v5)), (6, .int (zi v6)), (7, .int (zi v7))] [] (w_Mod cI cB a0 a1 a2 a3 a4 a5 a6 a7 a8 a9 a10 a11 a12 a13 a14 a15 m_stepsMade m_stepsMost m_taped m_reading m_statements m_telling m_hasImage m_isKeeping m_cursor m_rowMany m_lots m_refused m_bytes m_owner m_block m_written m_waits m_kinds m_tape m_sort m_sortAt m_told m_kept m_was m_ends m_row) := by
  intro fuel
  induction fuel with
  | zero =>
    intro v1 v2 v4 v5 v6 v7 m_stepsMade m_stepsMost m_isKeeping m_cursor m_refused m_bytes m_owner m_block m_written m_waits m_kinds m_kept o h
    exact absurd h (by simp [m_Mod_kindBest_55])
  | succ fuel ih =>
    intro v1 v2 v4 v5 v6 v7 m_stepsMade m_stepsMost m_isKeeping m_cursor m_refused m_bytes m_owner m_block m_written m_waits m_kinds m_kept o h hR
    rw [m_Mod_kindBest_55] at h
    refine x_iload (pc := 55) X d_Mod_kindBest_55 6 rfl ?_
    refine x_bipush (pc := 57) (v := 6) X d_Mod_kindBest_57 rfl ?_
    refine x_icmpge (pc := 59) (tgt := 106) X d_Mod_kindBest_59 rfl h (fun h => ?_) (fun h => ?_)
    · skip
      refine x_aload_n (pc := 106) X d_Mod_kindBest_106 0 rfl rfl ?_
      refine x_get (pc := 107) X d_Mod_kindBest_107 0 rfl fl_Mod_28 rfl ?_
      refine x_iload_n (pc := 110) X d_Mod_kindBest_110 1 rfl rfl ?_
      refine x_iload (pc := 111) X d_Mod_kindBest_111 3 rfl ?_
      refine x_iast (pc := 113) (w2 := (w_Mod cI cB a0 a1 a2 a3 a4 a5 a6 a7 a8 a9 a10 a11 a12 a13 a14 a15 m_stepsMade m_stepsMost m_taped m_reading m_statements m_telling m_hasImage m_isKeeping m_cursor m_rowMany m_lots m_refused m_bytes m_owner m_block m_written m_waits (uf m_kinds v1 v4) m_tape m_sort m_sortAt m_told m_kept m_was m_ends m_row)) X d_Mod_kindBest_113 7 rfl (Nat.le_of_ble_eq_true rfl) rfl rfl h (fun h => ?_)
      refine x_iload_n (pc := 114) X d_Mod_kindBest_114 2 rfl rfl ?_
      refine x_ifne (pc := 115) (tgt := 123) X d_Mod_kindBest_115 rfl h (fun h => ?_) (fun h => ?_)
      · skip
        refine x_iload (pc := 123) X d_Mod_kindBest_123 5 rfl ?_
        cases h
        exact x_iret (pc := 125) X hR d_Mod_kindBest_125
      · skip
        refine x_iload (pc := 118) X d_Mod_kindBest_118 4 rfl ?_
        refine x_goto (pc := 120) (tgt := 125) X d_Mod_kindBest_120 rfl ?_
        cases h
        exact x_iret (pc := 125) X hR d_Mod_kindBest_125
    · skip
      refine x_aload_n (pc := 62) X d_Mod_kindBest_62 0 rfl rfl ?_
      refine x_get (pc := 63) X d_Mod_kindBest_63 0 rfl fl_Mod_28 rfl ?_
      refine x_iload_n (pc := 66) X d_Mod_kindBest_66 1 rfl rfl ?_
      refine x_iload (pc := 67) X d_Mod_kindBest_67 6 rfl ?_
      refine x_iast (pc := 69) (w2 := (w_Mod cI cB a0 a1 a2 a3 a4 a5 a6 a7 a8 a9 a10 a11 a12 a13 a14 a15 m_stepsMade m_stepsMost m_taped m_reading m_statements m_telling m_hasImage m_isKeeping m_cursor m_rowMany m_lots m_refused m_bytes m_owner m_block m_written m_waits (uf m_kinds v1 v7) m_tape m_sort m_sortAt m_told m_kept m_was m_ends m_row)) X d_Mod_kindBest_69 7 rfl (Nat.le_of_ble_eq_true rfl) rfl rfl h (fun h => ?_)
      refine x_aload_n (pc := 70) X d_Mod_kindBest_70 0 rfl rfl ?_
      refine x_iload_n (pc := 71) X d_Mod_kindBest_71 1 rfl rfl ?_
      obtain ⟨r19, h20, h⟩ := bnd_e h
      refine x_callV (pc := 72) (As := [.int (zi v1)]) (rest := []) (w2 := (w_Mod cI cB a0 a1 a2 a3 a4 a5 a6 a7 a8 a9 a10 a11 a12 a13 a14 a15 r19.2.1 r19.2.2.1 m_taped m_reading m_statements m_telling m_hasImage r19.2.2.2.1 r19.2.2.2.2.1 m_rowMany m_lots m_refused r19.2.2.2.2.2.1 r19.2.2.2.2.2.2.1 r19.2.2.2.2.2.2.2.1 r19.2.2.2.2.2.2.2.2.1 r19.2.2.2.2.2.2.2.2.2.1 r19.2.2.2.2.2.2.2.2.2.2.1 m_tape m_sort m_sortAt m_told r19.2.2.2.2.2.2.2.2.2.2.2 m_was m_ends m_row)) X d_Mod_kindBest_72 lk_Mod_297 mv_Mod_scatterOf (c_Mod_scatterOf l D cI cB a0 a1 a2 a3 a4 a5 a6 a7 a8 a9 a10 a11 a12 a13 a14 a15 m_stepsMade m_stepsMost m_taped m_reading m_statements m_telling m_hasImage m_isKeeping m_cursor m_rowMany m_lots m_refused m_bytes m_owner m_block m_written m_waits (uf m_kinds v1 v7) m_tape m_sort m_sortAt m_told m_kept m_was m_ends m_row v1 h20) ⟨(Nat.le_of_ble_eq_true rfl), (Nat.le_of_ble_eq_true rfl), (Nat.le_of_ble_eq_true rfl), (Nat.le_of_ble_eq_true rfl)⟩ 0 rfl rfl [0, 1, 2, 3, 4, 5, 6, 7, 8, 9, 10, 11, 12, 13, 14, 15] rfl rfl rfl (Up.of [] [] rfl rfl rfl 16 rfl (by decide +kernel)) rfl rfl (Nat.le_of_ble_eq_true rfl) ?_
      refine x_istore (pc := 75) (ls2 := [(8, .int (zi r19.1)), (0, .ref a0), (1, .int (zi v1)), (2, .int (zi v2)), (4, .int (zi v4)), (5, .int (zi v5)), (6, .int (zi v6)), (7, .int (zi v7))]) X d_Mod_kindBest_75 (Nat.le_of_ble_eq_true rfl) rfl ?_
      refine x_iload (pc := 77) X d_Mod_kindBest_77 5 rfl ?_
      refine x_iflt (pc := 79) (tgt := 92) X d_Mod_kindBest_79 rfl h (fun h => ?_) (fun h => ?_)
      · skip
        refine x_iload (pc := 92) X d_Mod_kindBest_92 7 rfl ?_
        refine x_istore (pc := 94) (ls2 := [(5, .int (zi v7)), (8, .int (zi r19.1)), (0, .ref a0), (1, .int (zi v1)), (2, .int (zi v2)), (4, .int (zi v4)), (6, .int (zi v6)), (7, .int (zi v7))]) X d_Mod_kindBest_94 (Nat.le_of_ble_eq_true rfl) rfl ?_
        refine x_iload (pc := 96) X d_Mod_kindBest_96 1 rfl ?_
        refine x_istore (pc := 98) (ls2 := [(6, .int (zi r19.1)), (5, .int (zi v7)), (8, .int (zi r19.1)), (0, .ref a0), (1, .int (zi v1)), (2, .int (zi v2)), (4, .int (zi v4)), (7, .int (zi v7))]) X d_Mod_kindBest_98 (Nat.le_of_ble_eq_true rfl) rfl ?_
        refine x_iinc (pc := 100) (ls2 := [(7, .int (zi (v7 + 1))), (6, .int (zi r19.1)), (5, .int (zi v7)), (8, .int (zi r19.1)), (0, .ref a0), (1, .int (zi v1)), (2, .int (zi v2)), (4, .int (zi v4))]) X d_Mod_kindBest_100 7 (Nat.le_of_ble_eq_true rfl) rfl rfl ?_
        refine x_goto (pc := 103) (tgt := 55) X d_Mod_kindBest_103 rfl ?_
        refine x_ls (ls2 := [(0, .ref a0), (1, .int (zi v1)), (2, .int (zi v2)), (4, .int (zi v4)), (5, .int (zi v7)), (6, .int (zi r19.1)), (7, .int (zi (v7 + 1)))]) [4, 5, 6, 7, 2, 1, 0] rfl ?_
        exact ih v1 v2 v4 v7 r19.1 (v7 + 1) r19.2.1 r19.2.2.1 r19.2.2.2.1 r19.2.2.2.2.1 m_refused r19.2.2.2.2.2.1 r19.2.2.2.2.2.2.1 r19.2.2.2.2.2.2.2.1 r19.2.2.2.2.2.2.2.2.1 r19.2.2.2.2.2.2.2.2.2.1 r19.2.2.2.2.2.2.2.2.2.2.1 r19.2.2.2.2.2.2.2.2.2.2.2 o h hR
      · skip
        refine x_iload (pc := 82) X d_Mod_kindBest_82 0 rfl ?_
        refine x_iload (pc := 84) X d_Mod_kindBest_84 6 rfl ?_
        refine x_icmplt (pc := 86) (tgt := 92) X d_Mod_kindBest_86 rfl h (fun h => ?_) (fun h => ?_)
        · skip
          refine x_iload (pc := 92) X d_Mod_kindBest_92 7 rfl ?_
          refine x_istore (pc := 94) (ls2 := [(5, .int (zi v7)), (8, .int (zi r19.1)), (0, .ref a0), (1, .int (zi v1)), (2, .int (zi v2)), (4, .int (zi v4)), (6, .int (zi v6)), (7, .int (zi v7))]) X d_Mod_kindBest_94 (Nat.le_of_ble_eq_true rfl) rfl ?_
          refine x_iload (pc := 96) X d_Mod_kindBest_96 1 rfl ?_
          refine x_istore (pc := 98) (ls2 := [(6, .int (zi r19.1)), (5, .int (zi v7)), (8, .int (zi r19.1)), (0, .ref a0), (1, .int (zi v1)), (2, .int (zi v2)), (4, .int (zi v4)), (7, .int (zi v7))]) X d_Mod_kindBest_98 (Nat.le_of_ble_eq_true rfl) rfl ?_
          refine x_iinc (pc := 100) (ls2 := [(7, .int (zi (v7 + 1))), (6, .int (zi r19.1)), (5, .int (zi v7)), (8, .int (zi r19.1)), (0, .ref a0), (1, .int (zi v1)), (2, .int (zi v2)), (4, .int (zi v4))]) X d_Mod_kindBest_100 7 (Nat.le_of_ble_eq_true rfl) rfl rfl ?_
          refine x_goto (pc := 103) (tgt := 55) X d_Mod_kindBest_103 rfl ?_
          refine x_ls (ls2 := [(0, .ref a0), (1, .int (zi v1)), (2, .int (zi v2)), (4, .int (zi v4)), (5, .int (zi v7)), (6, .int (zi r19.1)), (7, .int (zi (v7 + 1)))]) [4, 5, 6, 7, 2, 1, 0] rfl ?_
          exact ih v1 v2 v4 v7 r19.1 (v7 + 1) r19.2.1 r19.2.2.1 r19.2.2.2.1 r19.2.2.2.2.1 m_refused r19.2.2.2.2.2.1 r19.2.2.2.2.2.2.1 r19.2.2.2.2.2.2.2.1 r19.2.2.2.2.2.2.2.2.1 r19.2.2.2.2.2.2.2.2.2.1 r19.2.2.2.2.2.2.2.2.2.2.1 r19.2.2.2.2.2.2.2.2.2.2.2 o h hR
        · skip
          refine x_goto (pc := 89) (tgt := 100) X d_Mod_kindBest_89 rfl ?_
          refine x_iinc (pc := 100) (ls2 := [(7, .int (zi (v7 + 1))), (8, .int (zi r19.1)), (0, .ref a0), (1, .int (zi v1)), (2, .int (zi v2)), (4, .int (zi v4)), (5, .int (zi v5)), (6, .int (zi v6))]) X d_Mod_kindBest_100 7 (Nat.le_of_ble_eq_true rfl) rfl rfl ?_
          refine x_goto (pc := 103) (tgt := 55) X d_Mod_kindBest_103 rfl ?_
          refine x_ls (ls2 := [(0, .ref a0), (1, .int (zi v1)), (2, .int (zi v2)), (4, .int (zi v4)), (5, .int (zi v5)), (6, .int (zi v6)), (7, .int (zi (v7 + 1)))]) [2, 3, 4, 5, 6, 7, 0] rfl ?_
          exact ih v1 v2 v4 v5 v6 (v7 + 1) r19.2.1 r19.2.2.1 r19.2.2.2.1 r19.2.2.2.2.1 m_refused r19.2.2.2.2.2.1 r19.2.2.2.2.2.2.1 r19.2.2.2.2.2.2.2.1 r19.2.2.2.2.2.2.2.2.1 r19.2.2.2.2.2.2.2.2.2.1 r19.2.2.2.2.2.2.2.2.2.2.1 r19.2.2.2.2.2.2.2.2.2.2.2 o h hR
set_option maxHeartbeats 4000000 in
set_option maxRecDepth 100000 in
theorem c_Mod_kindBest (l : Launch) (D : va_G) (cI cB : ClassId) (a0 a1 a2 a3 a4 a5 a6 a7 a8 a9 a10 a11 a12 a13 a14 a15 : Nat) (m_stepsMade : Int) (m_stepsMost : Int) (m_taped : Int) (m_reading : Int) (m_statements : Int) (m_telling : Int) (m_hasImage : Int) (m_isKeeping : Int) (m_cursor : Int) (m_rowMany : Int) (m_lots : Int) (m_refused : Int → Int) (m_bytes : Int → Int) (m_owner : Int → Int) (m_block : Int → Int) (m_written : Int → Int) (m_waits : Int → Int) (m_kinds : Int → Int) (m_tape : Int → Int) (m_sort : Int → Int) (m_sortAt : Int → Int) (m_told : Int → Int) (m_kept : Int → Int) (m_was : Int → Int) (m_ends : Int → Int) (m_row : Int → Int) (x1 : Int) (x2 : Int) {o : Int × Int × Int × Int × Int × (Int → Int) × (Int → Int) × (Int → Int) × (Int → Int) × (Int → Int) × (Int → Int) × (Int → Int) × (Int → Int)} (h : m_Mod_kindBest x1 x2 m_stepsMade m_stepsMost m_isKeeping m_cursor m_refused m_bytes m_owner m_block m_written m_waits m_kinds m_kept = some o) : Ct l D cI cB y_Mod_kindBest b_Mod_kindBest 9 (some .int) { frames := 7, cells := 0, slots := 0, locals := 164 } [.ref a0, .int (zi x1), .int (zi x2)] (w_Mod cI cB a0 a1 a2 a3 a4 a5 a6 a7 a8 a9 a10 a11 a12 a13 a14 a15 m_stepsMade m_stepsMost m_taped m_reading m_statements m_telling m_hasImage m_isKeeping m_cursor m_rowMany m_lots m_refused m_bytes m_owner m_block m_written m_waits m_kinds m_tape m_sort m_sortAt m_told m_kept m_was m_ends m_row) (w_Mod cI cB a0 a1 a2 a3 a4 a5 a6 a7 a8 a9 a10 a11 a12 a13 a14 a15 o.2.1 o.2.2.1 m_taped m_reading m_statements m_telling m_hasImage o.2.2.2.1 o.2.2.2.2.1 m_rowMany m_lots o.2.2.2.2.2.1 o.2.2.2.2.2.2.1 o.2.2.2.2.2.2.2.1 o.2.2.2.2.2.2.2.2.1 o.2.2.2.2.2.2.2.2.2.1 o.2.2.2.2.2.2.2.2.2.2.1 o.2.2.2.2.2.2.2.2.2.2.2.1 m_tape m_sort m_sortAt m_told o.2.2.2.2.2.2.2.2.2.2.2.2 m_was m_ends m_row) (some (.int (zi o.1))) := by
  refine Ct.start (by decide) (Nat.le_of_ble_eq_true rfl) (fun G X hR => ?_)
  refine x_ls (ls2 := [(0, .ref a0), (1, .int (zi x1)), (2, .int (zi x2))]) [0, 1, 2] rfl ?_
  unfold m_Mod_kindBest at h
  refine x_iload_n (pc := 0) X d_Mod_kindBest_0 1 rfl rfl ?_
  obtain ⟨r1, h2, h⟩ := bnd_e h
  refine x_callS (pc := 1) (As := [.int (zi x1)]) (rest := []) (w2 := (w_Mod cI cB a0 a1 a2 a3 a4 a5 a6 a7 a8 a9 a10 a11 a12 a13 a14 a15 m_stepsMade m_stepsMost m_taped m_reading m_statements m_telling m_hasImage m_isKeeping m_cursor m_rowMany m_lots m_refused m_bytes m_owner m_block m_written m_waits m_kinds m_tape m_sort m_sortAt m_told m_kept m_was m_ends m_row)) X d_Mod_kindBest_1 lk_Mod_230 mv_Mod_isFile (c_Mod_isFile l D cI cB x1 h2) ⟨(Nat.le_of_ble_eq_true rfl), (Nat.le_of_ble_eq_true rfl), (Nat.le_of_ble_eq_true rfl), (Nat.le_of_ble_eq_true rfl)⟩ [] rfl rfl rfl (Up.same rfl) rfl rfl (Nat.le_of_ble_eq_true rfl) ?_
  obtain ⟨j3, hj23, h⟩ := jn_e h
  have J24 : ∀ (z4 : Int) (z5 : Int) (z6 : Int) (c7 : Int) (c8 : Int) (c9 : Int) (c10 : Int) (c11 : Int → Int) (c12 : Int → Int) (c13 : Int → Int) (c14 : Int → Int) (c15 : Int → Int) (c16 : Int → Int) (c17 : Int → Int) (c18 : Int → Int), j3 z4 z5 z6 c7 c8 c9 c10 c11 c12 c13 c14 c15 c16 c17 c18 = some o → Wx G 0 0 26 [(0, .ref a0), (1, .int (zi z4)), (2, .int (zi z5))] [.int (zi z6)] (w_Mod cI cB a0 a1 a2 a3 a4 a5 a6 a7 a8 a9 a10 a11 a12 a13 a14 a15 c7 c8 m_taped m_reading m_statements m_telling m_hasImage c9 c10 m_rowMany m_lots c11 c12 c13 c14 c15 c16 c17 m_tape m_sort m_sortAt m_told c18 m_was m_ends m_row) := by
    intro z4 z5 z6 c7 c8 c9 c10 c11 c12 c13 c14 c15 c16 c17 c18 h
    rw [hj23] at h
    (try dsimp only at h)
    refine x_istore_n (pc := 26) (ls2 := [(3, .int (zi z6)), (0, .ref a0), (1, .int (zi z4)), (2, .int (zi z5))]) X d_Mod_kindBest_26 rfl (Nat.le_of_ble_eq_true rfl) rfl ?_
    refine x_iload_n (pc := 27) X d_Mod_kindBest_27 0 rfl rfl ?_
    refine x_ifeq (pc := 28) (tgt := 37) X d_Mod_kindBest_28 rfl h (fun h => ?_) (fun h => ?_)
    · skip
      refine x_aload_n (pc := 37) X d_Mod_kindBest_37 1 rfl rfl ?_
      refine x_get (pc := 38) X d_Mod_kindBest_38 0 rfl fl_Mod_28 rfl ?_
      refine x_iload_n (pc := 41) X d_Mod_kindBest_41 2 rfl rfl ?_
      refine x_iald (pc := 42) X d_Mod_kindBest_42 7 rfl (Nat.le_of_ble_eq_true rfl) rfl h (fun h => ?_)
      refine x_istore (pc := 43) (ls2 := [(4, .int (zi (c17 z4))), (3, .int (zi z6)), (0, .ref a0), (1, .int (zi z4)), (2, .int (zi z5))]) X d_Mod_kindBest_43 (Nat.le_of_ble_eq_true rfl) rfl ?_
      refine x_bipush (pc := 45) (v := -9) X d_Mod_kindBest_45 rfl ?_
      refine x_istore (pc := 47) (ls2 := [(5, .int (zi (-9))), (4, .int (zi (c17 z4))), (3, .int (zi z6)), (0, .ref a0), (1, .int (zi z4)), (2, .int (zi z5))]) X d_Mod_kindBest_47 (Nat.le_of_ble_eq_true rfl) rfl ?_
      refine x_iconst (pc := 49) X d_Mod_kindBest_49  ?_
      refine x_istore (pc := 50) (ls2 := [(6, .int (zi 0)), (5, .int (zi (-9))), (4, .int (zi (c17 z4))), (3, .int (zi z6)), (0, .ref a0), (1, .int (zi z4)), (2, .int (zi z5))]) X d_Mod_kindBest_50 (Nat.le_of_ble_eq_true rfl) rfl ?_
      refine x_iconst (pc := 52) X d_Mod_kindBest_52  ?_
      refine x_istore (pc := 53) (ls2 := [(7, .int (zi 0)), (6, .int (zi 0)), (5, .int (zi (-9))), (4, .int (zi (c17 z4))), (3, .int (zi z6)), (0, .ref a0), (1, .int (zi z4)), (2, .int (zi z5))]) X d_Mod_kindBest_53 (Nat.le_of_ble_eq_true rfl) rfl ?_
      refine x_ls (ls2 := [(0, .ref a0), (1, .int (zi z4)), (2, .int (zi z5)), (4, .int (zi (c17 z4))), (5, .int (zi (-9))), (6, .int (zi 0)), (7, .int (zi 0))]) [5, 6, 7, 3, 2, 1, 0] rfl ?_
      exact l_Mod_kindBest_55 X 5000 z4 z5 (c17 z4) (-9) 0 0 c7 c8 c9 c10 c11 c12 c13 c14 c15 c16 c17 c18 o h hR
    · skip
      refine x_aload_n (pc := 31) X d_Mod_kindBest_31 1 rfl rfl ?_
      refine x_iload_n (pc := 32) X d_Mod_kindBest_32 0 rfl rfl ?_
      obtain ⟨r21, h22, h⟩ := bnd_e h
      refine x_callV (pc := 33) (As := [.int (zi z6)]) (rest := []) (w2 := (w_Mod cI cB a0 a1 a2 a3 a4 a5 a6 a7 a8 a9 a10 a11 a12 a13 a14 a15 c7 c8 m_taped m_reading m_statements m_telling m_hasImage c9 c10 m_rowMany m_lots r21.2 c12 c13 c14 c15 c16 c17 m_tape m_sort m_sortAt m_told c18 m_was m_ends m_row)) X d_Mod_kindBest_33 lk_Mod_172 mv_Mod_no (c_Mod_no l D cI cB a0 a1 a2 a3 a4 a5 a6 a7 a8 a9 a10 a11 a12 a13 a14 a15 c7 c8 m_taped m_reading m_statements m_telling m_hasImage c9 c10 m_rowMany m_lots c11 c12 c13 c14 c15 c16 c17 m_tape m_sort m_sortAt m_told c18 m_was m_ends m_row z6 h22) ⟨(Nat.le_of_ble_eq_true rfl), (Nat.le_of_ble_eq_true rfl), (Nat.le_of_ble_eq_true rfl), (Nat.le_of_ble_eq_true rfl)⟩ 0 rfl rfl [0, 1, 2, 3, 4, 5, 6, 7, 8, 9, 10, 11, 12, 13, 14, 15] rfl rfl rfl (Up.of [] [] rfl rfl rfl 16 rfl (by decide +kernel)) rfl rfl (Nat.le_of_ble_eq_true rfl) ?_
      cases h
      exact x_iret (pc := 36) X hR d_Mod_kindBest_36
  clear hj23
  refine x_ifne (pc := 4) (tgt := 11) X d_Mod_kindBest_4 rfl h (fun h => ?_) (fun h => ?_)
  · skip
    refine x_iload_n (pc := 11) X d_Mod_kindBest_11 2 rfl rfl ?_
    refine x_iconst (pc := 12) X d_Mod_kindBest_12  ?_
    refine x_iconst (pc := 13) X d_Mod_kindBest_13  ?_
    obtain ⟨r25, h26, h⟩ := bnd_e h
    refine x_callS (pc := 14) (As := [.int (zi x2), .int (zi 0), .int (zi 1)]) (rest := []) (w2 := (w_Mod cI cB a0 a1 a2 a3 a4 a5 a6 a7 a8 a9 a10 a11 a12 a13 a14 a15 m_stepsMade m_stepsMost m_taped m_reading m_statements m_telling m_hasImage m_isKeeping m_cursor m_rowMany m_lots m_refused m_bytes m_owner m_block m_written m_waits m_kinds m_tape m_sort m_sortAt m_told m_kept m_was m_ends m_row)) X d_Mod_kindBest_14 lk_Mod_58 mv_Mod_isIn (c_Mod_isIn l D cI cB x2 0 1 h26) ⟨(Nat.le_of_ble_eq_true rfl), (Nat.le_of_ble_eq_true rfl), (Nat.le_of_ble_eq_true rfl), (Nat.le_of_ble_eq_true rfl)⟩ [] rfl rfl rfl (Up.same rfl) rfl rfl (Nat.le_of_ble_eq_true rfl) ?_
    refine x_ifne (pc := 17) (tgt := 25) X d_Mod_kindBest_17 rfl h (fun h => ?_) (fun h => ?_)
    · skip
      refine x_iconst (pc := 25) X d_Mod_kindBest_25  ?_
      exact J24 x1 x2 0 m_stepsMade m_stepsMost m_isKeeping m_cursor m_refused m_bytes m_owner m_block m_written m_waits m_kinds m_kept h
    · skip
      refine x_bipush (pc := 20) (v := -2) X d_Mod_kindBest_20 rfl ?_
      refine x_goto (pc := 22) (tgt := 26) X d_Mod_kindBest_22 rfl ?_
      exact J24 x1 x2 (-2) m_stepsMade m_stepsMost m_isKeeping m_cursor m_refused m_bytes m_owner m_block m_written m_waits m_kinds m_kept h
  · skip
    refine x_iconst (pc := 7) X d_Mod_kindBest_7  ?_
    refine x_goto (pc := 8) (tgt := 26) X d_Mod_kindBest_8 rfl ?_
    exact J24 x1 x2 (-1) m_stepsMade m_stepsMost m_isKeeping m_cursor m_refused m_bytes m_owner m_block m_written m_waits m_kinds m_kept h
theorem d_Mod_allExtents_0 : decode b_Mod_allExtents 0 = .ok (.iconst 0, 1) := by decide +kernel
theorem d_Mod_allExtents_1 : decode b_Mod_allExtents 1 = .ok (.istore_n 1, 1) := by decide +kernel
theorem d_Mod_allExtents_2 : decode b_Mod_allExtents 2 = .ok (.iconst 0, 1) := by decide +kernel
theorem d_Mod_allExtents_3 : decode b_Mod_allExtents 3 = .ok (.istore_n 2, 1) := by decide +kernel
theorem d_Mod_allExtents_4 : decode b_Mod_allExtents 4 = .ok (.iload_n 2, 1) := by decide +kernel
theorem d_Mod_allExtents_5 : decode b_Mod_allExtents 5 = .ok (.iconst 4, 1) := by decide +kernel
theorem d_Mod_allExtents_6 : decode b_Mod_allExtents 6 = .ok (.if_icmp .ge 17, 3) := by decide +kernel
theorem d_Mod_allExtents_9 : decode b_Mod_allExtents 9 = .ok (.iload_n 1, 1) := by decide +kernel
theorem d_Mod_allExtents_10 : decode b_Mod_allExtents 10 = .ok (.aload_n 0, 1) := by decide +kernel
theorem d_Mod_allExtents_11 : decode b_Mod_allExtents 11 = .ok (.iload_n 2, 1) := by decide +kernel
theorem d_Mod_allExtents_12 : decode b_Mod_allExtents 12 = .ok (.invokevirtual 82, 3) := by decide +kernel
theorem d_Mod_allExtents_15 : decode b_Mod_allExtents 15 = .ok (.iadd, 1) := by decide +kernel
theorem d_Mod_allExtents_16 : decode b_Mod_allExtents 16 = .ok (.istore_n 1, 1) := by decide +kernel
theorem d_Mod_allExtents_17 : decode b_Mod_allExtents 17 = .ok (.iinc 2 1, 3) := by decide +kernel
theorem d_Mod_allExtents_20 : decode b_Mod_allExtents 20 = .ok (.goto (-16), 3) := by decide +kernel
theorem d_Mod_allExtents_23 : decode b_Mod_allExtents 23 = .ok (.iload_n 1, 1) := by decide +kernel
theorem d_Mod_allExtents_24 : decode b_Mod_allExtents 24 = .ok (.ireturn, 1) := by decide +kernel
def m_Mod_allExtents_4 : Nat → Int → Int → (Int → Int) → (Int → Int) → Option (Int)
  | 0, _, _, _, _ => none
  | fuel + 1, v1, v2, m_block, m_written =>
  clt v2 4 (bnd (m_Mod_extents v2 m_block m_written) (fun r1 => m_Mod_allExtents_4 fuel (v1 + r1) (v2 + 1) m_block m_written)) (some (v1))
def m_Mod_allExtents  (m_block : Int → Int) (m_written : Int → Int) : Option (Int) :=
  m_Mod_allExtents_4 5000 0 0 m_block m_written
set_option maxHeartbeats 4000000 in
set_option maxRecDepth 100000 in
theorem l_Mod_allExtents_4 {G : GT} {l : Launch} {D : va_G} {cI cB : ClassId} {a0 a1 a2 a3 a4 a5 a6 a7 a8 a9 a10 a11 a12 a13 a14 a15 : Nat} {m_stepsMade : Int} {m_stepsMost : Int} {m_taped : Int} {m_reading : Int} {m_statements : Int} {m_telling : Int} {m_hasImage : Int} {m_isKeeping : Int} {m_cursor : Int} {m_rowMany : Int} {m_lots : Int} {m_refused : Int → Int} {m_bytes : Int → Int} {m_owner : Int → Int} {m_waits : Int → Int} {m_kinds : Int → Int} {m_tape : Int → Int} {m_sort : Int → Int} {m_sortAt : Int → Int} {m_told : Int → Int} {m_kept : Int → Int} {m_was : Int → Int} {m_ends : Int → Int} {m_row : Int → Int} (X : Cx G l D cI cB b_Mod_allExtents y_Mod_allExtents.cls 3 { frames := 3, cells := 0, slots := 0, locals := 65 }) : ∀ (fuel : Nat) (v1 : Int) (v2 : Int) (m_block : Int → Int) (m_written : Int → Int) (o : Int), m_Mod_allExtents_4 fuel v1 v2 m_block m_written = some o → Rt G (some .int) (some (.int (zi o))) (w_Mod cI cB a0 a1 a2 a3 a4 a5 a6 a7 a8 a9 a10 a11 a12 a13 a14 a15 m_stepsMade m_stepsMost m_taped m_reading m_statements m_telling m_hasImage m_isKeeping m_cursor m_rowMany m_lots m_refused m_bytes m_owner m_block m_written m_waits m_kinds m_tape m_sort m_sortAt m_told m_kept m_was m_ends m_row) → Wx G 0 0 4 [(0, .ref a0), (1, .int (zi v1)), (2, .int (zi v2))] [] (w_Mod cI cB a0 a1 a2 a3 a4 a5 a6 a7 a8 a9 a10 a11 a12 a13 a14 a15 m_stepsMade m_stepsMost m_taped m_reading m_statements m_telling m_hasImage m_isKeeping m_cursor m_rowMany m_lots m_refused m_bytes m_owner m_block m_written m_waits m_kinds m_tape m_sort m_sortAt m_told m_kept m_was m_ends m_row) := by
  intro fuel
  induction fuel with
  | zero =>
    intro v1 v2 m_block m_written o h
    exact absurd h (by simp [m_Mod_allExtents_4])
  | succ fuel ih =>
    intro v1 v2 m_block m_written o h hR
    rw [m_Mod_allExtents_4] at h
    refine x_iload_n (pc := 4) X d_Mod_allExtents_4 2 rfl rfl ?_
    refine x_iconst (pc := 5) X d_Mod_allExtents_5  ?_
    refine x_icmpge (pc := 6) (tgt := 23) X d_Mod_allExtents_6 rfl h (fun h => ?_) (fun h => ?_)
    · skip
      refine x_iload_n (pc := 23) X d_Mod_allExtents_23 1 rfl rfl ?_
      cases h
      exact x_iret (pc := 24) X hR d_Mod_allExtents_24
    · skip
      refine x_iload_n (pc := 9) X d_Mod_allExtents_9 1 rfl rfl ?_
      refine x_aload_n (pc := 10) X d_Mod_allExtents_10 0 rfl rfl ?_
      refine x_iload_n (pc := 11) X d_Mod_allExtents_11 2 rfl rfl ?_
      obtain ⟨r1, h2, h⟩ := bnd_e h
      refine x_callV (pc := 12) (As := [.int (zi v2)]) (rest := [.int (zi v1)]) (w2 := (w_Mod cI cB a0 a1 a2 a3 a4 a5 a6 a7 a8 a9 a10 a11 a12 a13 a14 a15 m_stepsMade m_stepsMost m_taped m_reading m_statements m_telling m_hasImage m_isKeeping m_cursor m_rowMany m_lots m_refused m_bytes m_owner m_block m_written m_waits m_kinds m_tape m_sort m_sortAt m_told m_kept m_was m_ends m_row)) X d_Mod_allExtents_12 lk_Mod_82 mv_Mod_extents (c_Mod_extents l D cI cB a0 a1 a2 a3 a4 a5 a6 a7 a8 a9 a10 a11 a12 a13 a14 a15 m_stepsMade m_stepsMost m_taped m_reading m_statements m_telling m_hasImage m_isKeeping m_cursor m_rowMany m_lots m_refused m_bytes m_owner m_block m_written m_waits m_kinds m_tape m_sort m_sortAt m_told m_kept m_was m_ends m_row v2 h2) ⟨(Nat.le_of_ble_eq_true rfl), (Nat.le_of_ble_eq_true rfl), (Nat.le_of_ble_eq_true rfl), (Nat.le_of_ble_eq_true rfl)⟩ 0 rfl rfl [0, 1, 2, 3, 4, 5, 6, 7, 8, 9, 10, 11, 12, 13, 14, 15] rfl rfl rfl (Up.same rfl) rfl rfl (Nat.le_of_ble_eq_true rfl) ?_
      refine x_iadd (pc := 15) X d_Mod_allExtents_15  ?_
      refine x_istore_n (pc := 16) (ls2 := [(1, .int (zi (v1 + r1))), (0, .ref a0), (2, .int (zi v2))]) X d_Mod_allExtents_16 rfl (Nat.le_of_ble_eq_true rfl) rfl ?_
      refine x_iinc (pc := 17) (ls2 := [(2, .int (zi (v2 + 1))), (1, .int (zi (v1 + r1))), (0, .ref a0)]) X d_Mod_allExtents_17 2 (Nat.le_of_ble_eq_true rfl) rfl rfl ?_
      refine x_goto (pc := 20) (tgt := 4) X d_Mod_allExtents_20 rfl ?_
      refine x_ls (ls2 := [(0, .ref a0), (1, .int (zi (v1 + r1))), (2, .int (zi (v2 + 1)))]) [2, 1, 0] rfl ?_
      exact ih (v1 + r1) (v2 + 1) m_block m_written o h hR
set_option maxHeartbeats 4000000 in
set_option maxRecDepth 100000 in
theorem c_Mod_allExtents (l : Launch) (D : va_G) (cI cB : ClassId) (a0 a1 a2 a3 a4 a5 a6 a7 a8 a9 a10 a11 a12 a13 a14 a15 : Nat) (m_stepsMade : Int) (m_stepsMost : Int) (m_taped : Int) (m_reading : Int) (m_statements : Int) (m_telling : Int) (m_hasImage : Int) (m_isKeeping : Int) (m_cursor : Int) (m_rowMany : Int) (m_lots : Int) (m_refused : Int → Int) (m_bytes : Int → Int) (m_owner : Int → Int) (m_block : Int → Int) (m_written : Int → Int) (m_waits : Int → Int) (m_kinds : Int → Int) (m_tape : Int → Int) (m_sort : Int → Int) (m_sortAt : Int → Int) (m_told : Int → Int) (m_kept : Int → Int) (m_was : Int → Int) (m_ends : Int → Int) (m_row : Int → Int)  {o : Int} (h : m_Mod_allExtents m_block m_written = some o) : Ct l D cI cB y_Mod_allExtents b_Mod_allExtents 3 (some .int) { frames := 3, cells := 0, slots := 0, locals := 65 } [.ref a0] (w_Mod cI cB a0 a1 a2 a3 a4 a5 a6 a7 a8 a9 a10 a11 a12 a13 a14 a15 m_stepsMade m_stepsMost m_taped m_reading m_statements m_telling m_hasImage m_isKeeping m_cursor m_rowMany m_lots m_refused m_bytes m_owner m_block m_written m_waits m_kinds m_tape m_sort m_sortAt m_told m_kept m_was m_ends m_row) (w_Mod cI cB a0 a1 a2 a3 a4 a5 a6 a7 a8 a9 a10 a11 a12 a13 a14 a15 m_stepsMade m_stepsMost m_taped m_reading m_statements m_telling m_hasImage m_isKeeping m_cursor m_rowMany m_lots m_refused m_bytes m_owner m_block m_written m_waits m_kinds m_tape m_sort m_sortAt m_told m_kept m_was m_ends m_row) (some (.int (zi o))) := by
  refine Ct.start (by decide) (Nat.le_of_ble_eq_true rfl) (fun G X hR => ?_)
  refine x_ls (ls2 := [(0, .ref a0)]) [0] rfl ?_
  unfold m_Mod_allExtents at h
  refine x_iconst (pc := 0) X d_Mod_allExtents_0  ?_
  refine x_istore_n (pc := 1) (ls2 := [(1, .int (zi 0)), (0, .ref a0)]) X d_Mod_allExtents_1 rfl (Nat.le_of_ble_eq_true rfl) rfl ?_
  refine x_iconst (pc := 2) X d_Mod_allExtents_2  ?_
  refine x_istore_n (pc := 3) (ls2 := [(2, .int (zi 0)), (1, .int (zi 0)), (0, .ref a0)]) X d_Mod_allExtents_3 rfl (Nat.le_of_ble_eq_true rfl) rfl ?_
  refine x_ls (ls2 := [(0, .ref a0), (1, .int (zi 0)), (2, .int (zi 0))]) [2, 1, 0] rfl ?_
  exact l_Mod_allExtents_4 X 5000 0 0 m_block m_written o h hR
theorem d_Mod_extentsIn_0 : decode b_Mod_extentsIn 0 = .ok (.aload_n 0, 1) := by decide +kernel
theorem d_Mod_extentsIn_1 : decode b_Mod_extentsIn 1 = .ok (.invokevirtual 291, 3) := by decide +kernel
theorem d_Mod_extentsIn_4 : decode b_Mod_extentsIn 4 = .ok (.sipush 1000, 3) := by decide +kernel
theorem d_Mod_extentsIn_7 : decode b_Mod_extentsIn 7 = .ok (.istore_n 2, 1) := by decide +kernel
theorem d_Mod_extentsIn_8 : decode b_Mod_extentsIn 8 = .ok (.iload_n 2, 1) := by decide +kernel
theorem d_Mod_extentsIn_9 : decode b_Mod_extentsIn 9 = .ok (.ifCond .le 26, 3) := by decide +kernel
theorem d_Mod_extentsIn_12 : decode b_Mod_extentsIn 12 = .ok (.aload_n 0, 1) := by decide +kernel
theorem d_Mod_extentsIn_13 : decode b_Mod_extentsIn 13 = .ok (.iload_n 1, 1) := by decide +kernel
theorem d_Mod_extentsIn_14 : decode b_Mod_extentsIn 14 = .ok (.iload_n 2, 1) := by decide +kernel
theorem d_Mod_extentsIn_15 : decode b_Mod_extentsIn 15 = .ok (.idiv, 1) := by decide +kernel
theorem d_Mod_extentsIn_16 : decode b_Mod_extentsIn 16 = .ok (.bipush 10, 2) := by decide +kernel
theorem d_Mod_extentsIn_18 : decode b_Mod_extentsIn 18 = .ok (.irem, 1) := by decide +kernel
theorem d_Mod_extentsIn_19 : decode b_Mod_extentsIn 19 = .ok (.iconst 1, 1) := by decide +kernel
theorem d_Mod_extentsIn_20 : decode b_Mod_extentsIn 20 = .ok (.isub, 1) := by decide +kernel
theorem d_Mod_extentsIn_21 : decode b_Mod_extentsIn 21 = .ok (.ldc 165, 2) := by decide +kernel
theorem d_Mod_extentsIn_23 : decode b_Mod_extentsIn 23 = .ok (.invokevirtual 150, 3) := by decide +kernel
theorem d_Mod_extentsIn_26 : decode b_Mod_extentsIn 26 = .ok (.pop, 1) := by decide +kernel
theorem d_Mod_extentsIn_27 : decode b_Mod_extentsIn 27 = .ok (.iload_n 2, 1) := by decide +kernel
theorem d_Mod_extentsIn_28 : decode b_Mod_extentsIn 28 = .ok (.bipush 10, 2) := by decide +kernel
theorem d_Mod_extentsIn_30 : decode b_Mod_extentsIn 30 = .ok (.idiv, 1) := by decide +kernel
theorem d_Mod_extentsIn_31 : decode b_Mod_extentsIn 31 = .ok (.istore_n 2, 1) := by decide +kernel
theorem d_Mod_extentsIn_32 : decode b_Mod_extentsIn 32 = .ok (.goto (-24), 3) := by decide +kernel
theorem d_Mod_extentsIn_35 : decode b_Mod_extentsIn 35 = .ok (.aload_n 0, 1) := by decide +kernel
theorem d_Mod_extentsIn_36 : decode b_Mod_extentsIn 36 = .ok (.invokevirtual 300, 3) := by decide +kernel
theorem d_Mod_extentsIn_39 : decode b_Mod_extentsIn 39 = .ok (.istore_n 2, 1) := by decide +kernel
theorem d_Mod_extentsIn_40 : decode b_Mod_extentsIn 40 = .ok (.aload_n 0, 1) := by decide +kernel
theorem d_Mod_extentsIn_41 : decode b_Mod_extentsIn 41 = .ok (.invokevirtual 294, 3) := by decide +kernel
theorem d_Mod_extentsIn_44 : decode b_Mod_extentsIn 44 = .ok (.iload_n 2, 1) := by decide +kernel
theorem d_Mod_extentsIn_45 : decode b_Mod_extentsIn 45 = .ok (.ireturn, 1) := by decide +kernel
def m_Mod_extentsIn_8 : Nat → Int → Int → Int → Int → Int → Int → (Int → Int) → (Int → Int) → (Int → Int) → (Int → Int) → (Int → Int) → (Int → Int) → (Int → Int) → Option (Int × Int × Int × Int × Int × (Int → Int) × (Int → Int) × (Int → Int) × (Int → Int) × (Int → Int) × (Int → Int) × (Int → Int))
  | 0, _, _, _, _, _, _, _, _, _, _, _, _, _ => none
  | fuel + 1, v1, v2, m_stepsMade, m_stepsMost, m_isKeeping, m_cursor, m_bytes, m_owner, m_block, m_written, m_waits, m_kinds, m_kept =>
  cle v2 0 (bnd (m_Mod_allExtents m_block m_written) (fun r3 => bnd (m_Mod_forgets m_isKeeping m_cursor m_bytes m_owner m_block m_written m_waits m_kinds m_kept) (fun r5 => some (r3, m_stepsMade, m_stepsMost, r5.1, r5.2.1, r5.2.2.1, r5.2.2.2.1, r5.2.2.2.2.1, r5.2.2.2.2.2.1, r5.2.2.2.2.2.2.1, r5.2.2.2.2.2.2.2.1, r5.2.2.2.2.2.2.2.2)))) (gd (zx v1 2147483648 ∧ zp v2 2147483648) (gd (zx (v1 / v2) 2147483648 ∧ zp 10 2147483648) (bnd (m_Mod_flushes (((v1 / v2) % 10) - 1) 1000000 m_stepsMade m_stepsMost m_bytes m_owner m_block m_written m_waits m_kinds) (fun r7 => gd (zx v2 2147483648 ∧ zp 10 2147483648) (m_Mod_extentsIn_8 fuel v1 (v2 / 10) r7.2.1 r7.2.2.1 m_isKeeping m_cursor r7.2.2.2.1 r7.2.2.2.2.1 r7.2.2.2.2.2.1 r7.2.2.2.2.2.2.1 r7.2.2.2.2.2.2.2 m_kinds m_kept)))))
def m_Mod_extentsIn (x1 : Int) (m_stepsMade : Int) (m_stepsMost : Int) (m_isKeeping : Int) (m_cursor : Int) (m_bytes : Int → Int) (m_owner : Int → Int) (m_block : Int → Int) (m_written : Int → Int) (m_waits : Int → Int) (m_kinds : Int → Int) (m_kept : Int → Int) : Option (Int × Int × Int × Int × Int × (Int → Int) × (Int → Int) × (Int → Int) × (Int → Int) × (Int → Int) × (Int → Int) × (Int → Int)) :=
  bnd (m_Mod_minds m_isKeeping m_cursor m_bytes m_owner m_block m_written m_waits m_kinds m_kept) (fun r1 => m_Mod_extentsIn_8 5000 x1 1000 m_stepsMade m_stepsMost r1.1 r1.2.1 r1.2.2.1 r1.2.2.2.1 r1.2.2.2.2.1 r1.2.2.2.2.2.1 r1.2.2.2.2.2.2.1 r1.2.2.2.2.2.2.2.1 r1.2.2.2.2.2.2.2.2)
set_option maxHeartbeats 4000000 in
set_option maxRecDepth 100000 in
theorem l_Mod_extentsIn_8 {G : GT} {l : Launch} {D : va_G} {cI cB : ClassId} {a0 a1 a2 a3 a4 a5 a6 a7 a8 a9 a10 a11 a12 a13 a14 a15 : Nat} {m_taped : Int} {m_reading : Int} {m_statements : Int} {m_telling : Int} {m_hasImage : Int} {m_rowMany : Int} {m_lots : Int} {m_refused : Int → Int} {m_tape : Int → Int} {m_sort : Int → Int} {m_sortAt : Int → Int} {m_told : Int → Int} {m_was : Int → Int} {m_ends : Int → Int} {m_row : Int → Int} (X : Cx G l D cI cB b_Mod_extentsIn y_Mod_extentsIn.cls 3 { frames := 6, cells := 0, slots := 0, locals := 142 }) : ∀ (fuel : Nat) (v1 : Int) (v2 : Int) (m_stepsMade : Int) (m_stepsMost : Int) (m_isKeeping : Int) (m_cursor : Int) (m_bytes : Int → Int) (m_owner : Int → Int) (m_block : Int → Int) (m_written : Int → Int) (m_waits : Int → Int) (m_kinds : Int → Int) (m_kept : Int → Int) (o : Int × Int × Int × Int × Int × (Int → Int) × (Int → Int) × (Int → Int) × (Int → Int) × (Int → Int) × (Int → Int) × (Int → Int)), m_Mod_extentsIn_8 fuel v1 v2 m_stepsMade m_stepsMost m_isKeeping m_cursor m_bytes m_owner m_block m_written m_waits m_kinds m_kept = some o → Rt G (some .int) (some (.int (zi o.1))) (w_Mod cI cB a0 a1 a2 a3 a4 a5 a6 a7 a8 a9 a10 a11 a12 a13 a14 a15 o.2.1 o.2.2.1 m_taped m_reading m_statements m_telling m_hasImage o.2.2.2.1 o.2.2.2.2.1 m_rowMany m_lots m_refused o.2.2.2.2.2.1 o.2.2.2.2.2.2.1 o.2.2.2.2.2.2.2.1 o.2.2.2.2.2.2.2.2.1 o.2.2.2.2.2.2.2.2.2.1 o.2.2.2.2.2.2.2.2.2.2.1 m_tape m_sort m_sortAt m_told o.2.2.2.2.2.2.2.2.2.2.2 m_was m_ends m_row) → Wx G 0 0 8 [(0, .ref a0), (1, .int (zi v1)), (2, .int (zi v2))] [] (w_Mod cI cB a0 a1 a2 a3 a4 a5 a6 a7 a8 a9 a10 a11 a12 a13 a14 a15 m_stepsMade m_stepsMost m_taped m_reading m_statements m_telling m_hasImage m_isKeeping m_cursor m_rowMany m_lots m_refused m_bytes m_owner m_block m_written m_waits m_kinds m_tape m_sort m_sortAt m_told m_kept m_was m_ends m_row) := by
  intro fuel
  induction fuel with
  | zero =>
    intro v1 v2 m_stepsMade m_stepsMost m_isKeeping m_cursor m_bytes m_owner m_block m_written m_waits m_kinds m_kept o h
    exact absurd h (by simp [m_Mod_extentsIn_8])
  | succ fuel ih =>
    intro v1 v2 m_stepsMade m_stepsMost m_isKeeping m_cursor m_bytes m_owner m_block m_written m_waits m_kinds m_kept o h hR
    rw [m_Mod_extentsIn_8] at h
    refine x_iload_n (pc := 8) X d_Mod_extentsIn_8 2 rfl rfl ?_
    refine x_ifle (pc := 9) (tgt := 35) X d_Mod_extentsIn_9 rfl h (fun h => ?_) (fun h => ?_)
    · skip
      refine x_aload_n (pc := 35) X d_Mod_extentsIn_35 0 rfl rfl ?_
      obtain ⟨r3, h4, h⟩ := bnd_e h
      refine x_callV (pc := 36) (As := []) (rest := []) (w2 := (w_Mod cI cB a0 a1 a2 a3 a4 a5 a6 a7 a8 a9 a10 a11 a12 a13 a14 a15 m_stepsMade m_stepsMost m_taped m_reading m_statements m_telling m_hasImage m_isKeeping m_cursor m_rowMany m_lots m_refused m_bytes m_owner m_block m_written m_waits m_kinds m_tape m_sort m_sortAt m_told m_kept m_was m_ends m_row)) X d_Mod_extentsIn_36 lk_Mod_300 mv_Mod_allExtents (c_Mod_allExtents l D cI cB a0 a1 a2 a3 a4 a5 a6 a7 a8 a9 a10 a11 a12 a13 a14 a15 m_stepsMade m_stepsMost m_taped m_reading m_statements m_telling m_hasImage m_isKeeping m_cursor m_rowMany m_lots m_refused m_bytes m_owner m_block m_written m_waits m_kinds m_tape m_sort m_sortAt m_told m_kept m_was m_ends m_row h4) ⟨(Nat.le_of_ble_eq_true rfl), (Nat.le_of_ble_eq_true rfl), (Nat.le_of_ble_eq_true rfl), (Nat.le_of_ble_eq_true rfl)⟩ 0 rfl rfl [0, 1, 2, 3, 4, 5, 6, 7, 8, 9, 10, 11, 12, 13, 14, 15] rfl rfl rfl (Up.same rfl) rfl rfl (Nat.le_of_ble_eq_true rfl) ?_
      refine x_istore_n (pc := 39) (ls2 := [(2, .int (zi r3)), (0, .ref a0), (1, .int (zi v1))]) X d_Mod_extentsIn_39 rfl (Nat.le_of_ble_eq_true rfl) rfl ?_
      refine x_aload_n (pc := 40) X d_Mod_extentsIn_40 1 rfl rfl ?_
      obtain ⟨r5, h6, h⟩ := bnd_e h
      refine x_callV (pc := 41) (As := []) (rest := []) (w2 := (w_Mod cI cB a0 a1 a2 a3 a4 a5 a6 a7 a8 a9 a10 a11 a12 a13 a14 a15 m_stepsMade m_stepsMost m_taped m_reading m_statements m_telling m_hasImage r5.1 r5.2.1 m_rowMany m_lots m_refused r5.2.2.1 r5.2.2.2.1 r5.2.2.2.2.1 r5.2.2.2.2.2.1 r5.2.2.2.2.2.2.1 r5.2.2.2.2.2.2.2.1 m_tape m_sort m_sortAt m_told r5.2.2.2.2.2.2.2.2 m_was m_ends m_row)) X d_Mod_extentsIn_41 lk_Mod_294 mv_Mod_forgets (c_Mod_forgets l D cI cB a0 a1 a2 a3 a4 a5 a6 a7 a8 a9 a10 a11 a12 a13 a14 a15 m_stepsMade m_stepsMost m_taped m_reading m_statements m_telling m_hasImage m_isKeeping m_cursor m_rowMany m_lots m_refused m_bytes m_owner m_block m_written m_waits m_kinds m_tape m_sort m_sortAt m_told m_kept m_was m_ends m_row h6) ⟨(Nat.le_of_ble_eq_true rfl), (Nat.le_of_ble_eq_true rfl), (Nat.le_of_ble_eq_true rfl), (Nat.le_of_ble_eq_true rfl)⟩ 0 rfl rfl [0, 1, 2, 3, 4, 5, 6, 7, 8, 9, 10, 11, 12, 13, 14, 15] rfl rfl rfl (Up.of [] [] rfl rfl rfl 16 rfl (by decide +kernel)) rfl rfl (Nat.le_of_ble_eq_true rfl) ?_
      refine x_iload_n (pc := 44) X d_Mod_extentsIn_44 0 rfl rfl ?_
      cases h
      exact x_iret (pc := 45) X hR d_Mod_extentsIn_45
    · skip
      refine x_aload_n (pc := 12) X d_Mod_extentsIn_12 0 rfl rfl ?_
      refine x_iload_n (pc := 13) X d_Mod_extentsIn_13 1 rfl rfl ?_
      refine x_iload_n (pc := 14) X d_Mod_extentsIn_14 2 rfl rfl ?_
      refine x_idiv (pc := 15) X d_Mod_extentsIn_15 h (fun h => ?_)
      refine x_bipush (pc := 16) (v := 10) X d_Mod_extentsIn_16 rfl ?_
      refine x_irem (pc := 18) X d_Mod_extentsIn_18 h (fun h => ?_)
      refine x_iconst (pc := 19) X d_Mod_extentsIn_19  ?_
      refine x_isub (pc := 20) X d_Mod_extentsIn_20  ?_
      refine x_ldc (pc := 21) X d_Mod_extentsIn_21 cw_Mod_165 cg_Mod_165 ?_
      obtain ⟨r7, h8, h⟩ := bnd_e h
      refine x_callV (pc := 23) (As := [.int (zi (((v1 / v2) % 10) - 1)), .int (zi 1000000)]) (rest := []) (w2 := (w_Mod cI cB a0 a1 a2 a3 a4 a5 a6 a7 a8 a9 a10 a11 a12 a13 a14 a15 r7.2.1 r7.2.2.1 m_taped m_reading m_statements m_telling m_hasImage m_isKeeping m_cursor m_rowMany m_lots m_refused r7.2.2.2.1 r7.2.2.2.2.1 r7.2.2.2.2.2.1 r7.2.2.2.2.2.2.1 r7.2.2.2.2.2.2.2 m_kinds m_tape m_sort m_sortAt m_told m_kept m_was m_ends m_row)) X d_Mod_extentsIn_23 lk_Mod_150 mv_Mod_flushes (c_Mod_flushes l D cI cB a0 a1 a2 a3 a4 a5 a6 a7 a8 a9 a10 a11 a12 a13 a14 a15 m_stepsMade m_stepsMost m_taped m_reading m_statements m_telling m_hasImage m_isKeeping m_cursor m_rowMany m_lots m_refused m_bytes m_owner m_block m_written m_waits m_kinds m_tape m_sort m_sortAt m_told m_kept m_was m_ends m_row (((v1 / v2) % 10) - 1) 1000000 h8) ⟨(Nat.le_of_ble_eq_true rfl), (Nat.le_of_ble_eq_true rfl), (Nat.le_of_ble_eq_true rfl), (Nat.le_of_ble_eq_true rfl)⟩ 0 rfl rfl [0, 1, 2, 3, 4, 5, 6, 7, 8, 9, 10, 11, 12, 13, 14, 15] rfl rfl rfl (Up.of [] [] rfl rfl rfl 16 rfl (by decide +kernel)) rfl rfl (Nat.le_of_ble_eq_true rfl) ?_
      refine x_pop (pc := 26) X d_Mod_extentsIn_26 rfl ?_
      refine x_iload_n (pc := 27) X d_Mod_extentsIn_27 2 rfl rfl ?_
      refine x_bipush (pc := 28) (v := 10) X d_Mod_extentsIn_28 rfl ?_
      refine x_idiv (pc := 30) X d_Mod_extentsIn_30 h (fun h => ?_)
      refine x_istore_n (pc := 31) (ls2 := [(2, .int (zi (v2 / 10))), (0, .ref a0), (1, .int (zi v1))]) X d_Mod_extentsIn_31 rfl (Nat.le_of_ble_eq_true rfl) rfl ?_
      refine x_goto (pc := 32) (tgt := 8) X d_Mod_extentsIn_32 rfl ?_
      refine x_ls (ls2 := [(0, .ref a0), (1, .int (zi v1)), (2, .int (zi (v2 / 10)))]) [1, 2, 0] rfl ?_
      exact ih v1 (v2 / 10) r7.2.1 r7.2.2.1 m_isKeeping m_cursor r7.2.2.2.1 r7.2.2.2.2.1 r7.2.2.2.2.2.1 r7.2.2.2.2.2.2.1 r7.2.2.2.2.2.2.2 m_kinds m_kept o h hR
set_option maxHeartbeats 4000000 in
set_option maxRecDepth 100000 in
theorem c_Mod_extentsIn (l : Launch) (D : va_G) (cI cB : ClassId) (a0 a1 a2 a3 a4 a5 a6 a7 a8 a9 a10 a11 a12 a13 a14 a15 : Nat) (m_stepsMade : Int) (m_stepsMost : Int) (m_taped : Int) (m_reading : Int) (m_statements : Int) (m_telling : Int) (m_hasImage : Int) (m_isKeeping : Int) (m_cursor : Int) (m_rowMany : Int) (m_lots : Int) (m_refused : Int → Int) (m_bytes : Int → Int) (m_owner : Int → Int) (m_block : Int → Int) (m_written : Int → Int) (m_waits : Int → Int) (m_kinds : Int → Int) (m_tape : Int → Int) (m_sort : Int → Int) (m_sortAt : Int → Int) (m_told : Int → Int) (m_kept : Int → Int) (m_was : Int → Int) (m_ends : Int → Int) (m_row : Int → Int) (x1 : Int) {o : Int × Int × Int × Int × Int × (Int → Int) × (Int → Int) × (Int → Int) × (Int → Int) × (Int → Int) × (Int → Int) × (Int → Int)} (h : m_Mod_extentsIn x1 m_stepsMade m_stepsMost m_isKeeping m_cursor m_bytes m_owner m_block m_written m_waits m_kinds m_kept = some o) : Ct l D cI cB y_Mod_extentsIn b_Mod_extentsIn 3 (some .int) { frames := 6, cells := 0, slots := 0, locals := 142 } [.ref a0, .int (zi x1)] (w_Mod cI cB a0 a1 a2 a3 a4 a5 a6 a7 a8 a9 a10 a11 a12 a13 a14 a15 m_stepsMade m_stepsMost m_taped m_reading m_statements m_telling m_hasImage m_isKeeping m_cursor m_rowMany m_lots m_refused m_bytes m_owner m_block m_written m_waits m_kinds m_tape m_sort m_sortAt m_told m_kept m_was m_ends m_row) (w_Mod cI cB a0 a1 a2 a3 a4 a5 a6 a7 a8 a9 a10 a11 a12 a13 a14 a15 o.2.1 o.2.2.1 m_taped m_reading m_statements m_telling m_hasImage o.2.2.2.1 o.2.2.2.2.1 m_rowMany m_lots m_refused o.2.2.2.2.2.1 o.2.2.2.2.2.2.1 o.2.2.2.2.2.2.2.1 o.2.2.2.2.2.2.2.2.1 o.2.2.2.2.2.2.2.2.2.1 o.2.2.2.2.2.2.2.2.2.2.1 m_tape m_sort m_sortAt m_told o.2.2.2.2.2.2.2.2.2.2.2 m_was m_ends m_row) (some (.int (zi o.1))) := by
  refine Ct.start (by decide) (Nat.le_of_ble_eq_true rfl) (fun G X hR => ?_)
  refine x_ls (ls2 := [(0, .ref a0), (1, .int (zi x1))]) [0, 1] rfl ?_
  unfold m_Mod_extentsIn at h
  refine x_aload_n (pc := 0) X d_Mod_extentsIn_0 0 rfl rfl ?_
  obtain ⟨r1, h2, h⟩ := bnd_e h
  refine x_callV (pc := 1) (As := []) (rest := []) (w2 := (w_Mod cI cB a0 a1 a2 a3 a4 a5 a6 a7 a8 a9 a10 a11 a12 a13 a14 a15 m_stepsMade m_stepsMost m_taped m_reading m_statements m_telling m_hasImage r1.1 r1.2.1 m_rowMany m_lots m_refused r1.2.2.1 r1.2.2.2.1 r1.2.2.2.2.1 r1.2.2.2.2.2.1 r1.2.2.2.2.2.2.1 r1.2.2.2.2.2.2.2.1 m_tape m_sort m_sortAt m_told r1.2.2.2.2.2.2.2.2 m_was m_ends m_row)) X d_Mod_extentsIn_1 lk_Mod_291 mv_Mod_minds (c_Mod_minds l D cI cB a0 a1 a2 a3 a4 a5 a6 a7 a8 a9 a10 a11 a12 a13 a14 a15 m_stepsMade m_stepsMost m_taped m_reading m_statements m_telling m_hasImage m_isKeeping m_cursor m_rowMany m_lots m_refused m_bytes m_owner m_block m_written m_waits m_kinds m_tape m_sort m_sortAt m_told m_kept m_was m_ends m_row h2) ⟨(Nat.le_of_ble_eq_true rfl), (Nat.le_of_ble_eq_true rfl), (Nat.le_of_ble_eq_true rfl), (Nat.le_of_ble_eq_true rfl)⟩ 0 rfl rfl [0, 1, 2, 3, 4, 5, 6, 7, 8, 9, 10, 11, 12, 13, 14, 15] rfl rfl rfl (Up.of [] [] rfl rfl rfl 16 rfl (by decide +kernel)) rfl rfl (Nat.le_of_ble_eq_true rfl) ?_
  refine x_sipush (pc := 4) (v := 1000) X d_Mod_extentsIn_4 (by decide +kernel) ?_
  refine x_istore_n (pc := 7) (ls2 := [(2, .int (zi 1000)), (0, .ref a0), (1, .int (zi x1))]) X d_Mod_extentsIn_7 rfl (Nat.le_of_ble_eq_true rfl) rfl ?_
  refine x_ls (ls2 := [(0, .ref a0), (1, .int (zi x1)), (2, .int (zi 1000))]) [1, 2, 0] rfl ?_
  exact l_Mod_extentsIn_8 X 5000 x1 1000 m_stepsMade m_stepsMost r1.1 r1.2.1 r1.2.2.1 r1.2.2.2.1 r1.2.2.2.2.1 r1.2.2.2.2.2.1 r1.2.2.2.2.2.2.1 r1.2.2.2.2.2.2.2.1 r1.2.2.2.2.2.2.2.2 o h hR
theorem d_Mod_order_0 : decode b_Mod_order 0 = .ok (.iload_n 1, 1) := by decide +kernel
theorem d_Mod_order_1 : decode b_Mod_order 1 = .ok (.iconst 0, 1) := by decide +kernel
theorem d_Mod_order_2 : decode b_Mod_order 2 = .ok (.iconst 1, 1) := by decide +kernel
theorem d_Mod_order_3 : decode b_Mod_order 3 = .ok (.invokestatic 58, 3) := by decide +kernel
theorem d_Mod_order_6 : decode b_Mod_order 6 = .ok (.ifCond .ne 10, 3) := by decide +kernel
theorem d_Mod_order_9 : decode b_Mod_order 9 = .ok (.aload_n 0, 1) := by decide +kernel
theorem d_Mod_order_10 : decode b_Mod_order 10 = .ok (.bipush (-2), 2) := by decide +kernel
theorem d_Mod_order_12 : decode b_Mod_order 12 = .ok (.invokevirtual 172, 3) := by decide +kernel
theorem d_Mod_order_15 : decode b_Mod_order 15 = .ok (.ireturn, 1) := by decide +kernel
theorem d_Mod_order_16 : decode b_Mod_order 16 = .ok (.bipush (-9), 2) := by decide +kernel
theorem d_Mod_order_18 : decode b_Mod_order 18 = .ok (.istore_n 2, 1) := by decide +kernel
theorem d_Mod_order_19 : decode b_Mod_order 19 = .ok (.iconst 0, 1) := by decide +kernel
theorem d_Mod_order_20 : decode b_Mod_order 20 = .ok (.istore_n 3, 1) := by decide +kernel
theorem d_Mod_order_21 : decode b_Mod_order 21 = .ok (.sipush 1234, 3) := by decide +kernel
theorem d_Mod_order_24 : decode b_Mod_order 24 = .ok (.istore 4, 2) := by decide +kernel
theorem d_Mod_order_26 : decode b_Mod_order 26 = .ok (.iload 4, 2) := by decide +kernel
theorem d_Mod_order_28 : decode b_Mod_order 28 = .ok (.sipush 4321, 3) := by decide +kernel
theorem d_Mod_order_31 : decode b_Mod_order 31 = .ok (.if_icmp .gt 47, 3) := by decide +kernel
theorem d_Mod_order_34 : decode b_Mod_order 34 = .ok (.iload 4, 2) := by decide +kernel
theorem d_Mod_order_36 : decode b_Mod_order 36 = .ok (.invokestatic 303, 3) := by decide +kernel
theorem d_Mod_order_39 : decode b_Mod_order 39 = .ok (.ifCond .ne 6, 3) := by decide +kernel
theorem d_Mod_order_42 : decode b_Mod_order 42 = .ok (.goto 30, 3) := by decide +kernel
theorem d_Mod_order_45 : decode b_Mod_order 45 = .ok (.aload_n 0, 1) := by decide +kernel
theorem d_Mod_order_46 : decode b_Mod_order 46 = .ok (.iload 4, 2) := by decide +kernel
theorem d_Mod_order_48 : decode b_Mod_order 48 = .ok (.invokevirtual 306, 3) := by decide +kernel
theorem d_Mod_order_51 : decode b_Mod_order 51 = .ok (.istore 5, 2) := by decide +kernel
theorem d_Mod_order_53 : decode b_Mod_order 53 = .ok (.iload_n 2, 1) := by decide +kernel
theorem d_Mod_order_54 : decode b_Mod_order 54 = .ok (.ifCond .lt 12, 3) := by decide +kernel
theorem d_Mod_order_57 : decode b_Mod_order 57 = .ok (.iload 5, 2) := by decide +kernel
theorem d_Mod_order_59 : decode b_Mod_order 59 = .ok (.iload_n 3, 1) := by decide +kernel
theorem d_Mod_order_60 : decode b_Mod_order 60 = .ok (.if_icmp .lt 6, 3) := by decide +kernel
theorem d_Mod_order_63 : decode b_Mod_order 63 = .ok (.goto 9, 3) := by decide +kernel
theorem d_Mod_order_66 : decode b_Mod_order 66 = .ok (.iload 4, 2) := by decide +kernel
theorem d_Mod_order_68 : decode b_Mod_order 68 = .ok (.istore_n 2, 1) := by decide +kernel
theorem d_Mod_order_69 : decode b_Mod_order 69 = .ok (.iload 5, 2) := by decide +kernel
theorem d_Mod_order_71 : decode b_Mod_order 71 = .ok (.istore_n 3, 1) := by decide +kernel
theorem d_Mod_order_72 : decode b_Mod_order 72 = .ok (.iinc 4 1, 3) := by decide +kernel
theorem d_Mod_order_75 : decode b_Mod_order 75 = .ok (.goto (-49), 3) := by decide +kernel
theorem d_Mod_order_78 : decode b_Mod_order 78 = .ok (.iload_n 1, 1) := by decide +kernel
theorem d_Mod_order_79 : decode b_Mod_order 79 = .ok (.ifCond .ne 7, 3) := by decide +kernel
theorem d_Mod_order_82 : decode b_Mod_order 82 = .ok (.iload_n 2, 1) := by decide +kernel
theorem d_Mod_order_83 : decode b_Mod_order 83 = .ok (.goto 4, 3) := by decide +kernel
theorem d_Mod_order_86 : decode b_Mod_order 86 = .ok (.iload_n 3, 1) := by decide +kernel
theorem d_Mod_order_87 : decode b_Mod_order 87 = .ok (.ireturn, 1) := by decide +kernel
def m_Mod_order_26 : Nat → Int → Int → Int → Int → Int → Int → Int → Int → (Int → Int) → (Int → Int) → (Int → Int) → (Int → Int) → (Int → Int) → (Int → Int) → (Int → Int) → (Int → Int) → Option (Int × Int × Int × Int × Int × (Int → Int) × (Int → Int) × (Int → Int) × (Int → Int) × (Int → Int) × (Int → Int) × (Int → Int) × (Int → Int))
  | 0, _, _, _, _, _, _, _, _, _, _, _, _, _, _, _, _ => none
  | fuel + 1, v1, v2, v3, v4, m_stepsMade, m_stepsMost, m_isKeeping, m_cursor, m_refused, m_bytes, m_owner, m_block, m_written, m_waits, m_kinds, m_kept =>
  cle v4 4321 (bnd (m_Mod_isOrder v4) (fun r3 => ceq r3 0 (m_Mod_order_26 fuel v1 v2 v3 (v4 + 1) m_stepsMade m_stepsMost m_isKeeping m_cursor m_refused m_bytes m_owner m_block m_written m_waits m_kinds m_kept) (bnd (m_Mod_extentsIn v4 m_stepsMade m_stepsMost m_isKeeping m_cursor m_bytes m_owner m_block m_written m_waits m_kinds m_kept) (fun r5 => clt v2 0 (m_Mod_order_26 fuel v1 v4 r5.1 (v4 + 1) r5.2.1 r5.2.2.1 r5.2.2.2.1 r5.2.2.2.2.1 m_refused r5.2.2.2.2.2.1 r5.2.2.2.2.2.2.1 r5.2.2.2.2.2.2.2.1 r5.2.2.2.2.2.2.2.2.1 r5.2.2.2.2.2.2.2.2.2.1 r5.2.2.2.2.2.2.2.2.2.2.1 r5.2.2.2.2.2.2.2.2.2.2.2) (clt r5.1 v3 (m_Mod_order_26 fuel v1 v4 r5.1 (v4 + 1) r5.2.1 r5.2.2.1 r5.2.2.2.1 r5.2.2.2.2.1 m_refused r5.2.2.2.2.2.1 r5.2.2.2.2.2.2.1 r5.2.2.2.2.2.2.2.1 r5.2.2.2.2.2.2.2.2.1 r5.2.2.2.2.2.2.2.2.2.1 r5.2.2.2.2.2.2.2.2.2.2.1 r5.2.2.2.2.2.2.2.2.2.2.2) (m_Mod_order_26 fuel v1 v2 v3 (v4 + 1) r5.2.1 r5.2.2.1 r5.2.2.2.1 r5.2.2.2.2.1 m_refused r5.2.2.2.2.2.1 r5.2.2.2.2.2.2.1 r5.2.2.2.2.2.2.2.1 r5.2.2.2.2.2.2.2.2.1 r5.2.2.2.2.2.2.2.2.2.1 r5.2.2.2.2.2.2.2.2.2.2.1 r5.2.2.2.2.2.2.2.2.2.2.2)))))) (ceq v1 0 (some (v2, m_stepsMade, m_stepsMost, m_isKeeping, m_cursor, m_refused, m_bytes, m_owner, m_block, m_written, m_waits, m_kinds, m_kept)) (some (v3, m_stepsMade, m_stepsMost, m_isKeeping, m_cursor, m_refused, m_bytes, m_owner, m_block, m_written, m_waits, m_kinds, m_kept)))
def m_Mod_order (x1 : Int) (m_stepsMade : Int) (m_stepsMost : Int) (m_isKeeping : Int) (m_cursor : Int) (m_refused : Int → Int) (m_bytes : Int → Int) (m_owner : Int → Int) (m_block : Int → Int) (m_written : Int → Int) (m_waits : Int → Int) (m_kinds : Int → Int) (m_kept : Int → Int) : Option (Int × Int × Int × Int × Int × (Int → Int) × (Int → Int) × (Int → Int) × (Int → Int) × (Int → Int) × (Int → Int) × (Int → Int) × (Int → Int)) :=
  bnd (m_Mod_isIn x1 0 1) (fun r1 => ceq r1 0 (bnd (m_Mod_no (-2) m_refused) (fun r7 => some (r7.1, m_stepsMade, m_stepsMost, m_isKeeping, m_cursor, r7.2, m_bytes, m_owner, m_block, m_written, m_waits, m_kinds, m_kept))) (m_Mod_order_26 5000 x1 (-9) 0 1234 m_stepsMade m_stepsMost m_isKeeping m_cursor m_refused m_bytes m_owner m_block m_written m_waits m_kinds m_kept))
set_option maxHeartbeats 4000000 in
set_option maxRecDepth 100000 in
theorem l_Mod_order_26 {G : GT} {l : Launch} {D : va_G} {cI cB : ClassId} {a0 a1 a2 a3 a4 a5 a6 a7 a8 a9 a10 a11 a12 a13 a14 a15 : Nat} {m_taped : Int} {m_reading : Int} {m_statements : Int} {m_telling : Int} {m_hasImage : Int} {m_rowMany : Int} {m_lots : Int} {m_tape : Int → Int} {m_sort : Int → Int} {m_sortAt : Int → Int} {m_told : Int → Int} {m_was : Int → Int} {m_ends : Int → Int} {m_row : Int → Int} (X : Cx G l D cI cB b_Mod_order y_Mod_order.cls 6 { frames := 7, cells := 0, slots := 0, locals := 164 }) : ∀ (fuel : Nat) (v1 : Int) (v2 : Int) (v3 : Int) (v4 : Int) (m_stepsMade : Int) (m_stepsMost : Int) (m_isKeeping : Int) (m_cursor : Int) (m_refused : Int → Int) (m_bytes : Int → Int) (m_owner : Int → Int) (m_block : Int → Int) (m_written : Int → Int) (m_waits : Int → Int) (m_kinds : Int → Int) (m_kept : Int → Int) (o : Int × Int × Int × Int × Int × (Int → Int) × (Int → Int) × (Int → Int) × (Int → Int) × (Int → Int) × (Int → Int) × (Int → Int) × (Int → Int)), m_Mod_order_26 fuel v1 v2 v3 v4 m_stepsMade m_stepsMost m_isKeeping m_cursor m_refused m_bytes m_owner m_block m_written m_waits m_kinds m_kept = some o → Rt G (some .int) (some (.int (zi o.1))) (w_Mod cI cB a0 a1 a2 a3 a4 a5 a6 a7 a8 a9 a10 a11 a12 a13 a14 a15 o.2.1 o.2.2.1 m_taped m_reading m_statements m_telling m_hasImage o.2.2.2.1 o.2.2.2.2.1 m_rowMany m_lots o.2.2.2.2.2.1 o.2.2.2.2.2.2.1 o.2.2.2.2.2.2.2.1 o.2.2.2.2.2.2.2.2.1 o.2.2.2.2.2.2.2.2.2.1 o.2.2.2.2.2.2.2.2.2.2.1 o.2.2.2.2.2.2.2.2.2.2.2.1 m_tape m_sort m_sortAt m_told o.2.2.2.2.2.2.2.2.2.2.2.2 m_was m_ends m_row) → Wx G 0 0 26 [(0, .ref a0), (1, .int (zi v1)), (2, .int (zi v2)), (3, .int (zi v3)), (4, .int (zi v4))] [] (w_Mod cI cB a0 a1 a2 a3 a4 a5 a6 a7 a8 a9 a10 a11 a12 a13 a14 a15 m_stepsMade m_stepsMost m_taped m_reading m_statements m_telling m_hasImage m_isKeeping m_cursor m_rowMany m_lots m_refused m_bytes m_owner m_block m_written m_waits m_kinds m_tape m_sort m_sortAt m_told m_kept m_was m_ends m_row) := by
  intro fuel
  induction fuel with
  | zero =>
    intro v1 v2 v3 v4 m_stepsMade m_stepsMost m_isKeeping m_cursor m_refused m_bytes m_owner m_block m_written m_waits m_kinds m_kept o h
    exact absurd h (by simp [m_Mod_order_26])
  | succ fuel ih =>
    intro v1 v2 v3 v4 m_stepsMade m_stepsMost m_isKeeping m_cursor m_refused m_bytes m_owner m_block m_written m_waits m_kinds m_kept o h hR
    rw [m_Mod_order_26] at h
    refine x_iload (pc := 26) X d_Mod_order_26 4 rfl ?_
    refine x_sipush (pc := 28) (v := 4321) X d_Mod_order_28 (by decide +kernel) ?_
    refine x_icmpgt (pc := 31) (tgt := 78) X d_Mod_order_31 rfl h (fun h => ?_) (fun h => ?_)
    · skip
      refine x_iload_n (pc := 78) X d_Mod_order_78 1 rfl rfl ?_
      refine x_ifne (pc := 79) (tgt := 86) X d_Mod_order_79 rfl h (fun h => ?_) (fun h => ?_)
      · skip
        refine x_iload_n (pc := 86) X d_Mod_order_86 3 rfl rfl ?_
        cases h
        exact x_iret (pc := 87) X hR d_Mod_order_87
      · skip
        refine x_iload_n (pc := 82) X d_Mod_order_82 2 rfl rfl ?_
        refine x_goto (pc := 83) (tgt := 87) X d_Mod_order_83 rfl ?_
        cases h
        exact x_iret (pc := 87) X hR d_Mod_order_87
    · skip
      refine x_iload (pc := 34) X d_Mod_order_34 4 rfl ?_
      obtain ⟨r3, h4, h⟩ := bnd_e h
      refine x_callS (pc := 36) (As := [.int (zi v4)]) (rest := []) (w2 := (w_Mod cI cB a0 a1 a2 a3 a4 a5 a6 a7 a8 a9 a10 a11 a12 a13 a14 a15 m_stepsMade m_stepsMost m_taped m_reading m_statements m_telling m_hasImage m_isKeeping m_cursor m_rowMany m_lots m_refused m_bytes m_owner m_block m_written m_waits m_kinds m_tape m_sort m_sortAt m_told m_kept m_was m_ends m_row)) X d_Mod_order_36 lk_Mod_303 mv_Mod_isOrder (c_Mod_isOrder l D cI cB v4 h4) ⟨(Nat.le_of_ble_eq_true rfl), (Nat.le_of_ble_eq_true rfl), (Nat.le_of_ble_eq_true rfl), (Nat.le_of_ble_eq_true rfl)⟩ [] rfl rfl rfl (Up.same rfl) rfl rfl (Nat.le_of_ble_eq_true rfl) ?_
      refine x_ifne (pc := 39) (tgt := 45) X d_Mod_order_39 rfl h (fun h => ?_) (fun h => ?_)
      · skip
        refine x_aload_n (pc := 45) X d_Mod_order_45 0 rfl rfl ?_
        refine x_iload (pc := 46) X d_Mod_order_46 4 rfl ?_
        obtain ⟨r5, h6, h⟩ := bnd_e h
        refine x_callV (pc := 48) (As := [.int (zi v4)]) (rest := []) (w2 := (w_Mod cI cB a0 a1 a2 a3 a4 a5 a6 a7 a8 a9 a10 a11 a12 a13 a14 a15 r5.2.1 r5.2.2.1 m_taped m_reading m_statements m_telling m_hasImage r5.2.2.2.1 r5.2.2.2.2.1 m_rowMany m_lots m_refused r5.2.2.2.2.2.1 r5.2.2.2.2.2.2.1 r5.2.2.2.2.2.2.2.1 r5.2.2.2.2.2.2.2.2.1 r5.2.2.2.2.2.2.2.2.2.1 r5.2.2.2.2.2.2.2.2.2.2.1 m_tape m_sort m_sortAt m_told r5.2.2.2.2.2.2.2.2.2.2.2 m_was m_ends m_row)) X d_Mod_order_48 lk_Mod_306 mv_Mod_extentsIn (c_Mod_extentsIn l D cI cB a0 a1 a2 a3 a4 a5 a6 a7 a8 a9 a10 a11 a12 a13 a14 a15 m_stepsMade m_stepsMost m_taped m_reading m_statements m_telling m_hasImage m_isKeeping m_cursor m_rowMany m_lots m_refused m_bytes m_owner m_block m_written m_waits m_kinds m_tape m_sort m_sortAt m_told m_kept m_was m_ends m_row v4 h6) ⟨(Nat.le_of_ble_eq_true rfl), (Nat.le_of_ble_eq_true rfl), (Nat.le_of_ble_eq_true rfl), (Nat.le_of_ble_eq_true rfl)⟩ 0 rfl rfl [0, 1, 2, 3, 4, 5, 6, 7, 8, 9, 10, 11, 12, 13, 14, 15] rfl rfl rfl (Up.of [] [] rfl rfl rfl 16 rfl (by decide +kernel)) rfl rfl (Nat.le_of_ble_eq_true rfl) ?_
        refine x_istore (pc := 51) (ls2 := [(5, .int (zi r5.1)), (0, .ref a0), (1, .int (zi v1)), (2, .int (zi v2)), (3, .int (zi v3)), (4, .int (zi v4))]) X d_Mod_order_51 (Nat.le_of_ble_eq_true rfl) rfl ?_
        refine x_iload_n (pc := 53) X d_Mod_order_53 3 rfl rfl ?_
        refine x_iflt (pc := 54) (tgt := 66) X d_Mod_order_54 rfl h (fun h => ?_) (fun h => ?_)
        · skip
          refine x_iload (pc := 66) X d_Mod_order_66 5 rfl ?_
          refine x_istore_n (pc := 68) (ls2 := [(2, .int (zi v4)), (5, .int (zi r5.1)), (0, .ref a0), (1, .int (zi v1)), (3, .int (zi v3)), (4, .int (zi v4))]) X d_Mod_order_68 rfl (Nat.le_of_ble_eq_true rfl) rfl ?_
          refine x_iload (pc := 69) X d_Mod_order_69 1 rfl ?_
          refine x_istore_n (pc := 71) (ls2 := [(3, .int (zi r5.1)), (2, .int (zi v4)), (5, .int (zi r5.1)), (0, .ref a0), (1, .int (zi v1)), (4, .int (zi v4))]) X d_Mod_order_71 rfl (Nat.le_of_ble_eq_true rfl) rfl ?_
          refine x_iinc (pc := 72) (ls2 := [(4, .int (zi (v4 + 1))), (3, .int (zi r5.1)), (2, .int (zi v4)), (5, .int (zi r5.1)), (0, .ref a0), (1, .int (zi v1))]) X d_Mod_order_72 5 (Nat.le_of_ble_eq_true rfl) rfl rfl ?_
          refine x_goto (pc := 75) (tgt := 26) X d_Mod_order_75 rfl ?_
          refine x_ls (ls2 := [(0, .ref a0), (1, .int (zi v1)), (2, .int (zi v4)), (3, .int (zi r5.1)), (4, .int (zi (v4 + 1)))]) [4, 5, 2, 1, 0] rfl ?_
          exact ih v1 v4 r5.1 (v4 + 1) r5.2.1 r5.2.2.1 r5.2.2.2.1 r5.2.2.2.2.1 m_refused r5.2.2.2.2.2.1 r5.2.2.2.2.2.2.1 r5.2.2.2.2.2.2.2.1 r5.2.2.2.2.2.2.2.2.1 r5.2.2.2.2.2.2.2.2.2.1 r5.2.2.2.2.2.2.2.2.2.2.1 r5.2.2.2.2.2.2.2.2.2.2.2 o h hR
        · skip
          refine x_iload (pc := 57) X d_Mod_order_57 0 rfl ?_
          refine x_iload_n (pc := 59) X d_Mod_order_59 4 rfl rfl ?_
          refine x_icmplt (pc := 60) (tgt := 66) X d_Mod_order_60 rfl h (fun h => ?_) (fun h => ?_)
          · skip
            refine x_iload (pc := 66) X d_Mod_order_66 5 rfl ?_
            refine x_istore_n (pc := 68) (ls2 := [(2, .int (zi v4)), (5, .int (zi r5.1)), (0, .ref a0), (1, .int (zi v1)), (3, .int (zi v3)), (4, .int (zi v4))]) X d_Mod_order_68 rfl (Nat.le_of_ble_eq_true rfl) rfl ?_
            refine x_iload (pc := 69) X d_Mod_order_69 1 rfl ?_
            refine x_istore_n (pc := 71) (ls2 := [(3, .int (zi r5.1)), (2, .int (zi v4)), (5, .int (zi r5.1)), (0, .ref a0), (1, .int (zi v1)), (4, .int (zi v4))]) X d_Mod_order_71 rfl (Nat.le_of_ble_eq_true rfl) rfl ?_
            refine x_iinc (pc := 72) (ls2 := [(4, .int (zi (v4 + 1))), (3, .int (zi r5.1)), (2, .int (zi v4)), (5, .int (zi r5.1)), (0, .ref a0), (1, .int (zi v1))]) X d_Mod_order_72 5 (Nat.le_of_ble_eq_true rfl) rfl rfl ?_
            refine x_goto (pc := 75) (tgt := 26) X d_Mod_order_75 rfl ?_
            refine x_ls (ls2 := [(0, .ref a0), (1, .int (zi v1)), (2, .int (zi v4)), (3, .int (zi r5.1)), (4, .int (zi (v4 + 1)))]) [4, 5, 2, 1, 0] rfl ?_
            exact ih v1 v4 r5.1 (v4 + 1) r5.2.1 r5.2.2.1 r5.2.2.2.1 r5.2.2.2.2.1 m_refused r5.2.2.2.2.2.1 r5.2.2.2.2.2.2.1 r5.2.2.2.2.2.2.2.1 r5.2.2.2.2.2.2.2.2.1 r5.2.2.2.2.2.2.2.2.2.1 r5.2.2.2.2.2.2.2.2.2.2.1 r5.2.2.2.2.2.2.2.2.2.2.2 o h hR
          · skip
            refine x_goto (pc := 63) (tgt := 72) X d_Mod_order_63 rfl ?_
            refine x_iinc (pc := 72) (ls2 := [(4, .int (zi (v4 + 1))), (5, .int (zi r5.1)), (0, .ref a0), (1, .int (zi v1)), (2, .int (zi v2)), (3, .int (zi v3))]) X d_Mod_order_72 5 (Nat.le_of_ble_eq_true rfl) rfl rfl ?_
            refine x_goto (pc := 75) (tgt := 26) X d_Mod_order_75 rfl ?_
            refine x_ls (ls2 := [(0, .ref a0), (1, .int (zi v1)), (2, .int (zi v2)), (3, .int (zi v3)), (4, .int (zi (v4 + 1)))]) [2, 3, 4, 5, 0] rfl ?_
            exact ih v1 v2 v3 (v4 + 1) r5.2.1 r5.2.2.1 r5.2.2.2.1 r5.2.2.2.2.1 m_refused r5.2.2.2.2.2.1 r5.2.2.2.2.2.2.1 r5.2.2.2.2.2.2.2.1 r5.2.2.2.2.2.2.2.2.1 r5.2.2.2.2.2.2.2.2.2.1 r5.2.2.2.2.2.2.2.2.2.2.1 r5.2.2.2.2.2.2.2.2.2.2.2 o h hR
      · skip
        refine x_goto (pc := 42) (tgt := 72) X d_Mod_order_42 rfl ?_
        refine x_iinc (pc := 72) (ls2 := [(4, .int (zi (v4 + 1))), (0, .ref a0), (1, .int (zi v1)), (2, .int (zi v2)), (3, .int (zi v3))]) X d_Mod_order_72 4 (Nat.le_of_ble_eq_true rfl) rfl rfl ?_
        refine x_goto (pc := 75) (tgt := 26) X d_Mod_order_75 rfl ?_
        refine x_ls (ls2 := [(0, .ref a0), (1, .int (zi v1)), (2, .int (zi v2)), (3, .int (zi v3)), (4, .int (zi (v4 + 1)))]) [1, 2, 3, 4, 0] rfl ?_
        exact ih v1 v2 v3 (v4 + 1) m_stepsMade m_stepsMost m_isKeeping m_cursor m_refused m_bytes m_owner m_block m_written m_waits m_kinds m_kept o h hR
set_option maxHeartbeats 4000000 in
set_option maxRecDepth 100000 in
theorem c_Mod_order (l : Launch) (D : va_G) (cI cB : ClassId) (a0 a1 a2 a3 a4 a5 a6 a7 a8 a9 a10 a11 a12 a13 a14 a15 : Nat) (m_stepsMade : Int) (m_stepsMost : Int) (m_taped : Int) (m_reading : Int) (m_statements : Int) (m_telling : Int) (m_hasImage : Int) (m_isKeeping : Int) (m_cursor : Int) (m_rowMany : Int) (m_lots : Int) (m_refused : Int → Int) (m_bytes : Int → Int) (m_owner : Int → Int) (m_block : Int → Int) (m_written : Int → Int) (m_waits : Int → Int) (m_kinds : Int → Int) (m_tape : Int → Int) (m_sort : Int → Int) (m_sortAt : Int → Int) (m_told : Int → Int) (m_kept : Int → Int) (m_was : Int → Int) (m_ends : Int → Int) (m_row : Int → Int) (x1 : Int) {o : Int × Int × Int × Int × Int × (Int → Int) × (Int → Int) × (Int → Int) × (Int → Int) × (Int → Int) × (Int → Int) × (Int → Int) × (Int → Int)} (h : m_Mod_order x1 m_stepsMade m_stepsMost m_isKeeping m_cursor m_refused m_bytes m_owner m_block m_written m_waits m_kinds m_kept = some o) : Ct l D cI cB y_Mod_order b_Mod_order 6 (some .int) { frames := 7, cells := 0, slots := 0, locals := 164 } [.ref a0, .int (zi x1)] (w_Mod cI cB a0 a1 a2 a3 a4 a5 a6 a7 a8 a9 a10 a11 a12 a13 a14 a15 m_stepsMade m_stepsMost m_taped m_reading m_statements m_telling m_hasImage m_isKeeping m_cursor m_rowMany m_lots m_refused m_bytes m_owner m_block m_written m_waits m_kinds m_tape m_sort m_sortAt m_told m_kept m_was m_ends m_row) (w_Mod cI cB a0 a1 a2 a3 a4 a5 a6 a7 a8 a9 a10 a11 a12 a13 a14 a15 o.2.1 o.2.2.1 m_taped m_reading m_statements m_telling m_hasImage o.2.2.2.1 o.2.2.2.2.1 m_rowMany m_lots o.2.2.2.2.2.1 o.2.2.2.2.2.2.1 o.2.2.2.2.2.2.2.1 o.2.2.2.2.2.2.2.2.1 o.2.2.2.2.2.2.2.2.2.1 o.2.2.2.2.2.2.2.2.2.2.1 o.2.2.2.2.2.2.2.2.2.2.2.1 m_tape m_sort m_sortAt m_told o.2.2.2.2.2.2.2.2.2.2.2.2 m_was m_ends m_row) (some (.int (zi o.1))) := by
  refine Ct.start (by decide) (Nat.le_of_ble_eq_true rfl) (fun G X hR => ?_)
  refine x_ls (ls2 := [(0, .ref a0), (1, .int (zi x1))]) [0, 1] rfl ?_
  unfold m_Mod_order at h
  refine x_iload_n (pc := 0) X d_Mod_order_0 1 rfl rfl ?_
  refine x_iconst (pc := 1) X d_Mod_order_1  ?_
  refine x_iconst (pc := 2) X d_Mod_order_2  ?_
  obtain ⟨r1, h2, h⟩ := bnd_e h
  refine x_callS (pc := 3) (As := [.int (zi x1), .int (zi 0), .int (zi 1)]) (rest := []) (w2 := (w_Mod cI cB a0 a1 a2 a3 a4 a5 a6 a7 a8 a9 a10 a11 a12 a13 a14 a15 m_stepsMade m_stepsMost m_taped m_reading m_statements m_telling m_hasImage m_isKeeping m_cursor m_rowMany m_lots m_refused m_bytes m_owner m_block m_written m_waits m_kinds m_tape m_sort m_sortAt m_told m_kept m_was m_ends m_row)) X d_Mod_order_3 lk_Mod_58 mv_Mod_isIn (c_Mod_isIn l D cI cB x1 0 1 h2) ⟨(Nat.le_of_ble_eq_true rfl), (Nat.le_of_ble_eq_true rfl), (Nat.le_of_ble_eq_true rfl), (Nat.le_of_ble_eq_true rfl)⟩ [] rfl rfl rfl (Up.same rfl) rfl rfl (Nat.le_of_ble_eq_true rfl) ?_
  refine x_ifne (pc := 6) (tgt := 16) X d_Mod_order_6 rfl h (fun h => ?_) (fun h => ?_)
  · skip
    refine x_bipush (pc := 16) (v := -9) X d_Mod_order_16 rfl ?_
    refine x_istore_n (pc := 18) (ls2 := [(2, .int (zi (-9))), (0, .ref a0), (1, .int (zi x1))]) X d_Mod_order_18 rfl (Nat.le_of_ble_eq_true rfl) rfl ?_
    refine x_iconst (pc := 19) X d_Mod_order_19  ?_
    refine x_istore_n (pc := 20) (ls2 := [(3, .int (zi 0)), (2, .int (zi (-9))), (0, .ref a0), (1, .int (zi x1))]) X d_Mod_order_20 rfl (Nat.le_of_ble_eq_true rfl) rfl ?_
    refine x_sipush (pc := 21) (v := 1234) X d_Mod_order_21 (by decide +kernel) ?_
    refine x_istore (pc := 24) (ls2 := [(4, .int (zi 1234)), (3, .int (zi 0)), (2, .int (zi (-9))), (0, .ref a0), (1, .int (zi x1))]) X d_Mod_order_24 (Nat.le_of_ble_eq_true rfl) rfl ?_
    refine x_ls (ls2 := [(0, .ref a0), (1, .int (zi x1)), (2, .int (zi (-9))), (3, .int (zi 0)), (4, .int (zi 1234))]) [3, 4, 2, 1, 0] rfl ?_
    exact l_Mod_order_26 X 5000 x1 (-9) 0 1234 m_stepsMade m_stepsMost m_isKeeping m_cursor m_refused m_bytes m_owner m_block m_written m_waits m_kinds m_kept o h hR
  · skip
    refine x_aload_n (pc := 9) X d_Mod_order_9 0 rfl rfl ?_
    refine x_bipush (pc := 10) (v := -2) X d_Mod_order_10 rfl ?_
    obtain ⟨r7, h8, h⟩ := bnd_e h
    refine x_callV (pc := 12) (As := [.int (zi (-2))]) (rest := []) (w2 := (w_Mod cI cB a0 a1 a2 a3 a4 a5 a6 a7 a8 a9 a10 a11 a12 a13 a14 a15 m_stepsMade m_stepsMost m_taped m_reading m_statements m_telling m_hasImage m_isKeeping m_cursor m_rowMany m_lots r7.2 m_bytes m_owner m_block m_written m_waits m_kinds m_tape m_sort m_sortAt m_told m_kept m_was m_ends m_row)) X d_Mod_order_12 lk_Mod_172 mv_Mod_no (c_Mod_no l D cI cB a0 a1 a2 a3 a4 a5 a6 a7 a8 a9 a10 a11 a12 a13 a14 a15 m_stepsMade m_stepsMost m_taped m_reading m_statements m_telling m_hasImage m_isKeeping m_cursor m_rowMany m_lots m_refused m_bytes m_owner m_block m_written m_waits m_kinds m_tape m_sort m_sortAt m_told m_kept m_was m_ends m_row (-2) h8) ⟨(Nat.le_of_ble_eq_true rfl), (Nat.le_of_ble_eq_true rfl), (Nat.le_of_ble_eq_true rfl), (Nat.le_of_ble_eq_true rfl)⟩ 0 rfl rfl [0, 1, 2, 3, 4, 5, 6, 7, 8, 9, 10, 11, 12, 13, 14, 15] rfl rfl rfl (Up.of [] [] rfl rfl rfl 16 rfl (by decide +kernel)) rfl rfl (Nat.le_of_ble_eq_true rfl) ?_
    cases h
    exact x_iret (pc := 15) X hR d_Mod_order_15
theorem d_Mod_stepsOf_0 : decode b_Mod_stepsOf 0 = .ok (.aload_n 0, 1) := by decide +kernel
theorem d_Mod_stepsOf_1 : decode b_Mod_stepsOf 1 = .ok (.invokevirtual 291, 3) := by decide +kernel
theorem d_Mod_stepsOf_4 : decode b_Mod_stepsOf 4 = .ok (.aload_n 0, 1) := by decide +kernel
theorem d_Mod_stepsOf_5 : decode b_Mod_stepsOf 5 = .ok (.iload_n 1, 1) := by decide +kernel
theorem d_Mod_stepsOf_6 : decode b_Mod_stepsOf 6 = .ok (.ldc 165, 2) := by decide +kernel
theorem d_Mod_stepsOf_8 : decode b_Mod_stepsOf 8 = .ok (.invokevirtual 150, 3) := by decide +kernel
theorem d_Mod_stepsOf_11 : decode b_Mod_stepsOf 11 = .ok (.istore_n 2, 1) := by decide +kernel
theorem d_Mod_stepsOf_12 : decode b_Mod_stepsOf 12 = .ok (.aload_n 0, 1) := by decide +kernel
theorem d_Mod_stepsOf_13 : decode b_Mod_stepsOf 13 = .ok (.invokevirtual 294, 3) := by decide +kernel
theorem d_Mod_stepsOf_16 : decode b_Mod_stepsOf 16 = .ok (.iload_n 2, 1) := by decide +kernel
theorem d_Mod_stepsOf_17 : decode b_Mod_stepsOf 17 = .ok (.ireturn, 1) := by decide +kernel
def m_Mod_stepsOf (x1 : Int) (m_stepsMade : Int) (m_stepsMost : Int) (m_isKeeping : Int) (m_cursor : Int) (m_bytes : Int → Int) (m_owner : Int → Int) (m_block : Int → Int) (m_written : Int → Int) (m_waits : Int → Int) (m_kinds : Int → Int) (m_kept : Int → Int) : Option (Int × Int × Int × Int × Int × (Int → Int) × (Int → Int) × (Int → Int) × (Int → Int) × (Int → Int) × (Int → Int) × (Int → Int)) :=
  bnd (m_Mod_minds m_isKeeping m_cursor m_bytes m_owner m_block m_written m_waits m_kinds m_kept) (fun r1 => bnd (m_Mod_flushes x1 1000000 m_stepsMade m_stepsMost r1.2.2.1 r1.2.2.2.1 r1.2.2.2.2.1 r1.2.2.2.2.2.1 r1.2.2.2.2.2.2.1 r1.2.2.2.2.2.2.2.1) (fun r3 => bnd (m_Mod_forgets r1.1 r1.2.1 r3.2.2.2.1 r3.2.2.2.2.1 r3.2.2.2.2.2.1 r3.2.2.2.2.2.2.1 r3.2.2.2.2.2.2.2 r1.2.2.2.2.2.2.2.1 r1.2.2.2.2.2.2.2.2) (fun r5 => some (r3.1, r3.2.1, r3.2.2.1, r5.1, r5.2.1, r5.2.2.1, r5.2.2.2.1, r5.2.2.2.2.1, r5.2.2.2.2.2.1, r5.2.2.2.2.2.2.1, r5.2.2.2.2.2.2.2.1, r5.2.2.2.2.2.2.2.2))))
set_option maxHeartbeats 4000000 in
set_option maxRecDepth 100000 in
theorem c_Mod_stepsOf (l : Launch) (D : va_G) (cI cB : ClassId) (a0 a1 a2 a3 a4 a5 a6 a7 a8 a9 a10 a11 a12 a13 a14 a15 : Nat) (m_stepsMade : Int) (m_stepsMost : Int) (m_taped : Int) (m_reading : Int) (m_statements : Int) (m_telling : Int) (m_hasImage : Int) (m_isKeeping : Int) (m_cursor : Int) (m_rowMany : Int) (m_lots : Int) (m_refused : Int → Int) (m_bytes : Int → Int) (m_owner : Int → Int) (m_block : Int → Int) (m_written : Int → Int) (m_waits : Int → Int) (m_kinds : Int → Int) (m_tape : Int → Int) (m_sort : Int → Int) (m_sortAt : Int → Int) (m_told : Int → Int) (m_kept : Int → Int) (m_was : Int → Int) (m_ends : Int → Int) (m_row : Int → Int) (x1 : Int) {o : Int × Int × Int × Int × Int × (Int → Int) × (Int → Int) × (Int → Int) × (Int → Int) × (Int → Int) × (Int → Int) × (Int → Int)} (h : m_Mod_stepsOf x1 m_stepsMade m_stepsMost m_isKeeping m_cursor m_bytes m_owner m_block m_written m_waits m_kinds m_kept = some o) : Ct l D cI cB y_Mod_stepsOf b_Mod_stepsOf 3 (some .int) { frames := 6, cells := 0, slots := 0, locals := 142 } [.ref a0, .int (zi x1)] (w_Mod cI cB a0 a1 a2 a3 a4 a5 a6 a7 a8 a9 a10 a11 a12 a13 a14 a15 m_stepsMade m_stepsMost m_taped m_reading m_statements m_telling m_hasImage m_isKeeping m_cursor m_rowMany m_lots m_refused m_bytes m_owner m_block m_written m_waits m_kinds m_tape m_sort m_sortAt m_told m_kept m_was m_ends m_row) (w_Mod cI cB a0 a1 a2 a3 a4 a5 a6 a7 a8 a9 a10 a11 a12 a13 a14 a15 o.2.1 o.2.2.1 m_taped m_reading m_statements m_telling m_hasImage o.2.2.2.1 o.2.2.2.2.1 m_rowMany m_lots m_refused o.2.2.2.2.2.1 o.2.2.2.2.2.2.1 o.2.2.2.2.2.2.2.1 o.2.2.2.2.2.2.2.2.1 o.2.2.2.2.2.2.2.2.2.1 o.2.2.2.2.2.2.2.2.2.2.1 m_tape m_sort m_sortAt m_told o.2.2.2.2.2.2.2.2.2.2.2 m_was m_ends m_row) (some (.int (zi o.1))) := by
  refine Ct.start (by decide) (Nat.le_of_ble_eq_true rfl) (fun G X hR => ?_)
  refine x_ls (ls2 := [(0, .ref a0), (1, .int (zi x1))]) [0, 1] rfl ?_
  unfold m_Mod_stepsOf at h
  refine x_aload_n (pc := 0) X d_Mod_stepsOf_0 0 rfl rfl ?_
  obtain ⟨r1, h2, h⟩ := bnd_e h
  refine x_callV (pc := 1) (As := []) (rest := []) (w2 := (w_Mod cI cB a0 a1 a2 a3 a4 a5 a6 a7 a8 a9 a10 a11 a12 a13 a14 a15 m_stepsMade m_stepsMost m_taped m_reading m_statements m_telling m_hasImage r1.1 r1.2.1 m_rowMany m_lots m_refused r1.2.2.1 r1.2.2.2.1 r1.2.2.2.2.1 r1.2.2.2.2.2.1 r1.2.2.2.2.2.2.1 r1.2.2.2.2.2.2.2.1 m_tape m_sort m_sortAt m_told r1.2.2.2.2.2.2.2.2 m_was m_ends m_row)) X d_Mod_stepsOf_1 lk_Mod_291 mv_Mod_minds (c_Mod_minds l D cI cB a0 a1 a2 a3 a4 a5 a6 a7 a8 a9 a10 a11 a12 a13 a14 a15 m_stepsMade m_stepsMost m_taped m_reading m_statements m_telling m_hasImage m_isKeeping m_cursor m_rowMany m_lots m_refused m_bytes m_owner m_block m_written m_waits m_kinds m_tape m_sort m_sortAt m_told m_kept m_was m_ends m_row h2) ⟨(Nat.le_of_ble_eq_true rfl), (Nat.le_of_ble_eq_true rfl), (Nat.le_of_ble_eq_true rfl), (Nat.le_of_ble_eq_true rfl)⟩ 0 rfl rfl [0, 1, 2, 3, 4, 5, 6, 7, 8, 9, 10, 11, 12, 13, 14, 15] rfl rfl rfl (Up.of [] [] rfl rfl rfl 16 rfl (by decide +kernel)) rfl rfl (Nat.le_of_ble_eq_true rfl) ?_
  refine x_aload_n (pc := 4) X d_Mod_stepsOf_4 0 rfl rfl ?_
  refine x_iload_n (pc := 5) X d_Mod_stepsOf_5 1 rfl rfl ?_
  refine x_ldc (pc := 6) X d_Mod_stepsOf_6 cw_Mod_165 cg_Mod_165 ?_
  obtain ⟨r3, h4, h⟩ := bnd_e h
  refine x_callV (pc := 8) (As := [.int (zi x1), .int (zi 1000000)]) (rest := []) (w2 := (w_Mod cI cB a0 a1 a2 a3 a4 a5 a6 a7 a8 a9 a10 a11 a12 a13 a14 a15 r3.2.1 r3.2.2.1 m_taped m_reading m_statements m_telling m_hasImage r1.1 r1.2.1 m_rowMany m_lots m_refused r3.2.2.2.1 r3.2.2.2.2.1 r3.2.2.2.2.2.1 r3.2.2.2.2.2.2.1 r3.2.2.2.2.2.2.2 r1.2.2.2.2.2.2.2.1 m_tape m_sort m_sortAt m_told r1.2.2.2.2.2.2.2.2 m_was m_ends m_row)) X d_Mod_stepsOf_8 lk_Mod_150 mv_Mod_flushes (c_Mod_flushes l D cI cB a0 a1 a2 a3 a4 a5 a6 a7 a8 a9 a10 a11 a12 a13 a14 a15 m_stepsMade m_stepsMost m_taped m_reading m_statements m_telling m_hasImage r1.1 r1.2.1 m_rowMany m_lots m_refused r1.2.2.1 r1.2.2.2.1 r1.2.2.2.2.1 r1.2.2.2.2.2.1 r1.2.2.2.2.2.2.1 r1.2.2.2.2.2.2.2.1 m_tape m_sort m_sortAt m_told r1.2.2.2.2.2.2.2.2 m_was m_ends m_row x1 1000000 h4) ⟨(Nat.le_of_ble_eq_true rfl), (Nat.le_of_ble_eq_true rfl), (Nat.le_of_ble_eq_true rfl), (Nat.le_of_ble_eq_true rfl)⟩ 0 rfl rfl [0, 1, 2, 3, 4, 5, 6, 7, 8, 9, 10, 11, 12, 13, 14, 15] rfl rfl rfl (Up.of [] [] rfl rfl rfl 16 rfl (by decide +kernel)) rfl rfl (Nat.le_of_ble_eq_true rfl) ?_
  refine x_istore_n (pc := 11) (ls2 := [(2, .int (zi r3.1)), (0, .ref a0), (1, .int (zi x1))]) X d_Mod_stepsOf_11 rfl (Nat.le_of_ble_eq_true rfl) rfl ?_
  refine x_aload_n (pc := 12) X d_Mod_stepsOf_12 1 rfl rfl ?_
  obtain ⟨r5, h6, h⟩ := bnd_e h
  refine x_callV (pc := 13) (As := []) (rest := []) (w2 := (w_Mod cI cB a0 a1 a2 a3 a4 a5 a6 a7 a8 a9 a10 a11 a12 a13 a14 a15 r3.2.1 r3.2.2.1 m_taped m_reading m_statements m_telling m_hasImage r5.1 r5.2.1 m_rowMany m_lots m_refused r5.2.2.1 r5.2.2.2.1 r5.2.2.2.2.1 r5.2.2.2.2.2.1 r5.2.2.2.2.2.2.1 r5.2.2.2.2.2.2.2.1 m_tape m_sort m_sortAt m_told r5.2.2.2.2.2.2.2.2 m_was m_ends m_row)) X d_Mod_stepsOf_13 lk_Mod_294 mv_Mod_forgets (c_Mod_forgets l D cI cB a0 a1 a2 a3 a4 a5 a6 a7 a8 a9 a10 a11 a12 a13 a14 a15 r3.2.1 r3.2.2.1 m_taped m_reading m_statements m_telling m_hasImage r1.1 r1.2.1 m_rowMany m_lots m_refused r3.2.2.2.1 r3.2.2.2.2.1 r3.2.2.2.2.2.1 r3.2.2.2.2.2.2.1 r3.2.2.2.2.2.2.2 r1.2.2.2.2.2.2.2.1 m_tape m_sort m_sortAt m_told r1.2.2.2.2.2.2.2.2 m_was m_ends m_row h6) ⟨(Nat.le_of_ble_eq_true rfl), (Nat.le_of_ble_eq_true rfl), (Nat.le_of_ble_eq_true rfl), (Nat.le_of_ble_eq_true rfl)⟩ 0 rfl rfl [0, 1, 2, 3, 4, 5, 6, 7, 8, 9, 10, 11, 12, 13, 14, 15] rfl rfl rfl (Up.of [] [] rfl rfl rfl 16 rfl (by decide +kernel)) rfl rfl (Nat.le_of_ble_eq_true rfl) ?_
  refine x_iload_n (pc := 16) X d_Mod_stepsOf_16 0 rfl rfl ?_
  cases h
  exact x_iret (pc := 17) X hR d_Mod_stepsOf_17
theorem d_Mod_steps_0 : decode b_Mod_steps 0 = .ok (.iload_n 1, 1) := by decide +kernel
theorem d_Mod_steps_1 : decode b_Mod_steps 1 = .ok (.invokestatic 230, 3) := by decide +kernel
theorem d_Mod_steps_4 : decode b_Mod_steps 4 = .ok (.ifCond .eq 11, 3) := by decide +kernel
theorem d_Mod_steps_7 : decode b_Mod_steps 7 = .ok (.aload_n 0, 1) := by decide +kernel
theorem d_Mod_steps_8 : decode b_Mod_steps 8 = .ok (.iload_n 1, 1) := by decide +kernel
theorem d_Mod_steps_9 : decode b_Mod_steps 9 = .ok (.invokevirtual 309, 3) := by decide +kernel
theorem d_Mod_steps_12 : decode b_Mod_steps 12 = .ok (.goto 8, 3) := by decide +kernel
theorem d_Mod_steps_15 : decode b_Mod_steps 15 = .ok (.aload_n 0, 1) := by decide +kernel
theorem d_Mod_steps_16 : decode b_Mod_steps 16 = .ok (.iconst (-1), 1) := by decide +kernel
theorem d_Mod_steps_17 : decode b_Mod_steps 17 = .ok (.invokevirtual 172, 3) := by decide +kernel
theorem d_Mod_steps_20 : decode b_Mod_steps 20 = .ok (.ireturn, 1) := by decide +kernel
def m_Mod_steps (x1 : Int) (m_stepsMade : Int) (m_stepsMost : Int) (m_isKeeping : Int) (m_cursor : Int) (m_refused : Int → Int) (m_bytes : Int → Int) (m_owner : Int → Int) (m_block : Int → Int) (m_written : Int → Int) (m_waits : Int → Int) (m_kinds : Int → Int) (m_kept : Int → Int) : Option (Int × Int × Int × Int × Int × (Int → Int) × (Int → Int) × (Int → Int) × (Int → Int) × (Int → Int) × (Int → Int) × (Int → Int) × (Int → Int)) :=
  bnd (m_Mod_isFile x1) (fun r1 => ceq r1 0 (bnd (m_Mod_no (-1) m_refused) (fun r3 => some (r3.1, m_stepsMade, m_stepsMost, m_isKeeping, m_cursor, r3.2, m_bytes, m_owner, m_block, m_written, m_waits, m_kinds, m_kept))) (bnd (m_Mod_stepsOf x1 m_stepsMade m_stepsMost m_isKeeping m_cursor m_bytes m_owner m_block m_written m_waits m_kinds m_kept) (fun r5 => some (r5.1, r5.2.1, r5.2.2.1, r5.2.2.2.1, r5.2.2.2.2.1, m_refused, r5.2.2.2.2.2.1, r5.2.2.2.2.2.2.1, r5.2.2.2.2.2.2.2.1, r5.2.2.2.2.2.2.2.2.1, r5.2.2.2.2.2.2.2.2.2.1, r5.2.2.2.2.2.2.2.2.2.2.1, r5.2.2.2.2.2.2.2.2.2.2.2))))
set_option maxHeartbeats 4000000 in
set_option maxRecDepth 100000 in
theorem c_Mod_steps (l : Launch) (D : va_G) (cI cB : ClassId) (a0 a1 a2 a3 a4 a5 a6 a7 a8 a9 a10 a11 a12 a13 a14 a15 : Nat) (m_stepsMade : Int) (m_stepsMost : Int) (m_taped : Int) (m_reading : Int) (m_statements : Int) (m_telling : Int) (m_hasImage : Int) (m_isKeeping : Int) (m_cursor : Int) (m_rowMany : Int) (m_lots : Int) (m_refused : Int → Int) (m_bytes : Int → Int) (m_owner : Int → Int) (m_block : Int → Int) (m_written : Int → Int) (m_waits : Int → Int) (m_kinds : Int → Int) (m_tape : Int → Int) (m_sort : Int → Int) (m_sortAt : Int → Int) (m_told : Int → Int) (m_kept : Int → Int) (m_was : Int → Int) (m_ends : Int → Int) (m_row : Int → Int) (x1 : Int) {o : Int × Int × Int × Int × Int × (Int → Int) × (Int → Int) × (Int → Int) × (Int → Int) × (Int → Int) × (Int → Int) × (Int → Int) × (Int → Int)} (h : m_Mod_steps x1 m_stepsMade m_stepsMost m_isKeeping m_cursor m_refused m_bytes m_owner m_block m_written m_waits m_kinds m_kept = some o) : Ct l D cI cB y_Mod_steps b_Mod_steps 2 (some .int) { frames := 7, cells := 0, slots := 0, locals := 164 } [.ref a0, .int (zi x1)] (w_Mod cI cB a0 a1 a2 a3 a4 a5 a6 a7 a8 a9 a10 a11 a12 a13 a14 a15 m_stepsMade m_stepsMost m_taped m_reading m_statements m_telling m_hasImage m_isKeeping m_cursor m_rowMany m_lots m_refused m_bytes m_owner m_block m_written m_waits m_kinds m_tape m_sort m_sortAt m_told m_kept m_was m_ends m_row) (w_Mod cI cB a0 a1 a2 a3 a4 a5 a6 a7 a8 a9 a10 a11 a12 a13 a14 a15 o.2.1 o.2.2.1 m_taped m_reading m_statements m_telling m_hasImage o.2.2.2.1 o.2.2.2.2.1 m_rowMany m_lots o.2.2.2.2.2.1 o.2.2.2.2.2.2.1 o.2.2.2.2.2.2.2.1 o.2.2.2.2.2.2.2.2.1 o.2.2.2.2.2.2.2.2.2.1 o.2.2.2.2.2.2.2.2.2.2.1 o.2.2.2.2.2.2.2.2.2.2.2.1 m_tape m_sort m_sortAt m_told o.2.2.2.2.2.2.2.2.2.2.2.2 m_was m_ends m_row) (some (.int (zi o.1))) := by
  refine Ct.start (by decide) (Nat.le_of_ble_eq_true rfl) (fun G X hR => ?_)
  refine x_ls (ls2 := [(0, .ref a0), (1, .int (zi x1))]) [0, 1] rfl ?_
  unfold m_Mod_steps at h
  refine x_iload_n (pc := 0) X d_Mod_steps_0 1 rfl rfl ?_
  obtain ⟨r1, h2, h⟩ := bnd_e h
  refine x_callS (pc := 1) (As := [.int (zi x1)]) (rest := []) (w2 := (w_Mod cI cB a0 a1 a2 a3 a4 a5 a6 a7 a8 a9 a10 a11 a12 a13 a14 a15 m_stepsMade m_stepsMost m_taped m_reading m_statements m_telling m_hasImage m_isKeeping m_cursor m_rowMany m_lots m_refused m_bytes m_owner m_block m_written m_waits m_kinds m_tape m_sort m_sortAt m_told m_kept m_was m_ends m_row)) X d_Mod_steps_1 lk_Mod_230 mv_Mod_isFile (c_Mod_isFile l D cI cB x1 h2) ⟨(Nat.le_of_ble_eq_true rfl), (Nat.le_of_ble_eq_true rfl), (Nat.le_of_ble_eq_true rfl), (Nat.le_of_ble_eq_true rfl)⟩ [] rfl rfl rfl (Up.same rfl) rfl rfl (Nat.le_of_ble_eq_true rfl) ?_
  refine x_ifeq (pc := 4) (tgt := 15) X d_Mod_steps_4 rfl h (fun h => ?_) (fun h => ?_)
  · skip
    refine x_aload_n (pc := 15) X d_Mod_steps_15 0 rfl rfl ?_
    refine x_iconst (pc := 16) X d_Mod_steps_16  ?_
    obtain ⟨r3, h4, h⟩ := bnd_e h
    refine x_callV (pc := 17) (As := [.int (zi (-1))]) (rest := []) (w2 := (w_Mod cI cB a0 a1 a2 a3 a4 a5 a6 a7 a8 a9 a10 a11 a12 a13 a14 a15 m_stepsMade m_stepsMost m_taped m_reading m_statements m_telling m_hasImage m_isKeeping m_cursor m_rowMany m_lots r3.2 m_bytes m_owner m_block m_written m_waits m_kinds m_tape m_sort m_sortAt m_told m_kept m_was m_ends m_row)) X d_Mod_steps_17 lk_Mod_172 mv_Mod_no (c_Mod_no l D cI cB a0 a1 a2 a3 a4 a5 a6 a7 a8 a9 a10 a11 a12 a13 a14 a15 m_stepsMade m_stepsMost m_taped m_reading m_statements m_telling m_hasImage m_isKeeping m_cursor m_rowMany m_lots m_refused m_bytes m_owner m_block m_written m_waits m_kinds m_tape m_sort m_sortAt m_told m_kept m_was m_ends m_row (-1) h4) ⟨(Nat.le_of_ble_eq_true rfl), (Nat.le_of_ble_eq_true rfl), (Nat.le_of_ble_eq_true rfl), (Nat.le_of_ble_eq_true rfl)⟩ 0 rfl rfl [0, 1, 2, 3, 4, 5, 6, 7, 8, 9, 10, 11, 12, 13, 14, 15] rfl rfl rfl (Up.of [] [] rfl rfl rfl 16 rfl (by decide +kernel)) rfl rfl (Nat.le_of_ble_eq_true rfl) ?_
    cases h
    exact x_iret (pc := 20) X hR d_Mod_steps_20
  · skip
    refine x_aload_n (pc := 7) X d_Mod_steps_7 0 rfl rfl ?_
    refine x_iload_n (pc := 8) X d_Mod_steps_8 1 rfl rfl ?_
    obtain ⟨r5, h6, h⟩ := bnd_e h
    refine x_callV (pc := 9) (As := [.int (zi x1)]) (rest := []) (w2 := (w_Mod cI cB a0 a1 a2 a3 a4 a5 a6 a7 a8 a9 a10 a11 a12 a13 a14 a15 r5.2.1 r5.2.2.1 m_taped m_reading m_statements m_telling m_hasImage r5.2.2.2.1 r5.2.2.2.2.1 m_rowMany m_lots m_refused r5.2.2.2.2.2.1 r5.2.2.2.2.2.2.1 r5.2.2.2.2.2.2.2.1 r5.2.2.2.2.2.2.2.2.1 r5.2.2.2.2.2.2.2.2.2.1 r5.2.2.2.2.2.2.2.2.2.2.1 m_tape m_sort m_sortAt m_told r5.2.2.2.2.2.2.2.2.2.2.2 m_was m_ends m_row)) X d_Mod_steps_9 lk_Mod_309 mv_Mod_stepsOf (c_Mod_stepsOf l D cI cB a0 a1 a2 a3 a4 a5 a6 a7 a8 a9 a10 a11 a12 a13 a14 a15 m_stepsMade m_stepsMost m_taped m_reading m_statements m_telling m_hasImage m_isKeeping m_cursor m_rowMany m_lots m_refused m_bytes m_owner m_block m_written m_waits m_kinds m_tape m_sort m_sortAt m_told m_kept m_was m_ends m_row x1 h6) ⟨(Nat.le_of_ble_eq_true rfl), (Nat.le_of_ble_eq_true rfl), (Nat.le_of_ble_eq_true rfl), (Nat.le_of_ble_eq_true rfl)⟩ 0 rfl rfl [0, 1, 2, 3, 4, 5, 6, 7, 8, 9, 10, 11, 12, 13, 14, 15] rfl rfl rfl (Up.of [] [] rfl rfl rfl 16 rfl (by decide +kernel)) rfl rfl (Nat.le_of_ble_eq_true rfl) ?_
    refine x_goto (pc := 12) (tgt := 20) X d_Mod_steps_12 rfl ?_
    cases h
    exact x_iret (pc := 20) X hR d_Mod_steps_20
theorem d_Mod_remembers_0 : decode b_Mod_remembers 0 = .ok (.iconst 0, 1) := by decide +kernel
theorem d_Mod_remembers_1 : decode b_Mod_remembers 1 = .ok (.istore_n 1, 1) := by decide +kernel
theorem d_Mod_remembers_2 : decode b_Mod_remembers 2 = .ok (.iload_n 1, 1) := by decide +kernel
theorem d_Mod_remembers_3 : decode b_Mod_remembers 3 = .ok (.bipush 96, 2) := by decide +kernel
theorem d_Mod_remembers_5 : decode b_Mod_remembers 5 = .ok (.if_icmp .ge 20, 3) := by decide +kernel
theorem d_Mod_remembers_8 : decode b_Mod_remembers 8 = .ok (.aload_n 0, 1) := by decide +kernel
theorem d_Mod_remembers_9 : decode b_Mod_remembers 9 = .ok (.getfield 46, 3) := by decide +kernel
theorem d_Mod_remembers_12 : decode b_Mod_remembers 12 = .ok (.iload_n 1, 1) := by decide +kernel
theorem d_Mod_remembers_13 : decode b_Mod_remembers 13 = .ok (.aload_n 0, 1) := by decide +kernel
theorem d_Mod_remembers_14 : decode b_Mod_remembers 14 = .ok (.iload_n 1, 1) := by decide +kernel
theorem d_Mod_remembers_15 : decode b_Mod_remembers 15 = .ok (.invokevirtual 282, 3) := by decide +kernel
theorem d_Mod_remembers_18 : decode b_Mod_remembers 18 = .ok (.iastore, 1) := by decide +kernel
theorem d_Mod_remembers_19 : decode b_Mod_remembers 19 = .ok (.iinc 1 1, 3) := by decide +kernel
theorem d_Mod_remembers_22 : decode b_Mod_remembers 22 = .ok (.goto (-20), 3) := by decide +kernel
theorem d_Mod_remembers_25 : decode b_Mod_remembers 25 = .ok (.return_, 1) := by decide +kernel
def m_Mod_remembers_2 : Nat → Int → (Int → Int) → (Int → Int) → (Int → Int) → (Int → Int) → (Int → Int) → Option ((Int → Int))
  | 0, _, _, _, _, _, _ => none
  | fuel + 1, v1, m_bytes, m_block, m_written, m_waits, m_was =>
  clt v1 96 (bnd (m_Mod_readAt v1 m_bytes m_block m_written m_waits) (fun r1 => gd (zx v1 96) (m_Mod_remembers_2 fuel (v1 + 1) m_bytes m_block m_written m_waits (uf m_was v1 r1)))) (some (m_was))
def m_Mod_remembers  (m_bytes : Int → Int) (m_block : Int → Int) (m_written : Int → Int) (m_waits : Int → Int) (m_was : Int → Int) : Option ((Int → Int)) :=
  m_Mod_remembers_2 5000 0 m_bytes m_block m_written m_waits m_was
set_option maxHeartbeats 4000000 in
set_option maxRecDepth 100000 in
theorem l_Mod_remembers_2 {G : GT} {l : Launch} {D : va_G} {cI cB : ClassId} {a0 a1 a2 a3 a4 a5 a6 a7 a8 a9 a10 a11 a12 a13 a14 a15 : Nat} {m_stepsMade : Int} {m_stepsMost : Int} {m_taped : Int} {m_reading : Int} {m_statements : Int} {m_telling : Int} {m_hasImage : Int} {m_isKeeping : Int} {m_cursor : Int} {m_rowMany : Int} {m_lots : Int} {m_refused : Int → Int} {m_owner : Int → Int} {m_kinds : Int → Int} {m_tape : Int → Int} {m_sort : Int → Int} {m_sortAt : Int → Int} {m_told : Int → Int} {m_kept : Int → Int} {m_ends : Int → Int} {m_row : Int → Int} (X : Cx G l D cI cB b_Mod_remembers y_Mod_remembers.cls 2 { frames := 2, cells := 0, slots := 0, locals := 42 }) : ∀ (fuel : Nat) (v1 : Int) (m_bytes : Int → Int) (m_block : Int → Int) (m_written : Int → Int) (m_waits : Int → Int) (m_was : Int → Int) (o : (Int → Int)), m_Mod_remembers_2 fuel v1 m_bytes m_block m_written m_waits m_was = some o → Rt G none none (w_Mod cI cB a0 a1 a2 a3 a4 a5 a6 a7 a8 a9 a10 a11 a12 a13 a14 a15 m_stepsMade m_stepsMost m_taped m_reading m_statements m_telling m_hasImage m_isKeeping m_cursor m_rowMany m_lots m_refused m_bytes m_owner m_block m_written m_waits m_kinds m_tape m_sort m_sortAt m_told m_kept o m_ends m_row) → Wx G 0 0 2 [(0, .ref a0), (1, .int (zi v1))] [] (w_Mod cI cB a0 a1 a2 a3 a4 a5 a6 a7 a8 a9 a10 a11 a12 a13 a14 a15 m_stepsMade m_stepsMost m_taped m_reading m_statements m_telling m_hasImage m_isKeeping m_cursor m_rowMany m_lots m_refused m_bytes m_owner m_block m_written m_waits m_kinds m_tape m_sort m_sortAt m_told m_kept m_was m_ends m_row) := by
  intro fuel
  induction fuel with
  | zero =>
    intro v1 m_bytes m_block m_written m_waits m_was o h
    exact absurd h (by simp [m_Mod_remembers_2])
  | succ fuel ih =>
    intro v1 m_bytes m_block m_written m_waits m_was o h hR
    rw [m_Mod_remembers_2] at h
    refine x_iload_n (pc := 2) X d_Mod_remembers_2 1 rfl rfl ?_
    refine x_bipush (pc := 3) (v := 96) X d_Mod_remembers_3 rfl ?_
    refine x_icmpge (pc := 5) (tgt := 25) X d_Mod_remembers_5 rfl h (fun h => ?_) (fun h => ?_)
    · skip
      cases h
      exact x_vret (pc := 25) X hR d_Mod_remembers_25
    · skip
      refine x_aload_n (pc := 8) X d_Mod_remembers_8 0 rfl rfl ?_
      refine x_get (pc := 9) X d_Mod_remembers_9 0 rfl fl_Mod_46 rfl ?_
      refine x_iload_n (pc := 12) X d_Mod_remembers_12 1 rfl rfl ?_
      refine x_aload_n (pc := 13) X d_Mod_remembers_13 0 rfl rfl ?_
      refine x_iload_n (pc := 14) X d_Mod_remembers_14 1 rfl rfl ?_
      obtain ⟨r1, h2, h⟩ := bnd_e h
      refine x_callV (pc := 15) (As := [.int (zi v1)]) (rest := [.int (zi v1), .ref a13]) (w2 := (w_Mod cI cB a0 a1 a2 a3 a4 a5 a6 a7 a8 a9 a10 a11 a12 a13 a14 a15 m_stepsMade m_stepsMost m_taped m_reading m_statements m_telling m_hasImage m_isKeeping m_cursor m_rowMany m_lots m_refused m_bytes m_owner m_block m_written m_waits m_kinds m_tape m_sort m_sortAt m_told m_kept m_was m_ends m_row)) X d_Mod_remembers_15 lk_Mod_282 mv_Mod_readAt (c_Mod_readAt l D cI cB a0 a1 a2 a3 a4 a5 a6 a7 a8 a9 a10 a11 a12 a13 a14 a15 m_stepsMade m_stepsMost m_taped m_reading m_statements m_telling m_hasImage m_isKeeping m_cursor m_rowMany m_lots m_refused m_bytes m_owner m_block m_written m_waits m_kinds m_tape m_sort m_sortAt m_told m_kept m_was m_ends m_row v1 h2) ⟨(Nat.le_of_ble_eq_true rfl), (Nat.le_of_ble_eq_true rfl), (Nat.le_of_ble_eq_true rfl), (Nat.le_of_ble_eq_true rfl)⟩ 0 rfl rfl [0, 1, 2, 3, 4, 5, 6, 7, 8, 9, 10, 11, 12, 13, 14, 15] rfl rfl rfl (Up.same rfl) rfl rfl (Nat.le_of_ble_eq_true rfl) ?_
      refine x_iast (pc := 18) (w2 := (w_Mod cI cB a0 a1 a2 a3 a4 a5 a6 a7 a8 a9 a10 a11 a12 a13 a14 a15 m_stepsMade m_stepsMost m_taped m_reading m_statements m_telling m_hasImage m_isKeeping m_cursor m_rowMany m_lots m_refused m_bytes m_owner m_block m_written m_waits m_kinds m_tape m_sort m_sortAt m_told m_kept (uf m_was v1 r1) m_ends m_row)) X d_Mod_remembers_18 13 rfl (Nat.le_of_ble_eq_true rfl) rfl rfl h (fun h => ?_)
      refine x_iinc (pc := 19) (ls2 := [(1, .int (zi (v1 + 1))), (0, .ref a0)]) X d_Mod_remembers_19 1 (Nat.le_of_ble_eq_true rfl) rfl rfl ?_
      refine x_goto (pc := 22) (tgt := 2) X d_Mod_remembers_22 rfl ?_
      refine x_ls (ls2 := [(0, .ref a0), (1, .int (zi (v1 + 1)))]) [1, 0] rfl ?_
      exact ih (v1 + 1) m_bytes m_block m_written m_waits (uf m_was v1 r1) o h hR
set_option maxHeartbeats 4000000 in
set_option maxRecDepth 100000 in
theorem c_Mod_remembers (l : Launch) (D : va_G) (cI cB : ClassId) (a0 a1 a2 a3 a4 a5 a6 a7 a8 a9 a10 a11 a12 a13 a14 a15 : Nat) (m_stepsMade : Int) (m_stepsMost : Int) (m_taped : Int) (m_reading : Int) (m_statements : Int) (m_telling : Int) (m_hasImage : Int) (m_isKeeping : Int) (m_cursor : Int) (m_rowMany : Int) (m_lots : Int) (m_refused : Int → Int) (m_bytes : Int → Int) (m_owner : Int → Int) (m_block : Int → Int) (m_written : Int → Int) (m_waits : Int → Int) (m_kinds : Int → Int) (m_tape : Int → Int) (m_sort : Int → Int) (m_sortAt : Int → Int) (m_told : Int → Int) (m_kept : Int → Int) (m_was : Int → Int) (m_ends : Int → Int) (m_row : Int → Int)  {o : (Int → Int)} (h : m_Mod_remembers m_bytes m_block m_written m_waits m_was = some o) : Ct l D cI cB y_Mod_remembers b_Mod_remembers 2 none { frames := 2, cells := 0, slots := 0, locals := 42 } [.ref a0] (w_Mod cI cB a0 a1 a2 a3 a4 a5 a6 a7 a8 a9 a10 a11 a12 a13 a14 a15 m_stepsMade m_stepsMost m_taped m_reading m_statements m_telling m_hasImage m_isKeeping m_cursor m_rowMany m_lots m_refused m_bytes m_owner m_block m_written m_waits m_kinds m_tape m_sort m_sortAt m_told m_kept m_was m_ends m_row) (w_Mod cI cB a0 a1 a2 a3 a4 a5 a6 a7 a8 a9 a10 a11 a12 a13 a14 a15 m_stepsMade m_stepsMost m_taped m_reading m_statements m_telling m_hasImage m_isKeeping m_cursor m_rowMany m_lots m_refused m_bytes m_owner m_block m_written m_waits m_kinds m_tape m_sort m_sortAt m_told m_kept o m_ends m_row) none := by
  refine Ct.start (by decide) (Nat.le_of_ble_eq_true rfl) (fun G X hR => ?_)
  refine x_ls (ls2 := [(0, .ref a0)]) [0] rfl ?_
  unfold m_Mod_remembers at h
  refine x_iconst (pc := 0) X d_Mod_remembers_0  ?_
  refine x_istore_n (pc := 1) (ls2 := [(1, .int (zi 0)), (0, .ref a0)]) X d_Mod_remembers_1 rfl (Nat.le_of_ble_eq_true rfl) rfl ?_
  refine x_ls (ls2 := [(0, .ref a0), (1, .int (zi 0))]) [1, 0] rfl ?_
  exact l_Mod_remembers_2 X 5000 0 m_bytes m_block m_written m_waits m_was o h hR
theorem d_Mod_losesBy_0 : decode b_Mod_losesBy 0 = .ok (.aload_n 0, 1) := by decide +kernel
theorem d_Mod_losesBy_1 : decode b_Mod_losesBy 1 = .ok (.invokevirtual 312, 3) := by decide +kernel
theorem d_Mod_losesBy_4 : decode b_Mod_losesBy 4 = .ok (.aload_n 0, 1) := by decide +kernel
theorem d_Mod_losesBy_5 : decode b_Mod_losesBy 5 = .ok (.invokevirtual 291, 3) := by decide +kernel
theorem d_Mod_losesBy_8 : decode b_Mod_losesBy 8 = .ok (.aload_n 0, 1) := by decide +kernel
theorem d_Mod_losesBy_9 : decode b_Mod_losesBy 9 = .ok (.iload_n 1, 1) := by decide +kernel
theorem d_Mod_losesBy_10 : decode b_Mod_losesBy 10 = .ok (.iload_n 2, 1) := by decide +kernel
theorem d_Mod_losesBy_11 : decode b_Mod_losesBy 11 = .ok (.invokevirtual 227, 3) := by decide +kernel
theorem d_Mod_losesBy_14 : decode b_Mod_losesBy 14 = .ok (.pop, 1) := by decide +kernel
theorem d_Mod_losesBy_15 : decode b_Mod_losesBy 15 = .ok (.iconst 0, 1) := by decide +kernel
theorem d_Mod_losesBy_16 : decode b_Mod_losesBy 16 = .ok (.istore 4, 2) := by decide +kernel
theorem d_Mod_losesBy_18 : decode b_Mod_losesBy 18 = .ok (.iconst 0, 1) := by decide +kernel
theorem d_Mod_losesBy_19 : decode b_Mod_losesBy 19 = .ok (.istore 5, 2) := by decide +kernel
theorem d_Mod_losesBy_21 : decode b_Mod_losesBy 21 = .ok (.iload 5, 2) := by decide +kernel
theorem d_Mod_losesBy_23 : decode b_Mod_losesBy 23 = .ok (.bipush 96, 2) := by decide +kernel
theorem d_Mod_losesBy_25 : decode b_Mod_losesBy 25 = .ok (.if_icmp .ge 53, 3) := by decide +kernel
theorem d_Mod_losesBy_28 : decode b_Mod_losesBy 28 = .ok (.iload 4, 2) := by decide +kernel
theorem d_Mod_losesBy_30 : decode b_Mod_losesBy 30 = .ok (.iload 5, 2) := by decide +kernel
theorem d_Mod_losesBy_32 : decode b_Mod_losesBy 32 = .ok (.bipush 24, 2) := by decide +kernel
theorem d_Mod_losesBy_34 : decode b_Mod_losesBy 34 = .ok (.idiv, 1) := by decide +kernel
theorem d_Mod_losesBy_35 : decode b_Mod_losesBy 35 = .ok (.iload_n 1, 1) := by decide +kernel
theorem d_Mod_losesBy_36 : decode b_Mod_losesBy 36 = .ok (.if_icmp .ne 7, 3) := by decide +kernel
theorem d_Mod_losesBy_39 : decode b_Mod_losesBy 39 = .ok (.iconst 1, 1) := by decide +kernel
theorem d_Mod_losesBy_40 : decode b_Mod_losesBy 40 = .ok (.goto 4, 3) := by decide +kernel
theorem d_Mod_losesBy_43 : decode b_Mod_losesBy 43 = .ok (.iconst 0, 1) := by decide +kernel
theorem d_Mod_losesBy_44 : decode b_Mod_losesBy 44 = .ok (.iload_n 3, 1) := by decide +kernel
theorem d_Mod_losesBy_45 : decode b_Mod_losesBy 45 = .ok (.if_icmp .eq 23, 3) := by decide +kernel
theorem d_Mod_losesBy_48 : decode b_Mod_losesBy 48 = .ok (.aload_n 0, 1) := by decide +kernel
theorem d_Mod_losesBy_49 : decode b_Mod_losesBy 49 = .ok (.iload 5, 2) := by decide +kernel
theorem d_Mod_losesBy_51 : decode b_Mod_losesBy 51 = .ok (.invokevirtual 282, 3) := by decide +kernel
theorem d_Mod_losesBy_54 : decode b_Mod_losesBy 54 = .ok (.aload_n 0, 1) := by decide +kernel
theorem d_Mod_losesBy_55 : decode b_Mod_losesBy 55 = .ok (.getfield 46, 3) := by decide +kernel
theorem d_Mod_losesBy_58 : decode b_Mod_losesBy 58 = .ok (.iload 5, 2) := by decide +kernel
theorem d_Mod_losesBy_60 : decode b_Mod_losesBy 60 = .ok (.iaload, 1) := by decide +kernel
theorem d_Mod_losesBy_61 : decode b_Mod_losesBy 61 = .ok (.if_icmp .eq 7, 3) := by decide +kernel
theorem d_Mod_losesBy_64 : decode b_Mod_losesBy 64 = .ok (.iconst 1, 1) := by decide +kernel
theorem d_Mod_losesBy_65 : decode b_Mod_losesBy 65 = .ok (.goto 4, 3) := by decide +kernel
theorem d_Mod_losesBy_68 : decode b_Mod_losesBy 68 = .ok (.iconst 0, 1) := by decide +kernel
theorem d_Mod_losesBy_69 : decode b_Mod_losesBy 69 = .ok (.iadd, 1) := by decide +kernel
theorem d_Mod_losesBy_70 : decode b_Mod_losesBy 70 = .ok (.istore 4, 2) := by decide +kernel
theorem d_Mod_losesBy_72 : decode b_Mod_losesBy 72 = .ok (.iinc 5 1, 3) := by decide +kernel
theorem d_Mod_losesBy_75 : decode b_Mod_losesBy 75 = .ok (.goto (-54), 3) := by decide +kernel
theorem d_Mod_losesBy_78 : decode b_Mod_losesBy 78 = .ok (.aload_n 0, 1) := by decide +kernel
theorem d_Mod_losesBy_79 : decode b_Mod_losesBy 79 = .ok (.invokevirtual 294, 3) := by decide +kernel
theorem d_Mod_losesBy_82 : decode b_Mod_losesBy 82 = .ok (.iload 4, 2) := by decide +kernel
theorem d_Mod_losesBy_84 : decode b_Mod_losesBy 84 = .ok (.ireturn, 1) := by decide +kernel
def m_Mod_losesBy_21 : Nat → Int → Int → Int → Int → Int → Int → Int → Int → (Int → Int) → (Int → Int) → (Int → Int) → (Int → Int) → (Int → Int) → (Int → Int) → (Int → Int) → (Int → Int) → Option (Int × Int × Int × Int × Int × (Int → Int) × (Int → Int) × (Int → Int) × (Int → Int) × (Int → Int) × (Int → Int) × (Int → Int) × (Int → Int))
  | 0, _, _, _, _, _, _, _, _, _, _, _, _, _, _, _, _ => none
  | fuel + 1, v1, v3, v4, v5, m_stepsMade, m_stepsMost, m_isKeeping, m_cursor, m_bytes, m_owner, m_block, m_written, m_waits, m_kinds, m_kept, m_was =>
  clt v5 96 (gd (zx v5 2147483648 ∧ zp 24 2147483648) (jn (fun (z10 : Int) (z11 : Int) (z12 : Int) (z13 : Int) (z14 : Int) (c15 : Int) (c16 : Int) (c17 : Int) (c18 : Int) (c19 : Int → Int) (c20 : Int → Int) (c21 : Int → Int) (c22 : Int → Int) (c23 : Int → Int) (c24 : Int → Int) (c25 : Int → Int) (c26 : Int → Int) => ceq z14 z11 (m_Mod_losesBy_21 fuel z10 z11 (z13 + 0) (z12 + 1) c15 c16 c17 c18 c19 c20 c21 c22 c23 c24 c25 c26) (bnd (m_Mod_readAt z12 c19 c21 c22 c23) (fun r27 => gd (zx z12 96) (ceq r27 (c26 z12) (m_Mod_losesBy_21 fuel z10 z11 (z13 + 0) (z12 + 1) c15 c16 c17 c18 c19 c20 c21 c22 c23 c24 c25 c26) (m_Mod_losesBy_21 fuel z10 z11 (z13 + 1) (z12 + 1) c15 c16 c17 c18 c19 c20 c21 c22 c23 c24 c25 c26))))) (fun j9 => ceq (v5 / 24) v1 (j9 v1 v3 v5 v4 1 m_stepsMade m_stepsMost m_isKeeping m_cursor m_bytes m_owner m_block m_written m_waits m_kinds m_kept m_was) (j9 v1 v3 v5 v4 0 m_stepsMade m_stepsMost m_isKeeping m_cursor m_bytes m_owner m_block m_written m_waits m_kinds m_kept m_was)))) (bnd (m_Mod_forgets m_isKeeping m_cursor m_bytes m_owner m_block m_written m_waits m_kinds m_kept) (fun r7 => some (v4, m_stepsMade, m_stepsMost, r7.1, r7.2.1, r7.2.2.1, r7.2.2.2.1, r7.2.2.2.2.1, r7.2.2.2.2.2.1, r7.2.2.2.2.2.2.1, r7.2.2.2.2.2.2.2.1, r7.2.2.2.2.2.2.2.2, m_was)))
def m_Mod_losesBy (x1 : Int) (x2 : Int) (x3 : Int) (m_stepsMade : Int) (m_stepsMost : Int) (m_isKeeping : Int) (m_cursor : Int) (m_bytes : Int → Int) (m_owner : Int → Int) (m_block : Int → Int) (m_written : Int → Int) (m_waits : Int → Int) (m_kinds : Int → Int) (m_kept : Int → Int) (m_was : Int → Int) : Option (Int × Int × Int × Int × Int × (Int → Int) × (Int → Int) × (Int → Int) × (Int → Int) × (Int → Int) × (Int → Int) × (Int → Int) × (Int → Int)) :=
  bnd (m_Mod_remembers m_bytes m_block m_written m_waits m_was) (fun r1 => bnd (m_Mod_minds m_isKeeping m_cursor m_bytes m_owner m_block m_written m_waits m_kinds m_kept) (fun r3 => bnd (m_Mod_crashes x1 x2 m_stepsMade m_stepsMost r3.2.2.1 r3.2.2.2.1 r3.2.2.2.2.1 r3.2.2.2.2.2.1 r3.2.2.2.2.2.2.1 r3.2.2.2.2.2.2.2.1) (fun r5 => m_Mod_losesBy_21 5000 x1 x3 0 0 r5.2.1 r5.2.2.1 r3.1 r3.2.1 r5.2.2.2.1 r5.2.2.2.2.1 r5.2.2.2.2.2.1 r5.2.2.2.2.2.2.1 r5.2.2.2.2.2.2.2 r3.2.2.2.2.2.2.2.1 r3.2.2.2.2.2.2.2.2 r1)))
set_option maxHeartbeats 4000000 in
set_option maxRecDepth 100000 in
theorem l_Mod_losesBy_21 {G : GT} {l : Launch} {D : va_G} {cI cB : ClassId} {a0 a1 a2 a3 a4 a5 a6 a7 a8 a9 a10 a11 a12 a13 a14 a15 : Nat} {m_taped : Int} {m_reading : Int} {m_statements : Int} {m_telling : Int} {m_hasImage : Int} {m_rowMany : Int} {m_lots : Int} {m_refused : Int → Int} {m_tape : Int → Int} {m_sort : Int → Int} {m_sortAt : Int → Int} {m_told : Int → Int} {m_ends : Int → Int} {m_row : Int → Int} (X : Cx G l D cI cB b_Mod_losesBy y_Mod_losesBy.cls 6 { frames := 7, cells := 0, slots := 0, locals := 166 }) : ∀ (fuel : Nat) (v1 : Int) (v3 : Int) (v4 : Int) (v5 : Int) (m_stepsMade : Int) (m_stepsMost : Int) (m_isKeeping : Int) (m_cursor : Int) (m_bytes : Int → Int) (m_owner : Int → Int) (m_block : Int → Int) (m_written : Int → Int) (m_waits : Int → Int) (m_kinds : Int → Int) (m_kept : Int → Int) (m_was : Int → Int) (o : Int × Int × Int × Int × Int × (Int → Int) × (Int → Int) × (Int → Int) × (Int → Int) × (Int → Int) × (Int → Int) × (Int → Int) × (Int → Int)), m_Mod_losesBy_21 fuel v1 v3 v4 v5 m_stepsMade m_stepsMost m_isKeeping m_cursor m_bytes m_owner m_block m_written m_waits m_kinds m_kept m_was = some o → Rt G (some .int) (some (.int (zi o.1))) (w_Mod cI cB a0 a1 a2 a3 a4 a5 a6 a7 a8 a9 a10 a11 a12 a13 a14 a15 o.2.1 o.2.2.1 m_taped m_reading m_statements m_telling m_hasImage o.2.2.2.1 o.2.2.2.2.1 m_rowMany m_lots m_refused o.2.2.2.2.2.1 o.2.2.2.2.2.2.1 o.2.2.2.2.2.2.2.1 o.2.2.2.2.2.2.2.2.1 o.2.2.2.2.2.2.2.2.2.1 o.2.2.2.2.2.2.2.2.2.2.1 m_tape m_sort m_sortAt m_told o.2.2.2.2.2.2.2.2.2.2.2.1 o.2.2.2.2.2.2.2.2.2.2.2.2 m_ends m_row) → Wx G 0 0 21 [(0, .ref a0), (1, .int (zi v1)), (3, .int (zi v3)), (4, .int (zi v4)), (5, .int (zi v5))] [] (w_Mod cI cB a0 a1 a2 a3 a4 a5 a6 a7 a8 a9 a10 a11 a12 a13 a14 a15 m_stepsMade m_stepsMost m_taped m_reading m_statements m_telling m_hasImage m_isKeeping m_cursor m_rowMany m_lots m_refused m_bytes m_owner m_block m_written m_waits m_kinds m_tape m_sort m_sortAt m_told m_kept m_was m_ends m_row) := by
  intro fuel
  induction fuel with
  | zero =>
    intro v1 v3 v4 v5 m_stepsMade m_stepsMost m_isKeeping m_cursor m_bytes m_owner m_block m_written m_waits m_kinds m_kept m_was o h
    exact absurd h (by simp [m_Mod_losesBy_21])
  | succ fuel ih =>
    intro v1 v3 v4 v5 m_stepsMade m_stepsMost m_isKeeping m_cursor m_bytes m_owner m_block m_written m_waits m_kinds m_kept m_was o h hR
    rw [m_Mod_losesBy_21] at h
    refine x_iload (pc := 21) X d_Mod_losesBy_21 4 rfl ?_
    refine x_bipush (pc := 23) (v := 96) X d_Mod_losesBy_23 rfl ?_
    refine x_icmpge (pc := 25) (tgt := 78) X d_Mod_losesBy_25 rfl h (fun h => ?_) (fun h => ?_)
    · skip
      refine x_aload_n (pc := 78) X d_Mod_losesBy_78 0 rfl rfl ?_
      obtain ⟨r7, h8, h⟩ := bnd_e h
      refine x_callV (pc := 79) (As := []) (rest := []) (w2 := (w_Mod cI cB a0 a1 a2 a3 a4 a5 a6 a7 a8 a9 a10 a11 a12 a13 a14 a15 m_stepsMade m_stepsMost m_taped m_reading m_statements m_telling m_hasImage r7.1 r7.2.1 m_rowMany m_lots m_refused r7.2.2.1 r7.2.2.2.1 r7.2.2.2.2.1 r7.2.2.2.2.2.1 r7.2.2.2.2.2.2.1 r7.2.2.2.2.2.2.2.1 m_tape m_sort m_sortAt m_told r7.2.2.2.2.2.2.2.2 m_was m_ends m_row)) X d_Mod_losesBy_79 lk_Mod_294 mv_Mod_forgets (c_Mod_forgets l D cI cB a0 a1 a2 a3 a4 a5 a6 a7 a8 a9 a10 a11 a12 a13 a14 a15 m_stepsMade m_stepsMost m_taped m_reading m_statements m_telling m_hasImage m_isKeeping m_cursor m_rowMany m_lots m_refused m_bytes m_owner m_block m_written m_waits m_kinds m_tape m_sort m_sortAt m_told m_kept m_was m_ends m_row h8) ⟨(Nat.le_of_ble_eq_true rfl), (Nat.le_of_ble_eq_true rfl), (Nat.le_of_ble_eq_true rfl), (Nat.le_of_ble_eq_true rfl)⟩ 0 rfl rfl [0, 1, 2, 3, 4, 5, 6, 7, 8, 9, 10, 11, 12, 13, 14, 15] rfl rfl rfl (Up.of [] [] rfl rfl rfl 16 rfl (by decide +kernel)) rfl rfl (Nat.le_of_ble_eq_true rfl) ?_
      refine x_iload (pc := 82) X d_Mod_losesBy_82 3 rfl ?_
      cases h
      exact x_iret (pc := 84) X hR d_Mod_losesBy_84
    · skip
      refine x_iload (pc := 28) X d_Mod_losesBy_28 3 rfl ?_
      refine x_iload (pc := 30) X d_Mod_losesBy_30 4 rfl ?_
      refine x_bipush (pc := 32) (v := 24) X d_Mod_losesBy_32 rfl ?_
      refine x_idiv (pc := 34) X d_Mod_losesBy_34 h (fun h => ?_)
      refine x_iload_n (pc := 35) X d_Mod_losesBy_35 1 rfl rfl ?_
      obtain ⟨j9, hj29, h⟩ := jn_e h
      have J30 : ∀ (z10 : Int) (z11 : Int) (z12 : Int) (z13 : Int) (z14 : Int) (c15 : Int) (c16 : Int) (c17 : Int) (c18 : Int) (c19 : Int → Int) (c20 : Int → Int) (c21 : Int → Int) (c22 : Int → Int) (c23 : Int → Int) (c24 : Int → Int) (c25 : Int → Int) (c26 : Int → Int), j9 z10 z11 z12 z13 z14 c15 c16 c17 c18 c19 c20 c21 c22 c23 c24 c25 c26 = some o → Wx G 0 0 44 [(0, .ref a0), (1, .int (zi z10)), (3, .int (zi z11)), (5, .int (zi z12))] [.int (zi z14), .int (zi z13)] (w_Mod cI cB a0 a1 a2 a3 a4 a5 a6 a7 a8 a9 a10 a11 a12 a13 a14 a15 c15 c16 m_taped m_reading m_statements m_telling m_hasImage c17 c18 m_rowMany m_lots m_refused c19 c20 c21 c22 c23 c24 m_tape m_sort m_sortAt m_told c25 c26 m_ends m_row) := by
        intro z10 z11 z12 z13 z14 c15 c16 c17 c18 c19 c20 c21 c22 c23 c24 c25 c26 h
        rw [hj29] at h
        (try dsimp only at h)
        refine x_iload_n (pc := 44) X d_Mod_losesBy_44 2 rfl rfl ?_
        refine x_icmpeq (pc := 45) (tgt := 68) X d_Mod_losesBy_45 rfl h (fun h => ?_) (fun h => ?_)
        · skip
          refine x_iconst (pc := 68) X d_Mod_losesBy_68  ?_
          refine x_iadd (pc := 69) X d_Mod_losesBy_69  ?_
          refine x_istore (pc := 70) (ls2 := [(4, .int (zi (z13 + 0))), (0, .ref a0), (1, .int (zi z10)), (3, .int (zi z11)), (5, .int (zi z12))]) X d_Mod_losesBy_70 (Nat.le_of_ble_eq_true rfl) rfl ?_
          refine x_iinc (pc := 72) (ls2 := [(5, .int (zi (z12 + 1))), (4, .int (zi (z13 + 0))), (0, .ref a0), (1, .int (zi z10)), (3, .int (zi z11))]) X d_Mod_losesBy_72 4 (Nat.le_of_ble_eq_true rfl) rfl rfl ?_
          refine x_goto (pc := 75) (tgt := 21) X d_Mod_losesBy_75 rfl ?_
          refine x_ls (ls2 := [(0, .ref a0), (1, .int (zi z10)), (3, .int (zi z11)), (4, .int (zi (z13 + 0))), (5, .int (zi (z12 + 1)))]) [2, 3, 4, 1, 0] rfl ?_
          exact ih z10 z11 (z13 + 0) (z12 + 1) c15 c16 c17 c18 c19 c20 c21 c22 c23 c24 c25 c26 o h hR
        · skip
          refine x_aload_n (pc := 48) X d_Mod_losesBy_48 0 rfl rfl ?_
          refine x_iload (pc := 49) X d_Mod_losesBy_49 3 rfl ?_
          obtain ⟨r27, h28, h⟩ := bnd_e h
          refine x_callV (pc := 51) (As := [.int (zi z12)]) (rest := [.int (zi z13)]) (w2 := (w_Mod cI cB a0 a1 a2 a3 a4 a5 a6 a7 a8 a9 a10 a11 a12 a13 a14 a15 c15 c16 m_taped m_reading m_statements m_telling m_hasImage c17 c18 m_rowMany m_lots m_refused c19 c20 c21 c22 c23 c24 m_tape m_sort m_sortAt m_told c25 c26 m_ends m_row)) X d_Mod_losesBy_51 lk_Mod_282 mv_Mod_readAt (c_Mod_readAt l D cI cB a0 a1 a2 a3 a4 a5 a6 a7 a8 a9 a10 a11 a12 a13 a14 a15 c15 c16 m_taped m_reading m_statements m_telling m_hasImage c17 c18 m_rowMany m_lots m_refused c19 c20 c21 c22 c23 c24 m_tape m_sort m_sortAt m_told c25 c26 m_ends m_row z12 h28) ⟨(Nat.le_of_ble_eq_true rfl), (Nat.le_of_ble_eq_true rfl), (Nat.le_of_ble_eq_true rfl), (Nat.le_of_ble_eq_true rfl)⟩ 0 rfl rfl [0, 1, 2, 3, 4, 5, 6, 7, 8, 9, 10, 11, 12, 13, 14, 15] rfl rfl rfl (Up.same rfl) rfl rfl (Nat.le_of_ble_eq_true rfl) ?_
          refine x_aload_n (pc := 54) X d_Mod_losesBy_54 0 rfl rfl ?_
          refine x_get (pc := 55) X d_Mod_losesBy_55 0 rfl fl_Mod_46 rfl ?_
          refine x_iload (pc := 58) X d_Mod_losesBy_58 3 rfl ?_
          refine x_iald (pc := 60) X d_Mod_losesBy_60 13 rfl (Nat.le_of_ble_eq_true rfl) rfl h (fun h => ?_)
          refine x_icmpeq (pc := 61) (tgt := 68) X d_Mod_losesBy_61 rfl h (fun h => ?_) (fun h => ?_)
          · skip
            refine x_iconst (pc := 68) X d_Mod_losesBy_68  ?_
            refine x_iadd (pc := 69) X d_Mod_losesBy_69  ?_
            refine x_istore (pc := 70) (ls2 := [(4, .int (zi (z13 + 0))), (0, .ref a0), (1, .int (zi z10)), (3, .int (zi z11)), (5, .int (zi z12))]) X d_Mod_losesBy_70 (Nat.le_of_ble_eq_true rfl) rfl ?_
            refine x_iinc (pc := 72) (ls2 := [(5, .int (zi (z12 + 1))), (4, .int (zi (z13 + 0))), (0, .ref a0), (1, .int (zi z10)), (3, .int (zi z11))]) X d_Mod_losesBy_72 4 (Nat.le_of_ble_eq_true rfl) rfl rfl ?_
            refine x_goto (pc := 75) (tgt := 21) X d_Mod_losesBy_75 rfl ?_
            refine x_ls (ls2 := [(0, .ref a0), (1, .int (zi z10)), (3, .int (zi z11)), (4, .int (zi (z13 + 0))), (5, .int (zi (z12 + 1)))]) [2, 3, 4, 1, 0] rfl ?_
            exact ih z10 z11 (z13 + 0) (z12 + 1) c15 c16 c17 c18 c19 c20 c21 c22 c23 c24 c25 c26 o h hR
          · skip
            refine x_iconst (pc := 64) X d_Mod_losesBy_64  ?_
            refine x_goto (pc := 65) (tgt := 69) X d_Mod_losesBy_65 rfl ?_
            refine x_iadd (pc := 69) X d_Mod_losesBy_69  ?_
            refine x_istore (pc := 70) (ls2 := [(4, .int (zi (z13 + 1))), (0, .ref a0), (1, .int (zi z10)), (3, .int (zi z11)), (5, .int (zi z12))]) X d_Mod_losesBy_70 (Nat.le_of_ble_eq_true rfl) rfl ?_
            refine x_iinc (pc := 72) (ls2 := [(5, .int (zi (z12 + 1))), (4, .int (zi (z13 + 1))), (0, .ref a0), (1, .int (zi z10)), (3, .int (zi z11))]) X d_Mod_losesBy_72 4 (Nat.le_of_ble_eq_true rfl) rfl rfl ?_
            refine x_goto (pc := 75) (tgt := 21) X d_Mod_losesBy_75 rfl ?_
            refine x_ls (ls2 := [(0, .ref a0), (1, .int (zi z10)), (3, .int (zi z11)), (4, .int (zi (z13 + 1))), (5, .int (zi (z12 + 1)))]) [2, 3, 4, 1, 0] rfl ?_
            exact ih z10 z11 (z13 + 1) (z12 + 1) c15 c16 c17 c18 c19 c20 c21 c22 c23 c24 c25 c26 o h hR
      clear hj29
      refine x_icmpne (pc := 36) (tgt := 43) X d_Mod_losesBy_36 rfl h (fun h => ?_) (fun h => ?_)
      · skip
        refine x_iconst (pc := 43) X d_Mod_losesBy_43  ?_
        refine x_ls (ls2 := [(0, .ref a0), (1, .int (zi v1)), (3, .int (zi v3)), (5, .int (zi v5))]) [0, 1, 2, 4] rfl ?_
        exact J30 v1 v3 v5 v4 0 m_stepsMade m_stepsMost m_isKeeping m_cursor m_bytes m_owner m_block m_written m_waits m_kinds m_kept m_was h
      · skip
        refine x_iconst (pc := 39) X d_Mod_losesBy_39  ?_
        refine x_goto (pc := 40) (tgt := 44) X d_Mod_losesBy_40 rfl ?_
        refine x_ls (ls2 := [(0, .ref a0), (1, .int (zi v1)), (3, .int (zi v3)), (5, .int (zi v5))]) [0, 1, 2, 4] rfl ?_
        exact J30 v1 v3 v5 v4 1 m_stepsMade m_stepsMost m_isKeeping m_cursor m_bytes m_owner m_block m_written m_waits m_kinds m_kept m_was h
set_option maxHeartbeats 4000000 in
set_option maxRecDepth 100000 in
theorem c_Mod_losesBy (l : Launch) (D : va_G) (cI cB : ClassId) (a0 a1 a2 a3 a4 a5 a6 a7 a8 a9 a10 a11 a12 a13 a14 a15 : Nat) (m_stepsMade : Int) (m_stepsMost : Int) (m_taped : Int) (m_reading : Int) (m_statements : Int) (m_telling : Int) (m_hasImage : Int) (m_isKeeping : Int) (m_cursor : Int) (m_rowMany : Int) (m_lots : Int) (m_refused : Int → Int) (m_bytes : Int → Int) (m_owner : Int → Int) (m_block : Int → Int) (m_written : Int → Int) (m_waits : Int → Int) (m_kinds : Int → Int) (m_tape : Int → Int) (m_sort : Int → Int) (m_sortAt : Int → Int) (m_told : Int → Int) (m_kept : Int → Int) (m_was : Int → Int) (m_ends : Int → Int) (m_row : Int → Int) (x1 : Int) (x2 : Int) (x3 : Int) {o : Int × Int × Int × Int × Int × (Int → Int) × (Int → Int) × (Int → Int) × (Int → Int) × (Int → Int) × (Int → Int) × (Int → Int) × (Int → Int)} (h : m_Mod_losesBy x1 x2 x3 m_stepsMade m_stepsMost m_isKeeping m_cursor m_bytes m_owner m_block m_written m_waits m_kinds m_kept m_was = some o) : Ct l D cI cB y_Mod_losesBy b_Mod_losesBy 6 (some .int) { frames := 7, cells := 0, slots := 0, locals := 166 } [.ref a0, .int (zi x1), .int (zi x2), .int (zi x3)] (w_Mod cI cB a0 a1 a2 a3 a4 a5 a6 a7 a8 a9 a10 a11 a12 a13 a14 a15 m_stepsMade m_stepsMost m_taped m_reading m_statements m_telling m_hasImage m_isKeeping m_cursor m_rowMany m_lots m_refused m_bytes m_owner m_block m_written m_waits m_kinds m_tape m_sort m_sortAt m_told m_kept m_was m_ends m_row) (w_Mod cI cB a0 a1 a2 a3 a4 a5 a6 a7 a8 a9 a10 a11 a12 a13 a14 a15 o.2.1 o.2.2.1 m_taped m_reading m_statements m_telling m_hasImage o.2.2.2.1 o.2.2.2.2.1 m_rowMany m_lots m_refused o.2.2.2.2.2.1 o.2.2.2.2.2.2.1 o.2.2.2.2.2.2.2.1 o.2.2.2.2.2.2.2.2.1 o.2.2.2.2.2.2.2.2.2.1 o.2.2.2.2.2.2.2.2.2.2.1 m_tape m_sort m_sortAt m_told o.2.2.2.2.2.2.2.2.2.2.2.1 o.2.2.2.2.2.2.2.2.2.2.2.2 m_ends m_row) (some (.int (zi o.1))) := by
  refine Ct.start (by decide) (Nat.le_of_ble_eq_true rfl) (fun G X hR => ?_)
  refine x_ls (ls2 := [(0, .ref a0), (1, .int (zi x1)), (2, .int (zi x2)), (3, .int (zi x3))]) [0, 1, 2, 3] rfl ?_
  unfold m_Mod_losesBy at h
  refine x_aload_n (pc := 0) X d_Mod_losesBy_0 0 rfl rfl ?_
  obtain ⟨r1, h2, h⟩ := bnd_e h
  refine x_callV (pc := 1) (As := []) (rest := []) (w2 := (w_Mod cI cB a0 a1 a2 a3 a4 a5 a6 a7 a8 a9 a10 a11 a12 a13 a14 a15 m_stepsMade m_stepsMost m_taped m_reading m_statements m_telling m_hasImage m_isKeeping m_cursor m_rowMany m_lots m_refused m_bytes m_owner m_block m_written m_waits m_kinds m_tape m_sort m_sortAt m_told m_kept r1 m_ends m_row)) X d_Mod_losesBy_1 lk_Mod_312 mv_Mod_remembers (c_Mod_remembers l D cI cB a0 a1 a2 a3 a4 a5 a6 a7 a8 a9 a10 a11 a12 a13 a14 a15 m_stepsMade m_stepsMost m_taped m_reading m_statements m_telling m_hasImage m_isKeeping m_cursor m_rowMany m_lots m_refused m_bytes m_owner m_block m_written m_waits m_kinds m_tape m_sort m_sortAt m_told m_kept m_was m_ends m_row h2) ⟨(Nat.le_of_ble_eq_true rfl), (Nat.le_of_ble_eq_true rfl), (Nat.le_of_ble_eq_true rfl), (Nat.le_of_ble_eq_true rfl)⟩ 0 rfl rfl [0, 1, 2, 3, 4, 5, 6, 7, 8, 9, 10, 11, 12, 13, 14, 15] rfl rfl rfl (Up.of [] [] rfl rfl rfl 16 rfl (by decide +kernel)) rfl rfl (Nat.le_of_ble_eq_true rfl) ?_
  refine x_aload_n (pc := 4) X d_Mod_losesBy_4 0 rfl rfl ?_
  obtain ⟨r3, h4, h⟩ := bnd_e h
  refine x_callV (pc := 5) (As := []) (rest := []) (w2 := (w_Mod cI cB a0 a1 a2 a3 a4 a5 a6 a7 a8 a9 a10 a11 a12 a13 a14 a15 m_stepsMade m_stepsMost m_taped m_reading m_statements m_telling m_hasImage r3.1 r3.2.1 m_rowMany m_lots m_refused r3.2.2.1 r3.2.2.2.1 r3.2.2.2.2.1 r3.2.2.2.2.2.1 r3.2.2.2.2.2.2.1 r3.2.2.2.2.2.2.2.1 m_tape m_sort m_sortAt m_told r3.2.2.2.2.2.2.2.2 r1 m_ends m_row)) X d_Mod_losesBy_5 lk_Mod_291 mv_Mod_minds (c_Mod_minds l D cI cB a0 a1 a2 a3 a4 a5 a6 a7 a8 a9 a10 a11 a12 a13 a14 a15 m_stepsMade m_stepsMost m_taped m_reading m_statements m_telling m_hasImage m_isKeeping m_cursor m_rowMany m_lots m_refused m_bytes m_owner m_block m_written m_waits m_kinds m_tape m_sort m_sortAt m_told m_kept r1 m_ends m_row h4) ⟨(Nat.le_of_ble_eq_true rfl), (Nat.le_of_ble_eq_true rfl), (Nat.le_of_ble_eq_true rfl), (Nat.le_of_ble_eq_true rfl)⟩ 0 rfl rfl [0, 1, 2, 3, 4, 5, 6, 7, 8, 9, 10, 11, 12, 13, 14, 15] rfl rfl rfl (Up.of [] [] rfl rfl rfl 16 rfl (by decide +kernel)) rfl rfl (Nat.le_of_ble_eq_true rfl) ?_
  refine x_aload_n (pc := 8) X d_Mod_losesBy_8 0 rfl rfl ?_
  refine x_iload_n (pc := 9) X d_Mod_losesBy_9 1 rfl rfl ?_
  refine x_iload_n (pc := 10) X d_Mod_losesBy_10 2 rfl rfl ?_
  obtain ⟨r5, h6, h⟩ := bnd_e h
  refine x_callV (pc := 11) (As := [.int (zi x1), .int (zi x2)]) (rest := []) (w2 := (w_Mod cI cB a0 a1 a2 a3 a4 a5 a6 a7 a8 a9 a10 a11 a12 a13 a14 a15 r5.2.1 r5.2.2.1 m_taped m_reading m_statements m_telling m_hasImage r3.1 r3.2.1 m_rowMany m_lots m_refused r5.2.2.2.1 r5.2.2.2.2.1 r5.2.2.2.2.2.1 r5.2.2.2.2.2.2.1 r5.2.2.2.2.2.2.2 r3.2.2.2.2.2.2.2.1 m_tape m_sort m_sortAt m_told r3.2.2.2.2.2.2.2.2 r1 m_ends m_row)) X d_Mod_losesBy_11 lk_Mod_227 mv_Mod_crashes (c_Mod_crashes l D cI cB a0 a1 a2 a3 a4 a5 a6 a7 a8 a9 a10 a11 a12 a13 a14 a15 m_stepsMade m_stepsMost m_taped m_reading m_statements m_telling m_hasImage r3.1 r3.2.1 m_rowMany m_lots m_refused r3.2.2.1 r3.2.2.2.1 r3.2.2.2.2.1 r3.2.2.2.2.2.1 r3.2.2.2.2.2.2.1 r3.2.2.2.2.2.2.2.1 m_tape m_sort m_sortAt m_told r3.2.2.2.2.2.2.2.2 r1 m_ends m_row x1 x2 h6) ⟨(Nat.le_of_ble_eq_true rfl), (Nat.le_of_ble_eq_true rfl), (Nat.le_of_ble_eq_true rfl), (Nat.le_of_ble_eq_true rfl)⟩ 0 rfl rfl [0, 1, 2, 3, 4, 5, 6, 7, 8, 9, 10, 11, 12, 13, 14, 15] rfl rfl rfl (Up.of [] [] rfl rfl rfl 16 rfl (by decide +kernel)) rfl rfl (Nat.le_of_ble_eq_true rfl) ?_
  refine x_pop (pc := 14) X d_Mod_losesBy_14 rfl ?_
  refine x_iconst (pc := 15) X d_Mod_losesBy_15  ?_
  refine x_istore (pc := 16) (ls2 := [(4, .int (zi 0)), (0, .ref a0), (1, .int (zi x1)), (2, .int (zi x2)), (3, .int (zi x3))]) X d_Mod_losesBy_16 (Nat.le_of_ble_eq_true rfl) rfl ?_
  refine x_iconst (pc := 18) X d_Mod_losesBy_18  ?_
  refine x_istore (pc := 19) (ls2 := [(5, .int (zi 0)), (4, .int (zi 0)), (0, .ref a0), (1, .int (zi x1)), (2, .int (zi x2)), (3, .int (zi x3))]) X d_Mod_losesBy_19 (Nat.le_of_ble_eq_true rfl) rfl ?_
  refine x_ls (ls2 := [(0, .ref a0), (1, .int (zi x1)), (3, .int (zi x3)), (4, .int (zi 0)), (5, .int (zi 0))]) [2, 3, 5, 1, 0] rfl ?_
  exact l_Mod_losesBy_21 X 5000 x1 x3 0 0 r5.2.1 r5.2.2.1 r3.1 r3.2.1 r5.2.2.2.1 r5.2.2.2.2.1 r5.2.2.2.2.2.1 r5.2.2.2.2.2.2.1 r5.2.2.2.2.2.2.2 r3.2.2.2.2.2.2.2.1 r3.2.2.2.2.2.2.2.2 r1 o h hR
theorem d_Mod_loses_0 : decode b_Mod_loses 0 = .ok (.iload_n 1, 1) := by decide +kernel
theorem d_Mod_loses_1 : decode b_Mod_loses 1 = .ok (.invokestatic 230, 3) := by decide +kernel
theorem d_Mod_loses_4 : decode b_Mod_loses 4 = .ok (.ifCond .ne 7, 3) := by decide +kernel
theorem d_Mod_loses_7 : decode b_Mod_loses 7 = .ok (.iconst (-1), 1) := by decide +kernel
theorem d_Mod_loses_8 : decode b_Mod_loses 8 = .ok (.goto 10, 3) := by decide +kernel
theorem d_Mod_loses_11 : decode b_Mod_loses 11 = .ok (.iload_n 2, 1) := by decide +kernel
theorem d_Mod_loses_12 : decode b_Mod_loses 12 = .ok (.iconst 0, 1) := by decide +kernel
theorem d_Mod_loses_13 : decode b_Mod_loses 13 = .ok (.bipush 99, 2) := by decide +kernel
theorem d_Mod_loses_15 : decode b_Mod_loses 15 = .ok (.invokestatic 166, 3) := by decide +kernel
theorem d_Mod_loses_18 : decode b_Mod_loses 18 = .ok (.istore 4, 2) := by decide +kernel
theorem d_Mod_loses_20 : decode b_Mod_loses 20 = .ok (.iload 4, 2) := by decide +kernel
theorem d_Mod_loses_22 : decode b_Mod_loses 22 = .ok (.ifCond .ne 16, 3) := by decide +kernel
theorem d_Mod_loses_25 : decode b_Mod_loses 25 = .ok (.iload_n 3, 1) := by decide +kernel
theorem d_Mod_loses_26 : decode b_Mod_loses 26 = .ok (.iconst 0, 1) := by decide +kernel
theorem d_Mod_loses_27 : decode b_Mod_loses 27 = .ok (.iconst 1, 1) := by decide +kernel
theorem d_Mod_loses_28 : decode b_Mod_loses 28 = .ok (.invokestatic 58, 3) := by decide +kernel
theorem d_Mod_loses_31 : decode b_Mod_loses 31 = .ok (.ifCond .ne 7, 3) := by decide +kernel
theorem d_Mod_loses_34 : decode b_Mod_loses 34 = .ok (.bipush (-2), 2) := by decide +kernel
theorem d_Mod_loses_36 : decode b_Mod_loses 36 = .ok (.istore 4, 2) := by decide +kernel
theorem d_Mod_loses_38 : decode b_Mod_loses 38 = .ok (.iload 4, 2) := by decide +kernel
theorem d_Mod_loses_40 : decode b_Mod_loses 40 = .ok (.ifCond .eq 12, 3) := by decide +kernel
theorem d_Mod_loses_43 : decode b_Mod_loses 43 = .ok (.aload_n 0, 1) := by decide +kernel
theorem d_Mod_loses_44 : decode b_Mod_loses 44 = .ok (.iload 4, 2) := by decide +kernel
theorem d_Mod_loses_46 : decode b_Mod_loses 46 = .ok (.invokevirtual 172, 3) := by decide +kernel
theorem d_Mod_loses_49 : decode b_Mod_loses 49 = .ok (.goto 19, 3) := by decide +kernel
theorem d_Mod_loses_52 : decode b_Mod_loses 52 = .ok (.aload_n 0, 1) := by decide +kernel
theorem d_Mod_loses_53 : decode b_Mod_loses 53 = .ok (.iload_n 1, 1) := by decide +kernel
theorem d_Mod_loses_54 : decode b_Mod_loses 54 = .ok (.iload_n 2, 1) := by decide +kernel
theorem d_Mod_loses_55 : decode b_Mod_loses 55 = .ok (.iload_n 3, 1) := by decide +kernel
theorem d_Mod_loses_56 : decode b_Mod_loses 56 = .ok (.iconst 1, 1) := by decide +kernel
theorem d_Mod_loses_57 : decode b_Mod_loses 57 = .ok (.if_icmp .ne 7, 3) := by decide +kernel
theorem d_Mod_loses_60 : decode b_Mod_loses 60 = .ok (.iconst 1, 1) := by decide +kernel
theorem d_Mod_loses_61 : decode b_Mod_loses 61 = .ok (.goto 4, 3) := by decide +kernel
theorem d_Mod_loses_64 : decode b_Mod_loses 64 = .ok (.iconst 0, 1) := by decide +kernel
theorem d_Mod_loses_65 : decode b_Mod_loses 65 = .ok (.invokevirtual 315, 3) := by decide +kernel
theorem d_Mod_loses_68 : decode b_Mod_loses 68 = .ok (.ireturn, 1) := by decide +kernel
def m_Mod_loses (x1 : Int) (x2 : Int) (x3 : Int) (m_stepsMade : Int) (m_stepsMost : Int) (m_isKeeping : Int) (m_cursor : Int) (m_refused : Int → Int) (m_bytes : Int → Int) (m_owner : Int → Int) (m_block : Int → Int) (m_written : Int → Int) (m_waits : Int → Int) (m_kinds : Int → Int) (m_kept : Int → Int) (m_was : Int → Int) : Option (Int × Int × Int × Int × Int × (Int → Int) × (Int → Int) × (Int → Int) × (Int → Int) × (Int → Int) × (Int → Int) × (Int → Int) × (Int → Int) × (Int → Int)) :=
  bnd (m_Mod_isFile x1) (fun r1 => jn (fun (z4 : Int) (z5 : Int) (z6 : Int) (z7 : Int) (c8 : Int) (c9 : Int) (c10 : Int) (c11 : Int) (c12 : Int → Int) (c13 : Int → Int) (c14 : Int → Int) (c15 : Int → Int) (c16 : Int → Int) (c17 : Int → Int) (c18 : Int → Int) (c19 : Int → Int) (c20 : Int → Int) => jn (fun (z22 : Int) (z23 : Int) (z24 : Int) (z25 : Int) (c26 : Int) (c27 : Int) (c28 : Int) (c29 : Int) (c30 : Int → Int) (c31 : Int → Int) (c32 : Int → Int) (c33 : Int → Int) (c34 : Int → Int) (c35 : Int → Int) (c36 : Int → Int) (c37 : Int → Int) (c38 : Int → Int) => ceq z25 0 (jn (fun (z40 : Int) (z41 : Int) (z42 : Int) (c43 : Int) (c44 : Int) (c45 : Int) (c46 : Int) (c47 : Int → Int) (c48 : Int → Int) (c49 : Int → Int) (c50 : Int → Int) (c51 : Int → Int) (c52 : Int → Int) (c53 : Int → Int) (c54 : Int → Int) (c55 : Int → Int) => bnd (m_Mod_losesBy z40 z41 z42 c43 c44 c45 c46 c48 c49 c50 c51 c52 c53 c54 c55) (fun r56 => some (r56.1, r56.2.1, r56.2.2.1, r56.2.2.2.1, r56.2.2.2.2.1, c47, r56.2.2.2.2.2.1, r56.2.2.2.2.2.2.1, r56.2.2.2.2.2.2.2.1, r56.2.2.2.2.2.2.2.2.1, r56.2.2.2.2.2.2.2.2.2.1, r56.2.2.2.2.2.2.2.2.2.2.1, r56.2.2.2.2.2.2.2.2.2.2.2.1, r56.2.2.2.2.2.2.2.2.2.2.2.2))) (fun j39 => ceq z24 1 (j39 z22 z23 1 c26 c27 c28 c29 c30 c31 c32 c33 c34 c35 c36 c37 c38) (j39 z22 z23 0 c26 c27 c28 c29 c30 c31 c32 c33 c34 c35 c36 c37 c38))) (bnd (m_Mod_no z25 c30) (fun r60 => some (r60.1, c26, c27, c28, c29, r60.2, c31, c32, c33, c34, c35, c36, c37, c38)))) (fun j21 => ceq z7 0 (bnd (m_Mod_isIn z6 0 1) (fun r64 => ceq r64 0 (j21 z4 z5 z6 (-2) c8 c9 c10 c11 c12 c13 c14 c15 c16 c17 c18 c19 c20) (j21 z4 z5 z6 z7 c8 c9 c10 c11 c12 c13 c14 c15 c16 c17 c18 c19 c20))) (j21 z4 z5 z6 z7 c8 c9 c10 c11 c12 c13 c14 c15 c16 c17 c18 c19 c20))) (fun j3 => ceq r1 0 (j3 x1 x2 x3 (-1) m_stepsMade m_stepsMost m_isKeeping m_cursor m_refused m_bytes m_owner m_block m_written m_waits m_kinds m_kept m_was) (bnd (m_Mod_bound x2 0 99) (fun r68 => j3 x1 x2 x3 r68 m_stepsMade m_stepsMost m_isKeeping m_cursor m_refused m_bytes m_owner m_block m_written m_waits m_kinds m_kept m_was))))
set_option maxHeartbeats 4000000 in
set_option maxRecDepth 100000 in
theorem c_Mod_loses (l : Launch) (D : va_G) (cI cB : ClassId) (a0 a1 a2 a3 a4 a5 a6 a7 a8 a9 a10 a11 a12 a13 a14 a15 : Nat) (m_stepsMade : Int) (m_stepsMost : Int) (m_taped : Int) (m_reading : Int) (m_statements : Int) (m_telling : Int) (m_hasImage : Int) (m_isKeeping : Int) (m_cursor : Int) (m_rowMany : Int) (m_lots : Int) (m_refused : Int → Int) (m_bytes : Int → Int) (m_owner : Int → Int) (m_block : Int → Int) (m_written : Int → Int) (m_waits : Int → Int) (m_kinds : Int → Int) (m_tape : Int → Int) (m_sort : Int → Int) (m_sortAt : Int → Int) (m_told : Int → Int) (m_kept : Int → Int) (m_was : Int → Int) (m_ends : Int → Int) (m_row : Int → Int) (x1 : Int) (x2 : Int) (x3 : Int) {o : Int × Int × Int × Int × Int × (Int → Int) × (Int → Int) × (Int → Int) × (Int → Int) × (Int → Int) × (Int → Int) × (Int → Int) × (Int → Int) × (Int → Int)} (h : m_Mod_loses x1 x2 x3 m_stepsMade m_stepsMost m_isKeeping m_cursor m_refused m_bytes m_owner m_block m_written m_waits m_kinds m_kept m_was = some o) : Ct l D cI cB y_Mod_loses b_Mod_loses 5 (some .int) { frames := 8, cells := 0, slots := 0, locals := 191 } [.ref a0, .int (zi x1), .int (zi x2), .int (zi x3)] (w_Mod cI cB a0 a1 a2 a3 a4 a5 a6 a7 a8 a9 a10 a11 a12 a13 a14 a15 m_stepsMade m_stepsMost m_taped m_reading m_statements m_telling m_hasImage m_isKeeping m_cursor m_rowMany m_lots m_refused m_bytes m_owner m_block m_written m_waits m_kinds m_tape m_sort m_sortAt m_told m_kept m_was m_ends m_row) (w_Mod cI cB a0 a1 a2 a3 a4 a5 a6 a7 a8 a9 a10 a11 a12 a13 a14 a15 o.2.1 o.2.2.1 m_taped m_reading m_statements m_telling m_hasImage o.2.2.2.1 o.2.2.2.2.1 m_rowMany m_lots o.2.2.2.2.2.1 o.2.2.2.2.2.2.1 o.2.2.2.2.2.2.2.1 o.2.2.2.2.2.2.2.2.1 o.2.2.2.2.2.2.2.2.2.1 o.2.2.2.2.2.2.2.2.2.2.1 o.2.2.2.2.2.2.2.2.2.2.2.1 m_tape m_sort m_sortAt m_told o.2.2.2.2.2.2.2.2.2.2.2.2.1 o.2.2.2.2.2.2.2.2.2.2.2.2.2 m_ends m_row) (some (.int (zi o.1))) := by
  refine Ct.start (by decide) (Nat.le_of_ble_eq_true rfl) (fun G X hR => ?_)
  refine x_ls (ls2 := [(0, .ref a0), (1, .int (zi x1)), (2, .int (zi x2)), (3, .int (zi x3))]) [0, 1, 2, 3] rfl ?_
  unfold m_Mod_loses at h
  refine x_iload_n (pc := 0) X d_Mod_loses_0 1 rfl rfl ?_
  obtain ⟨r1, h2, h⟩ := bnd_e h
  refine x_callS (pc := 1) (As := [.int (zi x1)]) (rest := []) (w2 := (w_Mod cI cB a0 a1 a2 a3 a4 a5 a6 a7 a8 a9 a10 a11 a12 a13 a14 a15 m_stepsMade m_stepsMost m_taped m_reading m_statements m_telling m_hasImage m_isKeeping m_cursor m_rowMany m_lots m_refused m_bytes m_owner m_block m_written m_waits m_kinds m_tape m_sort m_sortAt m_told m_kept m_was m_ends m_row)) X d_Mod_loses_1 lk_Mod_230 mv_Mod_isFile (c_Mod_isFile l D cI cB x1 h2) ⟨(Nat.le_of_ble_eq_true rfl), (Nat.le_of_ble_eq_true rfl), (Nat.le_of_ble_eq_true rfl), (Nat.le_of_ble_eq_true rfl)⟩ [] rfl rfl rfl (Up.same rfl) rfl rfl (Nat.le_of_ble_eq_true rfl) ?_
  obtain ⟨j3, hj66, h⟩ := jn_e h
  have J67 : ∀ (z4 : Int) (z5 : Int) (z6 : Int) (z7 : Int) (c8 : Int) (c9 : Int) (c10 : Int) (c11 : Int) (c12 : Int → Int) (c13 : Int → Int) (c14 : Int → Int) (c15 : Int → Int) (c16 : Int → Int) (c17 : Int → Int) (c18 : Int → Int) (c19 : Int → Int) (c20 : Int → Int), j3 z4 z5 z6 z7 c8 c9 c10 c11 c12 c13 c14 c15 c16 c17 c18 c19 c20 = some o → Wx G 0 0 18 [(0, .ref a0), (1, .int (zi z4)), (2, .int (zi z5)), (3, .int (zi z6))] [.int (zi z7)] (w_Mod cI cB a0 a1 a2 a3 a4 a5 a6 a7 a8 a9 a10 a11 a12 a13 a14 a15 c8 c9 m_taped m_reading m_statements m_telling m_hasImage c10 c11 m_rowMany m_lots c12 c13 c14 c15 c16 c17 c18 m_tape m_sort m_sortAt m_told c19 c20 m_ends m_row) := by
    intro z4 z5 z6 z7 c8 c9 c10 c11 c12 c13 c14 c15 c16 c17 c18 c19 c20 h
    rw [hj66] at h
    (try dsimp only at h)
    refine x_istore (pc := 18) (ls2 := [(4, .int (zi z7)), (0, .ref a0), (1, .int (zi z4)), (2, .int (zi z5)), (3, .int (zi z6))]) X d_Mod_loses_18 (Nat.le_of_ble_eq_true rfl) rfl ?_
    refine x_iload (pc := 20) X d_Mod_loses_20 0 rfl ?_
    obtain ⟨j21, hj62, h⟩ := jn_e h
    have J63 : ∀ (z22 : Int) (z23 : Int) (z24 : Int) (z25 : Int) (c26 : Int) (c27 : Int) (c28 : Int) (c29 : Int) (c30 : Int → Int) (c31 : Int → Int) (c32 : Int → Int) (c33 : Int → Int) (c34 : Int → Int) (c35 : Int → Int) (c36 : Int → Int) (c37 : Int → Int) (c38 : Int → Int), j21 z22 z23 z24 z25 c26 c27 c28 c29 c30 c31 c32 c33 c34 c35 c36 c37 c38 = some o → Wx G 0 0 38 [(0, .ref a0), (1, .int (zi z22)), (2, .int (zi z23)), (3, .int (zi z24)), (4, .int (zi z25))] [] (w_Mod cI cB a0 a1 a2 a3 a4 a5 a6 a7 a8 a9 a10 a11 a12 a13 a14 a15 c26 c27 m_taped m_reading m_statements m_telling m_hasImage c28 c29 m_rowMany m_lots c30 c31 c32 c33 c34 c35 c36 m_tape m_sort m_sortAt m_told c37 c38 m_ends m_row) := by
      intro z22 z23 z24 z25 c26 c27 c28 c29 c30 c31 c32 c33 c34 c35 c36 c37 c38 h
      rw [hj62] at h
      (try dsimp only at h)
      refine x_iload (pc := 38) X d_Mod_loses_38 4 rfl ?_
      refine x_ifeq (pc := 40) (tgt := 52) X d_Mod_loses_40 rfl h (fun h => ?_) (fun h => ?_)
      · skip
        refine x_aload_n (pc := 52) X d_Mod_loses_52 0 rfl rfl ?_
        refine x_iload_n (pc := 53) X d_Mod_loses_53 1 rfl rfl ?_
        refine x_iload_n (pc := 54) X d_Mod_loses_54 2 rfl rfl ?_
        refine x_iload_n (pc := 55) X d_Mod_loses_55 3 rfl rfl ?_
        refine x_iconst (pc := 56) X d_Mod_loses_56  ?_
        obtain ⟨j39, hj58, h⟩ := jn_e h
        have J59 : ∀ (z40 : Int) (z41 : Int) (z42 : Int) (c43 : Int) (c44 : Int) (c45 : Int) (c46 : Int) (c47 : Int → Int) (c48 : Int → Int) (c49 : Int → Int) (c50 : Int → Int) (c51 : Int → Int) (c52 : Int → Int) (c53 : Int → Int) (c54 : Int → Int) (c55 : Int → Int), j39 z40 z41 z42 c43 c44 c45 c46 c47 c48 c49 c50 c51 c52 c53 c54 c55 = some o → Wx G 0 0 65 [] [.int (zi z42), .int (zi z41), .int (zi z40), .ref a0] (w_Mod cI cB a0 a1 a2 a3 a4 a5 a6 a7 a8 a9 a10 a11 a12 a13 a14 a15 c43 c44 m_taped m_reading m_statements m_telling m_hasImage c45 c46 m_rowMany m_lots c47 c48 c49 c50 c51 c52 c53 m_tape m_sort m_sortAt m_told c54 c55 m_ends m_row) := by
          intro z40 z41 z42 c43 c44 c45 c46 c47 c48 c49 c50 c51 c52 c53 c54 c55 h
          rw [hj58] at h
          (try dsimp only at h)
          obtain ⟨r56, h57, h⟩ := bnd_e h
          refine x_callV (pc := 65) (As := [.int (zi z40), .int (zi z41), .int (zi z42)]) (rest := []) (w2 := (w_Mod cI cB a0 a1 a2 a3 a4 a5 a6 a7 a8 a9 a10 a11 a12 a13 a14 a15 r56.2.1 r56.2.2.1 m_taped m_reading m_statements m_telling m_hasImage r56.2.2.2.1 r56.2.2.2.2.1 m_rowMany m_lots c47 r56.2.2.2.2.2.1 r56.2.2.2.2.2.2.1 r56.2.2.2.2.2.2.2.1 r56.2.2.2.2.2.2.2.2.1 r56.2.2.2.2.2.2.2.2.2.1 r56.2.2.2.2.2.2.2.2.2.2.1 m_tape m_sort m_sortAt m_told r56.2.2.2.2.2.2.2.2.2.2.2.1 r56.2.2.2.2.2.2.2.2.2.2.2.2 m_ends m_row)) X d_Mod_loses_65 lk_Mod_315 mv_Mod_losesBy (c_Mod_losesBy l D cI cB a0 a1 a2 a3 a4 a5 a6 a7 a8 a9 a10 a11 a12 a13 a14 a15 c43 c44 m_taped m_reading m_statements m_telling m_hasImage c45 c46 m_rowMany m_lots c47 c48 c49 c50 c51 c52 c53 m_tape m_sort m_sortAt m_told c54 c55 m_ends m_row z40 z41 z42 h57) ⟨(Nat.le_of_ble_eq_true rfl), (Nat.le_of_ble_eq_true rfl), (Nat.le_of_ble_eq_true rfl), (Nat.le_of_ble_eq_true rfl)⟩ 0 rfl rfl [0, 1, 2, 3, 4, 5, 6, 7, 8, 9, 10, 11, 12, 13, 14, 15] rfl rfl rfl (Up.of [] [] rfl rfl rfl 16 rfl (by decide +kernel)) rfl rfl (Nat.le_of_ble_eq_true rfl) ?_
          cases h
          exact x_iret (pc := 68) X hR d_Mod_loses_68
        clear hj58
        refine x_icmpne (pc := 57) (tgt := 64) X d_Mod_loses_57 rfl h (fun h => ?_) (fun h => ?_)
        · skip
          refine x_iconst (pc := 64) X d_Mod_loses_64  ?_
          refine x_ls (ls2 := []) [] rfl ?_
          exact J59 z22 z23 0 c26 c27 c28 c29 c30 c31 c32 c33 c34 c35 c36 c37 c38 h
        · skip
          refine x_iconst (pc := 60) X d_Mod_loses_60  ?_
          refine x_goto (pc := 61) (tgt := 65) X d_Mod_loses_61 rfl ?_
          refine x_ls (ls2 := []) [] rfl ?_
          exact J59 z22 z23 1 c26 c27 c28 c29 c30 c31 c32 c33 c34 c35 c36 c37 c38 h
      · skip
        refine x_aload_n (pc := 43) X d_Mod_loses_43 0 rfl rfl ?_
        refine x_iload (pc := 44) X d_Mod_loses_44 4 rfl ?_
        obtain ⟨r60, h61, h⟩ := bnd_e h
        refine x_callV (pc := 46) (As := [.int (zi z25)]) (rest := []) (w2 := (w_Mod cI cB a0 a1 a2 a3 a4 a5 a6 a7 a8 a9 a10 a11 a12 a13 a14 a15 c26 c27 m_taped m_reading m_statements m_telling m_hasImage c28 c29 m_rowMany m_lots r60.2 c31 c32 c33 c34 c35 c36 m_tape m_sort m_sortAt m_told c37 c38 m_ends m_row)) X d_Mod_loses_46 lk_Mod_172 mv_Mod_no (c_Mod_no l D cI cB a0 a1 a2 a3 a4 a5 a6 a7 a8 a9 a10 a11 a12 a13 a14 a15 c26 c27 m_taped m_reading m_statements m_telling m_hasImage c28 c29 m_rowMany m_lots c30 c31 c32 c33 c34 c35 c36 m_tape m_sort m_sortAt m_told c37 c38 m_ends m_row z25 h61) ⟨(Nat.le_of_ble_eq_true rfl), (Nat.le_of_ble_eq_true rfl), (Nat.le_of_ble_eq_true rfl), (Nat.le_of_ble_eq_true rfl)⟩ 0 rfl rfl [0, 1, 2, 3, 4, 5, 6, 7, 8, 9, 10, 11, 12, 13, 14, 15] rfl rfl rfl (Up.of [] [] rfl rfl rfl 16 rfl (by decide +kernel)) rfl rfl (Nat.le_of_ble_eq_true rfl) ?_
        refine x_goto (pc := 49) (tgt := 68) X d_Mod_loses_49 rfl ?_
        cases h
        exact x_iret (pc := 68) X hR d_Mod_loses_68
    clear hj62
    refine x_ifne (pc := 22) (tgt := 38) X d_Mod_loses_22 rfl h (fun h => ?_) (fun h => ?_)
    · skip
      refine x_ls (ls2 := [(0, .ref a0), (1, .int (zi z4)), (2, .int (zi z5)), (3, .int (zi z6)), (4, .int (zi z7))]) [1, 2, 3, 4, 0] rfl ?_
      exact J63 z4 z5 z6 z7 c8 c9 c10 c11 c12 c13 c14 c15 c16 c17 c18 c19 c20 h
    · skip
      refine x_iload_n (pc := 25) X d_Mod_loses_25 4 rfl rfl ?_
      refine x_iconst (pc := 26) X d_Mod_loses_26  ?_
      refine x_iconst (pc := 27) X d_Mod_loses_27  ?_
      obtain ⟨r64, h65, h⟩ := bnd_e h
      refine x_callS (pc := 28) (As := [.int (zi z6), .int (zi 0), .int (zi 1)]) (rest := []) (w2 := (w_Mod cI cB a0 a1 a2 a3 a4 a5 a6 a7 a8 a9 a10 a11 a12 a13 a14 a15 c8 c9 m_taped m_reading m_statements m_telling m_hasImage c10 c11 m_rowMany m_lots c12 c13 c14 c15 c16 c17 c18 m_tape m_sort m_sortAt m_told c19 c20 m_ends m_row)) X d_Mod_loses_28 lk_Mod_58 mv_Mod_isIn (c_Mod_isIn l D cI cB z6 0 1 h65) ⟨(Nat.le_of_ble_eq_true rfl), (Nat.le_of_ble_eq_true rfl), (Nat.le_of_ble_eq_true rfl), (Nat.le_of_ble_eq_true rfl)⟩ [] rfl rfl rfl (Up.same rfl) rfl rfl (Nat.le_of_ble_eq_true rfl) ?_
      refine x_ifne (pc := 31) (tgt := 38) X d_Mod_loses_31 rfl h (fun h => ?_) (fun h => ?_)
      · skip
        refine x_ls (ls2 := [(0, .ref a0), (1, .int (zi z4)), (2, .int (zi z5)), (3, .int (zi z6)), (4, .int (zi z7))]) [1, 2, 3, 4, 0] rfl ?_
        exact J63 z4 z5 z6 z7 c8 c9 c10 c11 c12 c13 c14 c15 c16 c17 c18 c19 c20 h
      · skip
        refine x_bipush (pc := 34) (v := -2) X d_Mod_loses_34 rfl ?_
        refine x_istore (pc := 36) (ls2 := [(4, .int (zi (-2))), (0, .ref a0), (1, .int (zi z4)), (2, .int (zi z5)), (3, .int (zi z6))]) X d_Mod_loses_36 (Nat.le_of_ble_eq_true rfl) rfl ?_
        refine x_ls (ls2 := [(0, .ref a0), (1, .int (zi z4)), (2, .int (zi z5)), (3, .int (zi z6)), (4, .int (zi (-2)))]) [1, 2, 3, 4, 0] rfl ?_
        exact J63 z4 z5 z6 (-2) c8 c9 c10 c11 c12 c13 c14 c15 c16 c17 c18 c19 c20 h
  clear hj66
  refine x_ifne (pc := 4) (tgt := 11) X d_Mod_loses_4 rfl h (fun h => ?_) (fun h => ?_)
  · skip
    refine x_iload_n (pc := 11) X d_Mod_loses_11 2 rfl rfl ?_
    refine x_iconst (pc := 12) X d_Mod_loses_12  ?_
    refine x_bipush (pc := 13) (v := 99) X d_Mod_loses_13 rfl ?_
    obtain ⟨r68, h69, h⟩ := bnd_e h
    refine x_callS (pc := 15) (As := [.int (zi x2), .int (zi 0), .int (zi 99)]) (rest := []) (w2 := (w_Mod cI cB a0 a1 a2 a3 a4 a5 a6 a7 a8 a9 a10 a11 a12 a13 a14 a15 m_stepsMade m_stepsMost m_taped m_reading m_statements m_telling m_hasImage m_isKeeping m_cursor m_rowMany m_lots m_refused m_bytes m_owner m_block m_written m_waits m_kinds m_tape m_sort m_sortAt m_told m_kept m_was m_ends m_row)) X d_Mod_loses_15 lk_Mod_166 mv_Mod_bound (c_Mod_bound l D cI cB x2 0 99 h69) ⟨(Nat.le_of_ble_eq_true rfl), (Nat.le_of_ble_eq_true rfl), (Nat.le_of_ble_eq_true rfl), (Nat.le_of_ble_eq_true rfl)⟩ [] rfl rfl rfl (Up.same rfl) rfl rfl (Nat.le_of_ble_eq_true rfl) ?_
    exact J67 x1 x2 x3 r68 m_stepsMade m_stepsMost m_isKeeping m_cursor m_refused m_bytes m_owner m_block m_written m_waits m_kinds m_kept m_was h
  · skip
    refine x_iconst (pc := 7) X d_Mod_loses_7  ?_
    refine x_goto (pc := 8) (tgt := 18) X d_Mod_loses_8 rfl ?_
    exact J67 x1 x2 x3 (-1) m_stepsMade m_stepsMost m_isKeeping m_cursor m_refused m_bytes m_owner m_block m_written m_waits m_kinds m_kept m_was h
theorem d_Mod_safe_0 : decode b_Mod_safe 0 = .ok (.iload_n 1, 1) := by decide +kernel
theorem d_Mod_safe_1 : decode b_Mod_safe 1 = .ok (.invokestatic 230, 3) := by decide +kernel
theorem d_Mod_safe_4 : decode b_Mod_safe 4 = .ok (.ifCond .ne 9, 3) := by decide +kernel
theorem d_Mod_safe_7 : decode b_Mod_safe 7 = .ok (.aload_n 0, 1) := by decide +kernel
theorem d_Mod_safe_8 : decode b_Mod_safe 8 = .ok (.iconst (-1), 1) := by decide +kernel
theorem d_Mod_safe_9 : decode b_Mod_safe 9 = .ok (.invokevirtual 172, 3) := by decide +kernel
theorem d_Mod_safe_12 : decode b_Mod_safe 12 = .ok (.ireturn, 1) := by decide +kernel
theorem d_Mod_safe_13 : decode b_Mod_safe 13 = .ok (.iconst 0, 1) := by decide +kernel
theorem d_Mod_safe_14 : decode b_Mod_safe 14 = .ok (.istore_n 2, 1) := by decide +kernel
theorem d_Mod_safe_15 : decode b_Mod_safe 15 = .ok (.aload_n 0, 1) := by decide +kernel
theorem d_Mod_safe_16 : decode b_Mod_safe 16 = .ok (.iload_n 1, 1) := by decide +kernel
theorem d_Mod_safe_17 : decode b_Mod_safe 17 = .ok (.iload_n 2, 1) := by decide +kernel
theorem d_Mod_safe_18 : decode b_Mod_safe 18 = .ok (.iconst 0, 1) := by decide +kernel
theorem d_Mod_safe_19 : decode b_Mod_safe 19 = .ok (.invokevirtual 315, 3) := by decide +kernel
theorem d_Mod_safe_22 : decode b_Mod_safe 22 = .ok (.ifCond .le 9, 3) := by decide +kernel
theorem d_Mod_safe_25 : decode b_Mod_safe 25 = .ok (.iinc 2 1, 3) := by decide +kernel
theorem d_Mod_safe_28 : decode b_Mod_safe 28 = .ok (.goto (-13), 3) := by decide +kernel
theorem d_Mod_safe_31 : decode b_Mod_safe 31 = .ok (.iload_n 2, 1) := by decide +kernel
theorem d_Mod_safe_32 : decode b_Mod_safe 32 = .ok (.ireturn, 1) := by decide +kernel
def m_Mod_safe_15 : Nat → Int → Int → Int → Int → Int → Int → (Int → Int) → (Int → Int) → (Int → Int) → (Int → Int) → (Int → Int) → (Int → Int) → (Int → Int) → (Int → Int) → (Int → Int) → Option (Int × Int × Int × Int × Int × (Int → Int) × (Int → Int) × (Int → Int) × (Int → Int) × (Int → Int) × (Int → Int) × (Int → Int) × (Int → Int) × (Int → Int))
  | 0, _, _, _, _, _, _, _, _, _, _, _, _, _, _, _ => none
  | fuel + 1, v1, v2, m_stepsMade, m_stepsMost, m_isKeeping, m_cursor, m_refused, m_bytes, m_owner, m_block, m_written, m_waits, m_kinds, m_kept, m_was =>
  bnd (m_Mod_losesBy v1 v2 0 m_stepsMade m_stepsMost m_isKeeping m_cursor m_bytes m_owner m_block m_written m_waits m_kinds m_kept m_was) (fun r3 => cle r3.1 0 (some (v2, r3.2.1, r3.2.2.1, r3.2.2.2.1, r3.2.2.2.2.1, m_refused, r3.2.2.2.2.2.1, r3.2.2.2.2.2.2.1, r3.2.2.2.2.2.2.2.1, r3.2.2.2.2.2.2.2.2.1, r3.2.2.2.2.2.2.2.2.2.1, r3.2.2.2.2.2.2.2.2.2.2.1, r3.2.2.2.2.2.2.2.2.2.2.2.1, r3.2.2.2.2.2.2.2.2.2.2.2.2)) (m_Mod_safe_15 fuel v1 (v2 + 1) r3.2.1 r3.2.2.1 r3.2.2.2.1 r3.2.2.2.2.1 m_refused r3.2.2.2.2.2.1 r3.2.2.2.2.2.2.1 r3.2.2.2.2.2.2.2.1 r3.2.2.2.2.2.2.2.2.1 r3.2.2.2.2.2.2.2.2.2.1 r3.2.2.2.2.2.2.2.2.2.2.1 r3.2.2.2.2.2.2.2.2.2.2.2.1 r3.2.2.2.2.2.2.2.2.2.2.2.2))
def m_Mod_safe (x1 : Int) (m_stepsMade : Int) (m_stepsMost : Int) (m_isKeeping : Int) (m_cursor : Int) (m_refused : Int → Int) (m_bytes : Int → Int) (m_owner : Int → Int) (m_block : Int → Int) (m_written : Int → Int) (m_waits : Int → Int) (m_kinds : Int → Int) (m_kept : Int → Int) (m_was : Int → Int) : Option (Int × Int × Int × Int × Int × (Int → Int) × (Int → Int) × (Int → Int) × (Int → Int) × (Int → Int) × (Int → Int) × (Int → Int) × (Int → Int) × (Int → Int)) :=
  bnd (m_Mod_isFile x1) (fun r1 => ceq r1 0 (bnd (m_Mod_no (-1) m_refused) (fun r5 => some (r5.1, m_stepsMade, m_stepsMost, m_isKeeping, m_cursor, r5.2, m_bytes, m_owner, m_block, m_written, m_waits, m_kinds, m_kept, m_was))) (m_Mod_safe_15 5000 x1 0 m_stepsMade m_stepsMost m_isKeeping m_cursor m_refused m_bytes m_owner m_block m_written m_waits m_kinds m_kept m_was))
set_option maxHeartbeats 4000000 in
set_option maxRecDepth 100000 in
theorem l_Mod_safe_15 {G : GT} {l : Launch} {D : va_G} {cI cB : ClassId} {a0 a1 a2 a3 a4 a5 a6 a7 a8 a9 a10 a11 a12 a13 a14 a15 : Nat} {m_taped : Int} {m_reading : Int} {m_statements : Int} {m_telling : Int} {m_hasImage : Int} {m_rowMany : Int} {m_lots : Int} {m_tape : Int → Int} {m_sort : Int → Int} {m_sortAt : Int → Int} {m_told : Int → Int} {m_ends : Int → Int} {m_row : Int → Int} (X : Cx G l D cI cB b_Mod_safe y_Mod_safe.cls 3 { frames := 8, cells := 0, slots := 0, locals := 191 }) : ∀ (fuel : Nat) (v1 : Int) (v2 : Int) (m_stepsMade : Int) (m_stepsMost : Int) (m_isKeeping : Int) (m_cursor : Int) (m_refused : Int → Int) (m_bytes : Int → Int) (m_owner : Int → Int) (m_block : Int → Int) (m_written : Int → Int) (m_waits : Int → Int) (m_kinds : Int → Int) (m_kept : Int → Int) (m_was : Int → Int) (o : Int × Int × Int × Int × Int × (Int → Int) × (Int → Int) × (Int → Int) × (Int → Int) × (Int → Int) × (Int → Int) × (Int → Int) × (Int → Int) × (Int → Int)), m_Mod_safe_15 fuel v1 v2 m_stepsMade m_stepsMost m_isKeeping m_cursor m_refused m_bytes m_owner m_block m_written m_waits m_kinds m_kept m_was = some o → Rt G (some .int) (some (.int (zi o.1))) (w_Mod cI cB a0 a1 a2 a3 a4 a5 a6 a7 a8 a9 a10 a11 a12 a13 a14 a15 o.2.1 o.2.2.1 m_taped m_reading m_statements m_telling m_hasImage o.2.2.2.1 o.2.2.2.2.1 m_rowMany m_lots o.2.2.2.2.2.1 o.2.2.2.2.2.2.1 o.2.2.2.2.2.2.2.1 o.2.2.2.2.2.2.2.2.1 o.2.2.2.2.2.2.2.2.2.1 o.2.2.2.2.2.2.2.2.2.2.1 o.2.2.2.2.2.2.2.2.2.2.2.1 m_tape m_sort m_sortAt m_told o.2.2.2.2.2.2.2.2.2.2.2.2.1 o.2.2.2.2.2.2.2.2.2.2.2.2.2 m_ends m_row) → Wx G 0 0 15 [(0, .ref a0), (1, .int (zi v1)), (2, .int (zi v2))] [] (w_Mod cI cB a0 a1 a2 a3 a4 a5 a6 a7 a8 a9 a10 a11 a12 a13 a14 a15 m_stepsMade m_stepsMost m_taped m_reading m_statements m_telling m_hasImage m_isKeeping m_cursor m_rowMany m_lots m_refused m_bytes m_owner m_block m_written m_waits m_kinds m_tape m_sort m_sortAt m_told m_kept m_was m_ends m_row) := by
  intro fuel
  induction fuel with
  | zero =>
    intro v1 v2 m_stepsMade m_stepsMost m_isKeeping m_cursor m_refused m_bytes m_owner m_block m_written m_waits m_kinds m_kept m_was o h
    exact absurd h (by simp [m_Mod_safe_15])
  | succ fuel ih =>
    intro v1 v2 m_stepsMade m_stepsMost m_isKeeping m_cursor m_refused m_bytes m_owner m_block m_written m_waits m_kinds m_kept m_was o h hR
    rw [m_Mod_safe_15] at h
    refine x_aload_n (pc := 15) X d_Mod_safe_15 0 rfl rfl ?_
    refine x_iload_n (pc := 16) X d_Mod_safe_16 1 rfl rfl ?_
    refine x_iload_n (pc := 17) X d_Mod_safe_17 2 rfl rfl ?_
    refine x_iconst (pc := 18) X d_Mod_safe_18  ?_
    obtain ⟨r3, h4, h⟩ := bnd_e h
    refine x_callV (pc := 19) (As := [.int (zi v1), .int (zi v2), .int (zi 0)]) (rest := []) (w2 := (w_Mod cI cB a0 a1 a2 a3 a4 a5 a6 a7 a8 a9 a10 a11 a12 a13 a14 a15 r3.2.1 r3.2.2.1 m_taped m_reading m_statements m_telling m_hasImage r3.2.2.2.1 r3.2.2.2.2.1 m_rowMany m_lots m_refused r3.2.2.2.2.2.1 r3.2.2.2.2.2.2.1 r3.2.2.2.2.2.2.2.1 r3.2.2.2.2.2.2.2.2.1 r3.2.2.2.2.2.2.2.2.2.1 r3.2.2.2.2.2.2.2.2.2.2.1 m_tape m_sort m_sortAt m_told r3.2.2.2.2.2.2.2.2.2.2.2.1 r3.2.2.2.2.2.2.2.2.2.2.2.2 m_ends m_row)) X d_Mod_safe_19 lk_Mod_315 mv_Mod_losesBy (c_Mod_losesBy l D cI cB a0 a1 a2 a3 a4 a5 a6 a7 a8 a9 a10 a11 a12 a13 a14 a15 m_stepsMade m_stepsMost m_taped m_reading m_statements m_telling m_hasImage m_isKeeping m_cursor m_rowMany m_lots m_refused m_bytes m_owner m_block m_written m_waits m_kinds m_tape m_sort m_sortAt m_told m_kept m_was m_ends m_row v1 v2 0 h4) ⟨(Nat.le_of_ble_eq_true rfl), (Nat.le_of_ble_eq_true rfl), (Nat.le_of_ble_eq_true rfl), (Nat.le_of_ble_eq_true rfl)⟩ 0 rfl rfl [0, 1, 2, 3, 4, 5, 6, 7, 8, 9, 10, 11, 12, 13, 14, 15] rfl rfl rfl (Up.of [] [] rfl rfl rfl 16 rfl (by decide +kernel)) rfl rfl (Nat.le_of_ble_eq_true rfl) ?_
    refine x_ifle (pc := 22) (tgt := 31) X d_Mod_safe_22 rfl h (fun h => ?_) (fun h => ?_)
    · skip
      refine x_iload_n (pc := 31) X d_Mod_safe_31 2 rfl rfl ?_
      cases h
      exact x_iret (pc := 32) X hR d_Mod_safe_32
    · skip
      refine x_iinc (pc := 25) (ls2 := [(2, .int (zi (v2 + 1))), (0, .ref a0), (1, .int (zi v1))]) X d_Mod_safe_25 2 (Nat.le_of_ble_eq_true rfl) rfl rfl ?_
      refine x_goto (pc := 28) (tgt := 15) X d_Mod_safe_28 rfl ?_
      refine x_ls (ls2 := [(0, .ref a0), (1, .int (zi v1)), (2, .int (zi (v2 + 1)))]) [1, 2, 0] rfl ?_
      exact ih v1 (v2 + 1) r3.2.1 r3.2.2.1 r3.2.2.2.1 r3.2.2.2.2.1 m_refused r3.2.2.2.2.2.1 r3.2.2.2.2.2.2.1 r3.2.2.2.2.2.2.2.1 r3.2.2.2.2.2.2.2.2.1 r3.2.2.2.2.2.2.2.2.2.1 r3.2.2.2.2.2.2.2.2.2.2.1 r3.2.2.2.2.2.2.2.2.2.2.2.1 r3.2.2.2.2.2.2.2.2.2.2.2.2 o h hR
set_option maxHeartbeats 4000000 in
set_option maxRecDepth 100000 in
theorem c_Mod_safe (l : Launch) (D : va_G) (cI cB : ClassId) (a0 a1 a2 a3 a4 a5 a6 a7 a8 a9 a10 a11 a12 a13 a14 a15 : Nat) (m_stepsMade : Int) (m_stepsMost : Int) (m_taped : Int) (m_reading : Int) (m_statements : Int) (m_telling : Int) (m_hasImage : Int) (m_isKeeping : Int) (m_cursor : Int) (m_rowMany : Int) (m_lots : Int) (m_refused : Int → Int) (m_bytes : Int → Int) (m_owner : Int → Int) (m_block : Int → Int) (m_written : Int → Int) (m_waits : Int → Int) (m_kinds : Int → Int) (m_tape : Int → Int) (m_sort : Int → Int) (m_sortAt : Int → Int) (m_told : Int → Int) (m_kept : Int → Int) (m_was : Int → Int) (m_ends : Int → Int) (m_row : Int → Int) (x1 : Int) {o : Int × Int × Int × Int × Int × (Int → Int) × (Int → Int) × (Int → Int) × (Int → Int) × (Int → Int) × (Int → Int) × (Int → Int) × (Int → Int) × (Int → Int)} (h : m_Mod_safe x1 m_stepsMade m_stepsMost m_isKeeping m_cursor m_refused m_bytes m_owner m_block m_written m_waits m_kinds m_kept m_was = some o) : Ct l D cI cB y_Mod_safe b_Mod_safe 3 (some .int) { frames := 8, cells := 0, slots := 0, locals := 191 } [.ref a0, .int (zi x1)] (w_Mod cI cB a0 a1 a2 a3 a4 a5 a6 a7 a8 a9 a10 a11 a12 a13 a14 a15 m_stepsMade m_stepsMost m_taped m_reading m_statements m_telling m_hasImage m_isKeeping m_cursor m_rowMany m_lots m_refused m_bytes m_owner m_block m_written m_waits m_kinds m_tape m_sort m_sortAt m_told m_kept m_was m_ends m_row) (w_Mod cI cB a0 a1 a2 a3 a4 a5 a6 a7 a8 a9 a10 a11 a12 a13 a14 a15 o.2.1 o.2.2.1 m_taped m_reading m_statements m_telling m_hasImage o.2.2.2.1 o.2.2.2.2.1 m_rowMany m_lots o.2.2.2.2.2.1 o.2.2.2.2.2.2.1 o.2.2.2.2.2.2.2.1 o.2.2.2.2.2.2.2.2.1 o.2.2.2.2.2.2.2.2.2.1 o.2.2.2.2.2.2.2.2.2.2.1 o.2.2.2.2.2.2.2.2.2.2.2.1 m_tape m_sort m_sortAt m_told o.2.2.2.2.2.2.2.2.2.2.2.2.1 o.2.2.2.2.2.2.2.2.2.2.2.2.2 m_ends m_row) (some (.int (zi o.1))) := by
  refine Ct.start (by decide) (Nat.le_of_ble_eq_true rfl) (fun G X hR => ?_)
  refine x_ls (ls2 := [(0, .ref a0), (1, .int (zi x1))]) [0, 1] rfl ?_
  unfold m_Mod_safe at h
  refine x_iload_n (pc := 0) X d_Mod_safe_0 1 rfl rfl ?_
  obtain ⟨r1, h2, h⟩ := bnd_e h
  refine x_callS (pc := 1) (As := [.int (zi x1)]) (rest := []) (w2 := (w_Mod cI cB a0 a1 a2 a3 a4 a5 a6 a7 a8 a9 a10 a11 a12 a13 a14 a15 m_stepsMade m_stepsMost m_taped m_reading m_statements m_telling m_hasImage m_isKeeping m_cursor m_rowMany m_lots m_refused m_bytes m_owner m_block m_written m_waits m_kinds m_tape m_sort m_sortAt m_told m_kept m_was m_ends m_row)) X d_Mod_safe_1 lk_Mod_230 mv_Mod_isFile (c_Mod_isFile l D cI cB x1 h2) ⟨(Nat.le_of_ble_eq_true rfl), (Nat.le_of_ble_eq_true rfl), (Nat.le_of_ble_eq_true rfl), (Nat.le_of_ble_eq_true rfl)⟩ [] rfl rfl rfl (Up.same rfl) rfl rfl (Nat.le_of_ble_eq_true rfl) ?_
  refine x_ifne (pc := 4) (tgt := 13) X d_Mod_safe_4 rfl h (fun h => ?_) (fun h => ?_)
  · skip
    refine x_iconst (pc := 13) X d_Mod_safe_13  ?_
    refine x_istore_n (pc := 14) (ls2 := [(2, .int (zi 0)), (0, .ref a0), (1, .int (zi x1))]) X d_Mod_safe_14 rfl (Nat.le_of_ble_eq_true rfl) rfl ?_
    refine x_ls (ls2 := [(0, .ref a0), (1, .int (zi x1)), (2, .int (zi 0))]) [1, 2, 0] rfl ?_
    exact l_Mod_safe_15 X 5000 x1 0 m_stepsMade m_stepsMost m_isKeeping m_cursor m_refused m_bytes m_owner m_block m_written m_waits m_kinds m_kept m_was o h hR
  · skip
    refine x_aload_n (pc := 7) X d_Mod_safe_7 0 rfl rfl ?_
    refine x_iconst (pc := 8) X d_Mod_safe_8  ?_
    obtain ⟨r5, h6, h⟩ := bnd_e h
    refine x_callV (pc := 9) (As := [.int (zi (-1))]) (rest := []) (w2 := (w_Mod cI cB a0 a1 a2 a3 a4 a5 a6 a7 a8 a9 a10 a11 a12 a13 a14 a15 m_stepsMade m_stepsMost m_taped m_reading m_statements m_telling m_hasImage m_isKeeping m_cursor m_rowMany m_lots r5.2 m_bytes m_owner m_block m_written m_waits m_kinds m_tape m_sort m_sortAt m_told m_kept m_was m_ends m_row)) X d_Mod_safe_9 lk_Mod_172 mv_Mod_no (c_Mod_no l D cI cB a0 a1 a2 a3 a4 a5 a6 a7 a8 a9 a10 a11 a12 a13 a14 a15 m_stepsMade m_stepsMost m_taped m_reading m_statements m_telling m_hasImage m_isKeeping m_cursor m_rowMany m_lots m_refused m_bytes m_owner m_block m_written m_waits m_kinds m_tape m_sort m_sortAt m_told m_kept m_was m_ends m_row (-1) h6) ⟨(Nat.le_of_ble_eq_true rfl), (Nat.le_of_ble_eq_true rfl), (Nat.le_of_ble_eq_true rfl), (Nat.le_of_ble_eq_true rfl)⟩ 0 rfl rfl [0, 1, 2, 3, 4, 5, 6, 7, 8, 9, 10, 11, 12, 13, 14, 15] rfl rfl rfl (Up.of [] [] rfl rfl rfl 16 rfl (by decide +kernel)) rfl rfl (Nat.le_of_ble_eq_true rfl) ?_
    cases h
    exact x_iret (pc := 12) X hR d_Mod_safe_12
theorem d_Mod_notFreeIn_0 : decode b_Mod_notFreeIn 0 = .ok (.iconst 0, 1) := by decide +kernel
theorem d_Mod_notFreeIn_1 : decode b_Mod_notFreeIn 1 = .ok (.istore_n 3, 1) := by decide +kernel
theorem d_Mod_notFreeIn_2 : decode b_Mod_notFreeIn 2 = .ok (.iload_n 1, 1) := by decide +kernel
theorem d_Mod_notFreeIn_3 : decode b_Mod_notFreeIn 3 = .ok (.istore 4, 2) := by decide +kernel
theorem d_Mod_notFreeIn_5 : decode b_Mod_notFreeIn 5 = .ok (.iload 4, 2) := by decide +kernel
theorem d_Mod_notFreeIn_7 : decode b_Mod_notFreeIn 7 = .ok (.iload_n 1, 1) := by decide +kernel
theorem d_Mod_notFreeIn_8 : decode b_Mod_notFreeIn 8 = .ok (.iload_n 2, 1) := by decide +kernel
theorem d_Mod_notFreeIn_9 : decode b_Mod_notFreeIn 9 = .ok (.iadd, 1) := by decide +kernel
theorem d_Mod_notFreeIn_10 : decode b_Mod_notFreeIn 10 = .ok (.if_icmp .ge 27, 3) := by decide +kernel
theorem d_Mod_notFreeIn_13 : decode b_Mod_notFreeIn 13 = .ok (.iload_n 3, 1) := by decide +kernel
theorem d_Mod_notFreeIn_14 : decode b_Mod_notFreeIn 14 = .ok (.aload_n 0, 1) := by decide +kernel
theorem d_Mod_notFreeIn_15 : decode b_Mod_notFreeIn 15 = .ok (.getfield 16, 3) := by decide +kernel
theorem d_Mod_notFreeIn_18 : decode b_Mod_notFreeIn 18 = .ok (.iload 4, 2) := by decide +kernel
theorem d_Mod_notFreeIn_20 : decode b_Mod_notFreeIn 20 = .ok (.iaload, 1) := by decide +kernel
theorem d_Mod_notFreeIn_21 : decode b_Mod_notFreeIn 21 = .ok (.ifCond .lt 7, 3) := by decide +kernel
theorem d_Mod_notFreeIn_24 : decode b_Mod_notFreeIn 24 = .ok (.iconst 1, 1) := by decide +kernel
theorem d_Mod_notFreeIn_25 : decode b_Mod_notFreeIn 25 = .ok (.goto 4, 3) := by decide +kernel
theorem d_Mod_notFreeIn_28 : decode b_Mod_notFreeIn 28 = .ok (.iconst 0, 1) := by decide +kernel
theorem d_Mod_notFreeIn_29 : decode b_Mod_notFreeIn 29 = .ok (.iadd, 1) := by decide +kernel
theorem d_Mod_notFreeIn_30 : decode b_Mod_notFreeIn 30 = .ok (.istore_n 3, 1) := by decide +kernel
theorem d_Mod_notFreeIn_31 : decode b_Mod_notFreeIn 31 = .ok (.iinc 4 1, 3) := by decide +kernel
theorem d_Mod_notFreeIn_34 : decode b_Mod_notFreeIn 34 = .ok (.goto (-29), 3) := by decide +kernel
theorem d_Mod_notFreeIn_37 : decode b_Mod_notFreeIn 37 = .ok (.iload_n 3, 1) := by decide +kernel
theorem d_Mod_notFreeIn_38 : decode b_Mod_notFreeIn 38 = .ok (.ireturn, 1) := by decide +kernel
def m_Mod_notFreeIn_5 : Nat → Int → Int → Int → Int → (Int → Int) → Option (Int)
  | 0, _, _, _, _, _ => none
  | fuel + 1, v1, v2, v3, v4, m_owner =>
  clt v4 (v1 + v2) (gd (zx v4 64) (clt (m_owner v4) 0 (m_Mod_notFreeIn_5 fuel v1 v2 (v3 + 0) (v4 + 1) m_owner) (m_Mod_notFreeIn_5 fuel v1 v2 (v3 + 1) (v4 + 1) m_owner))) (some (v3))
def m_Mod_notFreeIn (x1 : Int) (x2 : Int) (m_owner : Int → Int) : Option (Int) :=
  m_Mod_notFreeIn_5 5000 x1 x2 0 x1 m_owner
set_option maxHeartbeats 4000000 in
set_option maxRecDepth 100000 in
theorem l_Mod_notFreeIn_5 {G : GT} {l : Launch} {D : va_G} {cI cB : ClassId} {a0 a1 a2 a3 a4 a5 a6 a7 a8 a9 a10 a11 a12 a13 a14 a15 : Nat} {m_stepsMade : Int} {m_stepsMost : Int} {m_taped : Int} {m_reading : Int} {m_statements : Int} {m_telling : Int} {m_hasImage : Int} {m_isKeeping : Int} {m_cursor : Int} {m_rowMany : Int} {m_lots : Int} {m_refused : Int → Int} {m_bytes : Int → Int} {m_block : Int → Int} {m_written : Int → Int} {m_waits : Int → Int} {m_kinds : Int → Int} {m_tape : Int → Int} {m_sort : Int → Int} {m_sortAt : Int → Int} {m_told : Int → Int} {m_kept : Int → Int} {m_was : Int → Int} {m_ends : Int → Int} {m_row : Int → Int} (X : Cx G l D cI cB b_Mod_notFreeIn y_Mod_notFreeIn.cls 5 { frames := 0, cells := 0, slots := 0, locals := 0 }) : ∀ (fuel : Nat) (v1 : Int) (v2 : Int) (v3 : Int) (v4 : Int) (m_owner : Int → Int) (o : Int), m_Mod_notFreeIn_5 fuel v1 v2 v3 v4 m_owner = some o → Rt G (some .int) (some (.int (zi o))) (w_Mod cI cB a0 a1 a2 a3 a4 a5 a6 a7 a8 a9 a10 a11 a12 a13 a14 a15 m_stepsMade m_stepsMost m_taped m_reading m_statements m_telling m_hasImage m_isKeeping m_cursor m_rowMany m_lots m_refused m_bytes m_owner m_block m_written m_waits m_kinds m_tape m_sort m_sortAt m_told m_kept m_was m_ends m_row) → Wx G 0 0 5 [(0, .ref a0), (1, .int (zi v1)), (2, .int (zi v2)), (3, .int (zi v3)), (4, .int (zi v4))] [] (w_Mod cI cB a0 a1 a2 a3 a4 a5 a6 a7 a8 a9 a10 a11 a12 a13 a14 a15 m_stepsMade m_stepsMost m_taped m_reading m_statements m_telling m_hasImage m_isKeeping m_cursor m_rowMany m_lots m_refused m_bytes m_owner m_block m_written m_waits m_kinds m_tape m_sort m_sortAt m_told m_kept m_was m_ends m_row) := by
  intro fuel
  induction fuel with
  | zero =>
    intro v1 v2 v3 v4 m_owner o h
    exact absurd h (by simp [m_Mod_notFreeIn_5])
  | succ fuel ih =>
    intro v1 v2 v3 v4 m_owner o h hR
    rw [m_Mod_notFreeIn_5] at h
    refine x_iload (pc := 5) X d_Mod_notFreeIn_5 4 rfl ?_
    refine x_iload_n (pc := 7) X d_Mod_notFreeIn_7 1 rfl rfl ?_
    refine x_iload_n (pc := 8) X d_Mod_notFreeIn_8 2 rfl rfl ?_
    refine x_iadd (pc := 9) X d_Mod_notFreeIn_9  ?_
    refine x_icmpge (pc := 10) (tgt := 37) X d_Mod_notFreeIn_10 rfl h (fun h => ?_) (fun h => ?_)
    · skip
      refine x_iload_n (pc := 37) X d_Mod_notFreeIn_37 3 rfl rfl ?_
      cases h
      exact x_iret (pc := 38) X hR d_Mod_notFreeIn_38
    · skip
      refine x_iload_n (pc := 13) X d_Mod_notFreeIn_13 3 rfl rfl ?_
      refine x_aload_n (pc := 14) X d_Mod_notFreeIn_14 0 rfl rfl ?_
      refine x_get (pc := 15) X d_Mod_notFreeIn_15 0 rfl fl_Mod_16 rfl ?_
      refine x_iload (pc := 18) X d_Mod_notFreeIn_18 4 rfl ?_
      refine x_iald (pc := 20) X d_Mod_notFreeIn_20 3 rfl (Nat.le_of_ble_eq_true rfl) rfl h (fun h => ?_)
      refine x_iflt (pc := 21) (tgt := 28) X d_Mod_notFreeIn_21 rfl h (fun h => ?_) (fun h => ?_)
      · skip
        refine x_iconst (pc := 28) X d_Mod_notFreeIn_28  ?_
        refine x_iadd (pc := 29) X d_Mod_notFreeIn_29  ?_
        refine x_istore_n (pc := 30) (ls2 := [(3, .int (zi (v3 + 0))), (0, .ref a0), (1, .int (zi v1)), (2, .int (zi v2)), (4, .int (zi v4))]) X d_Mod_notFreeIn_30 rfl (Nat.le_of_ble_eq_true rfl) rfl ?_
        refine x_iinc (pc := 31) (ls2 := [(4, .int (zi (v4 + 1))), (3, .int (zi (v3 + 0))), (0, .ref a0), (1, .int (zi v1)), (2, .int (zi v2))]) X d_Mod_notFreeIn_31 4 (Nat.le_of_ble_eq_true rfl) rfl rfl ?_
        refine x_goto (pc := 34) (tgt := 5) X d_Mod_notFreeIn_34 rfl ?_
        refine x_ls (ls2 := [(0, .ref a0), (1, .int (zi v1)), (2, .int (zi v2)), (3, .int (zi (v3 + 0))), (4, .int (zi (v4 + 1)))]) [2, 3, 4, 1, 0] rfl ?_
        exact ih v1 v2 (v3 + 0) (v4 + 1) m_owner o h hR
      · skip
        refine x_iconst (pc := 24) X d_Mod_notFreeIn_24  ?_
        refine x_goto (pc := 25) (tgt := 29) X d_Mod_notFreeIn_25 rfl ?_
        refine x_iadd (pc := 29) X d_Mod_notFreeIn_29  ?_
        refine x_istore_n (pc := 30) (ls2 := [(3, .int (zi (v3 + 1))), (0, .ref a0), (1, .int (zi v1)), (2, .int (zi v2)), (4, .int (zi v4))]) X d_Mod_notFreeIn_30 rfl (Nat.le_of_ble_eq_true rfl) rfl ?_
        refine x_iinc (pc := 31) (ls2 := [(4, .int (zi (v4 + 1))), (3, .int (zi (v3 + 1))), (0, .ref a0), (1, .int (zi v1)), (2, .int (zi v2))]) X d_Mod_notFreeIn_31 4 (Nat.le_of_ble_eq_true rfl) rfl rfl ?_
        refine x_goto (pc := 34) (tgt := 5) X d_Mod_notFreeIn_34 rfl ?_
        refine x_ls (ls2 := [(0, .ref a0), (1, .int (zi v1)), (2, .int (zi v2)), (3, .int (zi (v3 + 1))), (4, .int (zi (v4 + 1)))]) [2, 3, 4, 1, 0] rfl ?_
        exact ih v1 v2 (v3 + 1) (v4 + 1) m_owner o h hR
set_option maxHeartbeats 4000000 in
set_option maxRecDepth 100000 in
theorem c_Mod_notFreeIn (l : Launch) (D : va_G) (cI cB : ClassId) (a0 a1 a2 a3 a4 a5 a6 a7 a8 a9 a10 a11 a12 a13 a14 a15 : Nat) (m_stepsMade : Int) (m_stepsMost : Int) (m_taped : Int) (m_reading : Int) (m_statements : Int) (m_telling : Int) (m_hasImage : Int) (m_isKeeping : Int) (m_cursor : Int) (m_rowMany : Int) (m_lots : Int) (m_refused : Int → Int) (m_bytes : Int → Int) (m_owner : Int → Int) (m_block : Int → Int) (m_written : Int → Int) (m_waits : Int → Int) (m_kinds : Int → Int) (m_tape : Int → Int) (m_sort : Int → Int) (m_sortAt : Int → Int) (m_told : Int → Int) (m_kept : Int → Int) (m_was : Int → Int) (m_ends : Int → Int) (m_row : Int → Int) (x1 : Int) (x2 : Int) {o : Int} (h : m_Mod_notFreeIn x1 x2 m_owner = some o) : Ct l D cI cB y_Mod_notFreeIn b_Mod_notFreeIn 5 (some .int) { frames := 0, cells := 0, slots := 0, locals := 0 } [.ref a0, .int (zi x1), .int (zi x2)] (w_Mod cI cB a0 a1 a2 a3 a4 a5 a6 a7 a8 a9 a10 a11 a12 a13 a14 a15 m_stepsMade m_stepsMost m_taped m_reading m_statements m_telling m_hasImage m_isKeeping m_cursor m_rowMany m_lots m_refused m_bytes m_owner m_block m_written m_waits m_kinds m_tape m_sort m_sortAt m_told m_kept m_was m_ends m_row) (w_Mod cI cB a0 a1 a2 a3 a4 a5 a6 a7 a8 a9 a10 a11 a12 a13 a14 a15 m_stepsMade m_stepsMost m_taped m_reading m_statements m_telling m_hasImage m_isKeeping m_cursor m_rowMany m_lots m_refused m_bytes m_owner m_block m_written m_waits m_kinds m_tape m_sort m_sortAt m_told m_kept m_was m_ends m_row) (some (.int (zi o))) := by
  refine Ct.start (by decide) (Nat.le_of_ble_eq_true rfl) (fun G X hR => ?_)
  refine x_ls (ls2 := [(0, .ref a0), (1, .int (zi x1)), (2, .int (zi x2))]) [0, 1, 2] rfl ?_
  unfold m_Mod_notFreeIn at h
  refine x_iconst (pc := 0) X d_Mod_notFreeIn_0  ?_
  refine x_istore_n (pc := 1) (ls2 := [(3, .int (zi 0)), (0, .ref a0), (1, .int (zi x1)), (2, .int (zi x2))]) X d_Mod_notFreeIn_1 rfl (Nat.le_of_ble_eq_true rfl) rfl ?_
  refine x_iload_n (pc := 2) X d_Mod_notFreeIn_2 2 rfl rfl ?_
  refine x_istore (pc := 3) (ls2 := [(4, .int (zi x1)), (3, .int (zi 0)), (0, .ref a0), (1, .int (zi x1)), (2, .int (zi x2))]) X d_Mod_notFreeIn_3 (Nat.le_of_ble_eq_true rfl) rfl ?_
  refine x_ls (ls2 := [(0, .ref a0), (1, .int (zi x1)), (2, .int (zi x2)), (3, .int (zi 0)), (4, .int (zi x1))]) [2, 3, 4, 1, 0] rfl ?_
  exact l_Mod_notFreeIn_5 X 5000 x1 x2 0 x1 m_owner o h hR
theorem d_Mod_gather_0 : decode b_Mod_gather 0 = .ok (.iload_n 1, 1) := by decide +kernel
theorem d_Mod_gather_1 : decode b_Mod_gather 1 = .ok (.iconst 1, 1) := by decide +kernel
theorem d_Mod_gather_2 : decode b_Mod_gather 2 = .ok (.bipush 64, 2) := by decide +kernel
theorem d_Mod_gather_4 : decode b_Mod_gather 4 = .ok (.invokestatic 166, 3) := by decide +kernel
theorem d_Mod_gather_7 : decode b_Mod_gather 7 = .ok (.istore_n 3, 1) := by decide +kernel
theorem d_Mod_gather_8 : decode b_Mod_gather 8 = .ok (.iload_n 3, 1) := by decide +kernel
theorem d_Mod_gather_9 : decode b_Mod_gather 9 = .ok (.ifCond .ne 15, 3) := by decide +kernel
theorem d_Mod_gather_12 : decode b_Mod_gather 12 = .ok (.iload_n 2, 1) := by decide +kernel
theorem d_Mod_gather_13 : decode b_Mod_gather 13 = .ok (.iconst 0, 1) := by decide +kernel
theorem d_Mod_gather_14 : decode b_Mod_gather 14 = .ok (.iconst 1, 1) := by decide +kernel
theorem d_Mod_gather_15 : decode b_Mod_gather 15 = .ok (.invokestatic 58, 3) := by decide +kernel
theorem d_Mod_gather_18 : decode b_Mod_gather 18 = .ok (.ifCond .ne 6, 3) := by decide +kernel
theorem d_Mod_gather_21 : decode b_Mod_gather 21 = .ok (.bipush (-2), 2) := by decide +kernel
theorem d_Mod_gather_23 : decode b_Mod_gather 23 = .ok (.istore_n 3, 1) := by decide +kernel
theorem d_Mod_gather_24 : decode b_Mod_gather 24 = .ok (.iload_n 3, 1) := by decide +kernel
theorem d_Mod_gather_25 : decode b_Mod_gather 25 = .ok (.ifCond .eq 9, 3) := by decide +kernel
theorem d_Mod_gather_28 : decode b_Mod_gather 28 = .ok (.aload_n 0, 1) := by decide +kernel
theorem d_Mod_gather_29 : decode b_Mod_gather 29 = .ok (.iload_n 3, 1) := by decide +kernel
theorem d_Mod_gather_30 : decode b_Mod_gather 30 = .ok (.invokevirtual 172, 3) := by decide +kernel
theorem d_Mod_gather_33 : decode b_Mod_gather 33 = .ok (.ireturn, 1) := by decide +kernel
theorem d_Mod_gather_34 : decode b_Mod_gather 34 = .ok (.bipush (-9), 2) := by decide +kernel
theorem d_Mod_gather_36 : decode b_Mod_gather 36 = .ok (.istore 4, 2) := by decide +kernel
theorem d_Mod_gather_38 : decode b_Mod_gather 38 = .ok (.bipush (-9), 2) := by decide +kernel
theorem d_Mod_gather_40 : decode b_Mod_gather 40 = .ok (.istore 5, 2) := by decide +kernel
theorem d_Mod_gather_42 : decode b_Mod_gather 42 = .ok (.iconst 0, 1) := by decide +kernel
theorem d_Mod_gather_43 : decode b_Mod_gather 43 = .ok (.istore 6, 2) := by decide +kernel
theorem d_Mod_gather_45 : decode b_Mod_gather 45 = .ok (.iload 6, 2) := by decide +kernel
theorem d_Mod_gather_47 : decode b_Mod_gather 47 = .ok (.iload_n 1, 1) := by decide +kernel
theorem d_Mod_gather_48 : decode b_Mod_gather 48 = .ok (.iadd, 1) := by decide +kernel
theorem d_Mod_gather_49 : decode b_Mod_gather 49 = .ok (.bipush 64, 2) := by decide +kernel
theorem d_Mod_gather_51 : decode b_Mod_gather 51 = .ok (.if_icmp .gt 55, 3) := by decide +kernel
theorem d_Mod_gather_54 : decode b_Mod_gather 54 = .ok (.aload_n 0, 1) := by decide +kernel
theorem d_Mod_gather_55 : decode b_Mod_gather 55 = .ok (.iload 6, 2) := by decide +kernel
theorem d_Mod_gather_57 : decode b_Mod_gather 57 = .ok (.iload_n 1, 1) := by decide +kernel
theorem d_Mod_gather_58 : decode b_Mod_gather 58 = .ok (.invokevirtual 319, 3) := by decide +kernel
theorem d_Mod_gather_61 : decode b_Mod_gather 61 = .ok (.istore 7, 2) := by decide +kernel
theorem d_Mod_gather_63 : decode b_Mod_gather 63 = .ok (.iload 7, 2) := by decide +kernel
theorem d_Mod_gather_65 : decode b_Mod_gather 65 = .ok (.aload_n 0, 1) := by decide +kernel
theorem d_Mod_gather_66 : decode b_Mod_gather 66 = .ok (.invokevirtual 72, 3) := by decide +kernel
theorem d_Mod_gather_69 : decode b_Mod_gather 69 = .ok (.iload_n 1, 1) := by decide +kernel
theorem d_Mod_gather_70 : decode b_Mod_gather 70 = .ok (.iload 7, 2) := by decide +kernel
theorem d_Mod_gather_72 : decode b_Mod_gather 72 = .ok (.isub, 1) := by decide +kernel
theorem d_Mod_gather_73 : decode b_Mod_gather 73 = .ok (.isub, 1) := by decide +kernel
theorem d_Mod_gather_74 : decode b_Mod_gather 74 = .ok (.if_icmp .gt 26, 3) := by decide +kernel
theorem d_Mod_gather_77 : decode b_Mod_gather 77 = .ok (.iload 4, 2) := by decide +kernel
theorem d_Mod_gather_79 : decode b_Mod_gather 79 = .ok (.ifCond .lt 13, 3) := by decide +kernel
theorem d_Mod_gather_82 : decode b_Mod_gather 82 = .ok (.iload 7, 2) := by decide +kernel
theorem d_Mod_gather_84 : decode b_Mod_gather 84 = .ok (.iload 5, 2) := by decide +kernel
theorem d_Mod_gather_86 : decode b_Mod_gather 86 = .ok (.if_icmp .lt 6, 3) := by decide +kernel
theorem d_Mod_gather_89 : decode b_Mod_gather 89 = .ok (.goto 11, 3) := by decide +kernel
theorem d_Mod_gather_92 : decode b_Mod_gather 92 = .ok (.iload 6, 2) := by decide +kernel
theorem d_Mod_gather_94 : decode b_Mod_gather 94 = .ok (.istore 4, 2) := by decide +kernel
theorem d_Mod_gather_96 : decode b_Mod_gather 96 = .ok (.iload 7, 2) := by decide +kernel
theorem d_Mod_gather_98 : decode b_Mod_gather 98 = .ok (.istore 5, 2) := by decide +kernel
theorem d_Mod_gather_100 : decode b_Mod_gather 100 = .ok (.iinc 6 1, 3) := by decide +kernel
theorem d_Mod_gather_103 : decode b_Mod_gather 103 = .ok (.goto (-58), 3) := by decide +kernel
theorem d_Mod_gather_106 : decode b_Mod_gather 106 = .ok (.iload_n 2, 1) := by decide +kernel
theorem d_Mod_gather_107 : decode b_Mod_gather 107 = .ok (.ifCond .ne 8, 3) := by decide +kernel
theorem d_Mod_gather_110 : decode b_Mod_gather 110 = .ok (.iload 4, 2) := by decide +kernel
theorem d_Mod_gather_112 : decode b_Mod_gather 112 = .ok (.goto 5, 3) := by decide +kernel
theorem d_Mod_gather_115 : decode b_Mod_gather 115 = .ok (.iload 5, 2) := by decide +kernel
theorem d_Mod_gather_117 : decode b_Mod_gather 117 = .ok (.ireturn, 1) := by decide +kernel
def m_Mod_gather_45 : Nat → Int → Int → Int → Int → Int → (Int → Int) → (Int → Int) → Option (Int × (Int → Int))
  | 0, _, _, _, _, _, _, _ => none
  | fuel + 1, v1, v2, v4, v5, v6, m_refused, m_owner =>
  cle (v6 + v1) 64 (bnd (m_Mod_notFreeIn v6 v1 m_owner) (fun r8 => bnd (m_Mod_freeBlocks m_owner) (fun r10 => cle r8 (r10 - (v1 - r8)) (clt v4 0 (m_Mod_gather_45 fuel v1 v2 v6 r8 (v6 + 1) m_refused m_owner) (clt r8 v5 (m_Mod_gather_45 fuel v1 v2 v6 r8 (v6 + 1) m_refused m_owner) (m_Mod_gather_45 fuel v1 v2 v4 v5 (v6 + 1) m_refused m_owner))) (m_Mod_gather_45 fuel v1 v2 v4 v5 (v6 + 1) m_refused m_owner)))) (ceq v2 0 (some (v4, m_refused)) (some (v5, m_refused)))
def m_Mod_gather (x1 : Int) (x2 : Int) (m_refused : Int → Int) (m_owner : Int → Int) : Option (Int × (Int → Int)) :=
  bnd (m_Mod_bound x1 1 64) (fun r1 => jn (fun (z4 : Int) (z5 : Int) (z6 : Int) (c7 : Int → Int) => ceq z6 0 (m_Mod_gather_45 5000 z4 z5 (-9) (-9) 0 c7 m_owner) (bnd (m_Mod_no z6 c7) (fun r12 => some (r12.1, r12.2)))) (fun j3 => ceq r1 0 (bnd (m_Mod_isIn x2 0 1) (fun r16 => ceq r16 0 (j3 x1 x2 (-2) m_refused) (j3 x1 x2 r1 m_refused))) (j3 x1 x2 r1 m_refused)))
set_option maxHeartbeats 4000000 in
set_option maxRecDepth 100000 in
theorem l_Mod_gather_45 {G : GT} {l : Launch} {D : va_G} {cI cB : ClassId} {a0 a1 a2 a3 a4 a5 a6 a7 a8 a9 a10 a11 a12 a13 a14 a15 : Nat} {m_stepsMade : Int} {m_stepsMost : Int} {m_taped : Int} {m_reading : Int} {m_statements : Int} {m_telling : Int} {m_hasImage : Int} {m_isKeeping : Int} {m_cursor : Int} {m_rowMany : Int} {m_lots : Int} {m_bytes : Int → Int} {m_block : Int → Int} {m_written : Int → Int} {m_waits : Int → Int} {m_kinds : Int → Int} {m_tape : Int → Int} {m_sort : Int → Int} {m_sortAt : Int → Int} {m_told : Int → Int} {m_kept : Int → Int} {m_was : Int → Int} {m_ends : Int → Int} {m_row : Int → Int} (X : Cx G l D cI cB b_Mod_gather y_Mod_gather.cls 8 { frames := 1, cells := 0, slots := 0, locals := 24 }) : ∀ (fuel : Nat) (v1 : Int) (v2 : Int) (v4 : Int) (v5 : Int) (v6 : Int) (m_refused : Int → Int) (m_owner : Int → Int) (o : Int × (Int → Int)), m_Mod_gather_45 fuel v1 v2 v4 v5 v6 m_refused m_owner = some o → Rt G (some .int) (some (.int (zi o.1))) (w_Mod cI cB a0 a1 a2 a3 a4 a5 a6 a7 a8 a9 a10 a11 a12 a13 a14 a15 m_stepsMade m_stepsMost m_taped m_reading m_statements m_telling m_hasImage m_isKeeping m_cursor m_rowMany m_lots o.2 m_bytes m_owner m_block m_written m_waits m_kinds m_tape m_sort m_sortAt m_told m_kept m_was m_ends m_row) → Wx G 0 0 45 [(0, .ref a0), (1, .int (zi v1)), (2, .int (zi v2)), (4, .int (zi v4)), (5, .int (zi v5)), (6, .int (zi v6))] [] (w_Mod cI cB a0 a1 a2 a3 a4 a5 a6 a7 a8 a9 a10 a11 a12 a13 a14 a15 m_stepsMade m_stepsMost m_taped m_reading m_statements m_telling m_hasImage m_isKeeping m_cursor m_rowMany m_lots m_refused m_bytes m_owner m_block m_written m_waits m_kinds m_tape m_sort m_sortAt m_told m_kept m_was m_ends m_row) := by
  intro fuel
  induction fuel with
  | zero =>
    intro v1 v2 v4 v5 v6 m_refused m_owner o h
    exact absurd h (by simp [m_Mod_gather_45])
  | succ fuel ih =>
    intro v1 v2 v4 v5 v6 m_refused m_owner o h hR
    rw [m_Mod_gather_45] at h
    refine x_iload (pc := 45) X d_Mod_gather_45 5 rfl ?_
    refine x_iload_n (pc := 47) X d_Mod_gather_47 1 rfl rfl ?_
    refine x_iadd (pc := 48) X d_Mod_gather_48  ?_
    refine x_bipush (pc := 49) (v := 64) X d_Mod_gather_49 rfl ?_
    refine x_icmpgt (pc := 51) (tgt := 106) X d_Mod_gather_51 rfl h (fun h => ?_) (fun h => ?_)
    · skip
      refine x_iload_n (pc := 106) X d_Mod_gather_106 2 rfl rfl ?_
      refine x_ifne (pc := 107) (tgt := 115) X d_Mod_gather_107 rfl h (fun h => ?_) (fun h => ?_)
      · skip
        refine x_iload (pc := 115) X d_Mod_gather_115 4 rfl ?_
        cases h
        exact x_iret (pc := 117) X hR d_Mod_gather_117
      · skip
        refine x_iload (pc := 110) X d_Mod_gather_110 3 rfl ?_
        refine x_goto (pc := 112) (tgt := 117) X d_Mod_gather_112 rfl ?_
        cases h
        exact x_iret (pc := 117) X hR d_Mod_gather_117
    · skip
      refine x_aload_n (pc := 54) X d_Mod_gather_54 0 rfl rfl ?_
      refine x_iload (pc := 55) X d_Mod_gather_55 5 rfl ?_
      refine x_iload_n (pc := 57) X d_Mod_gather_57 1 rfl rfl ?_
      obtain ⟨r8, h9, h⟩ := bnd_e h
      refine x_callV (pc := 58) (As := [.int (zi v6), .int (zi v1)]) (rest := []) (w2 := (w_Mod cI cB a0 a1 a2 a3 a4 a5 a6 a7 a8 a9 a10 a11 a12 a13 a14 a15 m_stepsMade m_stepsMost m_taped m_reading m_statements m_telling m_hasImage m_isKeeping m_cursor m_rowMany m_lots m_refused m_bytes m_owner m_block m_written m_waits m_kinds m_tape m_sort m_sortAt m_told m_kept m_was m_ends m_row)) X d_Mod_gather_58 lk_Mod_319 mv_Mod_notFreeIn (c_Mod_notFreeIn l D cI cB a0 a1 a2 a3 a4 a5 a6 a7 a8 a9 a10 a11 a12 a13 a14 a15 m_stepsMade m_stepsMost m_taped m_reading m_statements m_telling m_hasImage m_isKeeping m_cursor m_rowMany m_lots m_refused m_bytes m_owner m_block m_written m_waits m_kinds m_tape m_sort m_sortAt m_told m_kept m_was m_ends m_row v6 v1 h9) ⟨(Nat.le_of_ble_eq_true rfl), (Nat.le_of_ble_eq_true rfl), (Nat.le_of_ble_eq_true rfl), (Nat.le_of_ble_eq_true rfl)⟩ 0 rfl rfl [0, 1, 2, 3, 4, 5, 6, 7, 8, 9, 10, 11, 12, 13, 14, 15] rfl rfl rfl (Up.same rfl) rfl rfl (Nat.le_of_ble_eq_true rfl) ?_
      refine x_istore (pc := 61) (ls2 := [(7, .int (zi r8)), (0, .ref a0), (1, .int (zi v1)), (2, .int (zi v2)), (4, .int (zi v4)), (5, .int (zi v5)), (6, .int (zi v6))]) X d_Mod_gather_61 (Nat.le_of_ble_eq_true rfl) rfl ?_
      refine x_iload (pc := 63) X d_Mod_gather_63 0 rfl ?_
      refine x_aload_n (pc := 65) X d_Mod_gather_65 1 rfl rfl ?_
      obtain ⟨r10, h11, h⟩ := bnd_e h
      refine x_callV (pc := 66) (As := []) (rest := [.int (zi r8)]) (w2 := (w_Mod cI cB a0 a1 a2 a3 a4 a5 a6 a7 a8 a9 a10 a11 a12 a13 a14 a15 m_stepsMade m_stepsMost m_taped m_reading m_statements m_telling m_hasImage m_isKeeping m_cursor m_rowMany m_lots m_refused m_bytes m_owner m_block m_written m_waits m_kinds m_tape m_sort m_sortAt m_told m_kept m_was m_ends m_row)) X d_Mod_gather_66 lk_Mod_72 mv_Mod_freeBlocks (c_Mod_freeBlocks l D cI cB a0 a1 a2 a3 a4 a5 a6 a7 a8 a9 a10 a11 a12 a13 a14 a15 m_stepsMade m_stepsMost m_taped m_reading m_statements m_telling m_hasImage m_isKeeping m_cursor m_rowMany m_lots m_refused m_bytes m_owner m_block m_written m_waits m_kinds m_tape m_sort m_sortAt m_told m_kept m_was m_ends m_row h11) ⟨(Nat.le_of_ble_eq_true rfl), (Nat.le_of_ble_eq_true rfl), (Nat.le_of_ble_eq_true rfl), (Nat.le_of_ble_eq_true rfl)⟩ 0 rfl rfl [0, 1, 2, 3, 4, 5, 6, 7, 8, 9, 10, 11, 12, 13, 14, 15] rfl rfl rfl (Up.same rfl) rfl rfl (Nat.le_of_ble_eq_true rfl) ?_
      refine x_iload_n (pc := 69) X d_Mod_gather_69 2 rfl rfl ?_
      refine x_iload (pc := 70) X d_Mod_gather_70 0 rfl ?_
      refine x_isub (pc := 72) X d_Mod_gather_72  ?_
      refine x_isub (pc := 73) X d_Mod_gather_73  ?_
      refine x_icmpgt (pc := 74) (tgt := 100) X d_Mod_gather_74 rfl h (fun h => ?_) (fun h => ?_)
      · skip
        refine x_iinc (pc := 100) (ls2 := [(6, .int (zi (v6 + 1))), (7, .int (zi r8)), (0, .ref a0), (1, .int (zi v1)), (2, .int (zi v2)), (4, .int (zi v4)), (5, .int (zi v5))]) X d_Mod_gather_100 6 (Nat.le_of_ble_eq_true rfl) rfl rfl ?_
        refine x_goto (pc := 103) (tgt := 45) X d_Mod_gather_103 rfl ?_
        refine x_ls (ls2 := [(0, .ref a0), (1, .int (zi v1)), (2, .int (zi v2)), (4, .int (zi v4)), (5, .int (zi v5)), (6, .int (zi (v6 + 1)))]) [2, 3, 4, 5, 6, 0] rfl ?_
        exact ih v1 v2 v4 v5 (v6 + 1) m_refused m_owner o h hR
      · skip
        refine x_iload (pc := 77) X d_Mod_gather_77 4 rfl ?_
        refine x_iflt (pc := 79) (tgt := 92) X d_Mod_gather_79 rfl h (fun h => ?_) (fun h => ?_)
        · skip
          refine x_iload (pc := 92) X d_Mod_gather_92 6 rfl ?_
          refine x_istore (pc := 94) (ls2 := [(4, .int (zi v6)), (7, .int (zi r8)), (0, .ref a0), (1, .int (zi v1)), (2, .int (zi v2)), (5, .int (zi v5)), (6, .int (zi v6))]) X d_Mod_gather_94 (Nat.le_of_ble_eq_true rfl) rfl ?_
          refine x_iload (pc := 96) X d_Mod_gather_96 1 rfl ?_
          refine x_istore (pc := 98) (ls2 := [(5, .int (zi r8)), (4, .int (zi v6)), (7, .int (zi r8)), (0, .ref a0), (1, .int (zi v1)), (2, .int (zi v2)), (6, .int (zi v6))]) X d_Mod_gather_98 (Nat.le_of_ble_eq_true rfl) rfl ?_
          refine x_iinc (pc := 100) (ls2 := [(6, .int (zi (v6 + 1))), (5, .int (zi r8)), (4, .int (zi v6)), (7, .int (zi r8)), (0, .ref a0), (1, .int (zi v1)), (2, .int (zi v2))]) X d_Mod_gather_100 6 (Nat.le_of_ble_eq_true rfl) rfl rfl ?_
          refine x_goto (pc := 103) (tgt := 45) X d_Mod_gather_103 rfl ?_
          refine x_ls (ls2 := [(0, .ref a0), (1, .int (zi v1)), (2, .int (zi v2)), (4, .int (zi v6)), (5, .int (zi r8)), (6, .int (zi (v6 + 1)))]) [4, 5, 6, 2, 1, 0] rfl ?_
          exact ih v1 v2 v6 r8 (v6 + 1) m_refused m_owner o h hR
        · skip
          refine x_iload (pc := 82) X d_Mod_gather_82 0 rfl ?_
          refine x_iload (pc := 84) X d_Mod_gather_84 5 rfl ?_
          refine x_icmplt (pc := 86) (tgt := 92) X d_Mod_gather_86 rfl h (fun h => ?_) (fun h => ?_)
          · skip
            refine x_iload (pc := 92) X d_Mod_gather_92 6 rfl ?_
            refine x_istore (pc := 94) (ls2 := [(4, .int (zi v6)), (7, .int (zi r8)), (0, .ref a0), (1, .int (zi v1)), (2, .int (zi v2)), (5, .int (zi v5)), (6, .int (zi v6))]) X d_Mod_gather_94 (Nat.le_of_ble_eq_true rfl) rfl ?_
            refine x_iload (pc := 96) X d_Mod_gather_96 1 rfl ?_
            refine x_istore (pc := 98) (ls2 := [(5, .int (zi r8)), (4, .int (zi v6)), (7, .int (zi r8)), (0, .ref a0), (1, .int (zi v1)), (2, .int (zi v2)), (6, .int (zi v6))]) X d_Mod_gather_98 (Nat.le_of_ble_eq_true rfl) rfl ?_
            refine x_iinc (pc := 100) (ls2 := [(6, .int (zi (v6 + 1))), (5, .int (zi r8)), (4, .int (zi v6)), (7, .int (zi r8)), (0, .ref a0), (1, .int (zi v1)), (2, .int (zi v2))]) X d_Mod_gather_100 6 (Nat.le_of_ble_eq_true rfl) rfl rfl ?_
            refine x_goto (pc := 103) (tgt := 45) X d_Mod_gather_103 rfl ?_
            refine x_ls (ls2 := [(0, .ref a0), (1, .int (zi v1)), (2, .int (zi v2)), (4, .int (zi v6)), (5, .int (zi r8)), (6, .int (zi (v6 + 1)))]) [4, 5, 6, 2, 1, 0] rfl ?_
            exact ih v1 v2 v6 r8 (v6 + 1) m_refused m_owner o h hR
          · skip
            refine x_goto (pc := 89) (tgt := 100) X d_Mod_gather_89 rfl ?_
            refine x_iinc (pc := 100) (ls2 := [(6, .int (zi (v6 + 1))), (7, .int (zi r8)), (0, .ref a0), (1, .int (zi v1)), (2, .int (zi v2)), (4, .int (zi v4)), (5, .int (zi v5))]) X d_Mod_gather_100 6 (Nat.le_of_ble_eq_true rfl) rfl rfl ?_
            refine x_goto (pc := 103) (tgt := 45) X d_Mod_gather_103 rfl ?_
            refine x_ls (ls2 := [(0, .ref a0), (1, .int (zi v1)), (2, .int (zi v2)), (4, .int (zi v4)), (5, .int (zi v5)), (6, .int (zi (v6 + 1)))]) [2, 3, 4, 5, 6, 0] rfl ?_
            exact ih v1 v2 v4 v5 (v6 + 1) m_refused m_owner o h hR
set_option maxHeartbeats 4000000 in
set_option maxRecDepth 100000 in
theorem c_Mod_gather (l : Launch) (D : va_G) (cI cB : ClassId) (a0 a1 a2 a3 a4 a5 a6 a7 a8 a9 a10 a11 a12 a13 a14 a15 : Nat) (m_stepsMade : Int) (m_stepsMost : Int) (m_taped : Int) (m_reading : Int) (m_statements : Int) (m_telling : Int) (m_hasImage : Int) (m_isKeeping : Int) (m_cursor : Int) (m_rowMany : Int) (m_lots : Int) (m_refused : Int → Int) (m_bytes : Int → Int) (m_owner : Int → Int) (m_block : Int → Int) (m_written : Int → Int) (m_waits : Int → Int) (m_kinds : Int → Int) (m_tape : Int → Int) (m_sort : Int → Int) (m_sortAt : Int → Int) (m_told : Int → Int) (m_kept : Int → Int) (m_was : Int → Int) (m_ends : Int → Int) (m_row : Int → Int) (x1 : Int) (x2 : Int) {o : Int × (Int → Int)} (h : m_Mod_gather x1 x2 m_refused m_owner = some o) : Ct l D cI cB y_Mod_gather b_Mod_gather 8 (some .int) { frames := 1, cells := 0, slots := 0, locals := 24 } [.ref a0, .int (zi x1), .int (zi x2)] (w_Mod cI cB a0 a1 a2 a3 a4 a5 a6 a7 a8 a9 a10 a11 a12 a13 a14 a15 m_stepsMade m_stepsMost m_taped m_reading m_statements m_telling m_hasImage m_isKeeping m_cursor m_rowMany m_lots m_refused m_bytes m_owner m_block m_written m_waits m_kinds m_tape m_sort m_sortAt m_told m_kept m_was m_ends m_row) (w_Mod cI cB a0 a1 a2 a3 a4 a5 a6 a7 a8 a9 a10 a11 a12 a13 a14 a15 m_stepsMade m_stepsMost m_taped m_reading m_statements m_telling m_hasImage m_isKeeping m_cursor m_rowMany m_lots o.2 m_bytes m_owner m_block m_written m_waits m_kinds m_tape m_sort m_sortAt m_told m_kept m_was m_ends m_row) (some (.int (zi o.1))) := by
  refine Ct.start (by decide) (Nat.le_of_ble_eq_true rfl) (fun G X hR => ?_)
  refine x_ls (ls2 := [(0, .ref a0), (1, .int (zi x1)), (2, .int (zi x2))]) [0, 1, 2] rfl ?_
  unfold m_Mod_gather at h
  refine x_iload_n (pc := 0) X d_Mod_gather_0 1 rfl rfl ?_
  refine x_iconst (pc := 1) X d_Mod_gather_1  ?_
  refine x_bipush (pc := 2) (v := 64) X d_Mod_gather_2 rfl ?_
  obtain ⟨r1, h2, h⟩ := bnd_e h
  refine x_callS (pc := 4) (As := [.int (zi x1), .int (zi 1), .int (zi 64)]) (rest := []) (w2 := (w_Mod cI cB a0 a1 a2 a3 a4 a5 a6 a7 a8 a9 a10 a11 a12 a13 a14 a15 m_stepsMade m_stepsMost m_taped m_reading m_statements m_telling m_hasImage m_isKeeping m_cursor m_rowMany m_lots m_refused m_bytes m_owner m_block m_written m_waits m_kinds m_tape m_sort m_sortAt m_told m_kept m_was m_ends m_row)) X d_Mod_gather_4 lk_Mod_166 mv_Mod_bound (c_Mod_bound l D cI cB x1 1 64 h2) ⟨(Nat.le_of_ble_eq_true rfl), (Nat.le_of_ble_eq_true rfl), (Nat.le_of_ble_eq_true rfl), (Nat.le_of_ble_eq_true rfl)⟩ [] rfl rfl rfl (Up.same rfl) rfl rfl (Nat.le_of_ble_eq_true rfl) ?_
  refine x_istore_n (pc := 7) (ls2 := [(3, .int (zi r1)), (0, .ref a0), (1, .int (zi x1)), (2, .int (zi x2))]) X d_Mod_gather_7 rfl (Nat.le_of_ble_eq_true rfl) rfl ?_
  refine x_iload_n (pc := 8) X d_Mod_gather_8 0 rfl rfl ?_
  obtain ⟨j3, hj14, h⟩ := jn_e h
  have J15 : ∀ (z4 : Int) (z5 : Int) (z6 : Int) (c7 : Int → Int), j3 z4 z5 z6 c7 = some o → Wx G 0 0 24 [(0, .ref a0), (1, .int (zi z4)), (2, .int (zi z5)), (3, .int (zi z6))] [] (w_Mod cI cB a0 a1 a2 a3 a4 a5 a6 a7 a8 a9 a10 a11 a12 a13 a14 a15 m_stepsMade m_stepsMost m_taped m_reading m_statements m_telling m_hasImage m_isKeeping m_cursor m_rowMany m_lots c7 m_bytes m_owner m_block m_written m_waits m_kinds m_tape m_sort m_sortAt m_told m_kept m_was m_ends m_row) := by
    intro z4 z5 z6 c7 h
    rw [hj14] at h
    (try dsimp only at h)
    refine x_iload_n (pc := 24) X d_Mod_gather_24 3 rfl rfl ?_
    refine x_ifeq (pc := 25) (tgt := 34) X d_Mod_gather_25 rfl h (fun h => ?_) (fun h => ?_)
    · skip
      refine x_bipush (pc := 34) (v := -9) X d_Mod_gather_34 rfl ?_
      refine x_istore (pc := 36) (ls2 := [(4, .int (zi (-9))), (0, .ref a0), (1, .int (zi z4)), (2, .int (zi z5)), (3, .int (zi z6))]) X d_Mod_gather_36 (Nat.le_of_ble_eq_true rfl) rfl ?_
      refine x_bipush (pc := 38) (v := -9) X d_Mod_gather_38 rfl ?_
      refine x_istore (pc := 40) (ls2 := [(5, .int (zi (-9))), (4, .int (zi (-9))), (0, .ref a0), (1, .int (zi z4)), (2, .int (zi z5)), (3, .int (zi z6))]) X d_Mod_gather_40 (Nat.le_of_ble_eq_true rfl) rfl ?_
      refine x_iconst (pc := 42) X d_Mod_gather_42  ?_
      refine x_istore (pc := 43) (ls2 := [(6, .int (zi 0)), (5, .int (zi (-9))), (4, .int (zi (-9))), (0, .ref a0), (1, .int (zi z4)), (2, .int (zi z5)), (3, .int (zi z6))]) X d_Mod_gather_43 (Nat.le_of_ble_eq_true rfl) rfl ?_
      refine x_ls (ls2 := [(0, .ref a0), (1, .int (zi z4)), (2, .int (zi z5)), (4, .int (zi (-9))), (5, .int (zi (-9))), (6, .int (zi 0))]) [3, 4, 5, 2, 1, 0] rfl ?_
      exact l_Mod_gather_45 X 5000 z4 z5 (-9) (-9) 0 c7 m_owner o h hR
    · skip
      refine x_aload_n (pc := 28) X d_Mod_gather_28 0 rfl rfl ?_
      refine x_iload_n (pc := 29) X d_Mod_gather_29 3 rfl rfl ?_
      obtain ⟨r12, h13, h⟩ := bnd_e h
      refine x_callV (pc := 30) (As := [.int (zi z6)]) (rest := []) (w2 := (w_Mod cI cB a0 a1 a2 a3 a4 a5 a6 a7 a8 a9 a10 a11 a12 a13 a14 a15 m_stepsMade m_stepsMost m_taped m_reading m_statements m_telling m_hasImage m_isKeeping m_cursor m_rowMany m_lots r12.2 m_bytes m_owner m_block m_written m_waits m_kinds m_tape m_sort m_sortAt m_told m_kept m_was m_ends m_row)) X d_Mod_gather_30 lk_Mod_172 mv_Mod_no (c_Mod_no l D cI cB a0 a1 a2 a3 a4 a5 a6 a7 a8 a9 a10 a11 a12 a13 a14 a15 m_stepsMade m_stepsMost m_taped m_reading m_statements m_telling m_hasImage m_isKeeping m_cursor m_rowMany m_lots c7 m_bytes m_owner m_block m_written m_waits m_kinds m_tape m_sort m_sortAt m_told m_kept m_was m_ends m_row z6 h13) ⟨(Nat.le_of_ble_eq_true rfl), (Nat.le_of_ble_eq_true rfl), (Nat.le_of_ble_eq_true rfl), (Nat.le_of_ble_eq_true rfl)⟩ 0 rfl rfl [0, 1, 2, 3, 4, 5, 6, 7, 8, 9, 10, 11, 12, 13, 14, 15] rfl rfl rfl (Up.of [] [] rfl rfl rfl 16 rfl (by decide +kernel)) rfl rfl (Nat.le_of_ble_eq_true rfl) ?_
      cases h
      exact x_iret (pc := 33) X hR d_Mod_gather_33
  clear hj14
  refine x_ifne (pc := 9) (tgt := 24) X d_Mod_gather_9 rfl h (fun h => ?_) (fun h => ?_)
  · skip
    refine x_ls (ls2 := [(0, .ref a0), (1, .int (zi x1)), (2, .int (zi x2)), (3, .int (zi r1))]) [1, 2, 3, 0] rfl ?_
    exact J15 x1 x2 r1 m_refused h
  · skip
    refine x_iload_n (pc := 12) X d_Mod_gather_12 3 rfl rfl ?_
    refine x_iconst (pc := 13) X d_Mod_gather_13  ?_
    refine x_iconst (pc := 14) X d_Mod_gather_14  ?_
    obtain ⟨r16, h17, h⟩ := bnd_e h
    refine x_callS (pc := 15) (As := [.int (zi x2), .int (zi 0), .int (zi 1)]) (rest := []) (w2 := (w_Mod cI cB a0 a1 a2 a3 a4 a5 a6 a7 a8 a9 a10 a11 a12 a13 a14 a15 m_stepsMade m_stepsMost m_taped m_reading m_statements m_telling m_hasImage m_isKeeping m_cursor m_rowMany m_lots m_refused m_bytes m_owner m_block m_written m_waits m_kinds m_tape m_sort m_sortAt m_told m_kept m_was m_ends m_row)) X d_Mod_gather_15 lk_Mod_58 mv_Mod_isIn (c_Mod_isIn l D cI cB x2 0 1 h17) ⟨(Nat.le_of_ble_eq_true rfl), (Nat.le_of_ble_eq_true rfl), (Nat.le_of_ble_eq_true rfl), (Nat.le_of_ble_eq_true rfl)⟩ [] rfl rfl rfl (Up.same rfl) rfl rfl (Nat.le_of_ble_eq_true rfl) ?_
    refine x_ifne (pc := 18) (tgt := 24) X d_Mod_gather_18 rfl h (fun h => ?_) (fun h => ?_)
    · skip
      refine x_ls (ls2 := [(0, .ref a0), (1, .int (zi x1)), (2, .int (zi x2)), (3, .int (zi r1))]) [1, 2, 3, 0] rfl ?_
      exact J15 x1 x2 r1 m_refused h
    · skip
      refine x_bipush (pc := 21) (v := -2) X d_Mod_gather_21 rfl ?_
      refine x_istore_n (pc := 23) (ls2 := [(3, .int (zi (-2))), (0, .ref a0), (1, .int (zi x1)), (2, .int (zi x2))]) X d_Mod_gather_23 rfl (Nat.le_of_ble_eq_true rfl) rfl ?_
      refine x_ls (ls2 := [(0, .ref a0), (1, .int (zi x1)), (2, .int (zi x2)), (3, .int (zi (-2)))]) [1, 2, 3, 0] rfl ?_
      exact J15 x1 x2 (-2) m_refused h
