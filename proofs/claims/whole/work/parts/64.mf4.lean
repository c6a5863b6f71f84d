theorem d_Mod_extentsOfBoth_0 : decode b_Mod_extentsOfBoth 0 = .ok (.aload_n 0, 1) := by decide +kernel
theorem d_Mod_extentsOfBoth_1 : decode b_Mod_extentsOfBoth 1 = .ok (.invokevirtual 291, 3) := by decide +kernel
theorem d_Mod_extentsOfBoth_4 : decode b_Mod_extentsOfBoth 4 = .ok (.aload_n 0, 1) := by decide +kernel
theorem d_Mod_extentsOfBoth_5 : decode b_Mod_extentsOfBoth 5 = .ok (.iload_n 1, 1) := by decide +kernel
theorem d_Mod_extentsOfBoth_6 : decode b_Mod_extentsOfBoth 6 = .ok (.ldc 165, 2) := by decide +kernel
theorem d_Mod_extentsOfBoth_8 : decode b_Mod_extentsOfBoth 8 = .ok (.invokevirtual 150, 3) := by decide +kernel
theorem d_Mod_extentsOfBoth_11 : decode b_Mod_extentsOfBoth 11 = .ok (.pop, 1) := by decide +kernel
theorem d_Mod_extentsOfBoth_12 : decode b_Mod_extentsOfBoth 12 = .ok (.aload_n 0, 1) := by decide +kernel
theorem d_Mod_extentsOfBoth_13 : decode b_Mod_extentsOfBoth 13 = .ok (.iload_n 2, 1) := by decide +kernel
theorem d_Mod_extentsOfBoth_14 : decode b_Mod_extentsOfBoth 14 = .ok (.ldc 165, 2) := by decide +kernel
theorem d_Mod_extentsOfBoth_16 : decode b_Mod_extentsOfBoth 16 = .ok (.invokevirtual 150, 3) := by decide +kernel
theorem d_Mod_extentsOfBoth_19 : decode b_Mod_extentsOfBoth 19 = .ok (.pop, 1) := by decide +kernel
theorem d_Mod_extentsOfBoth_20 : decode b_Mod_extentsOfBoth 20 = .ok (.aload_n 0, 1) := by decide +kernel
theorem d_Mod_extentsOfBoth_21 : decode b_Mod_extentsOfBoth 21 = .ok (.iload_n 1, 1) := by decide +kernel
theorem d_Mod_extentsOfBoth_22 : decode b_Mod_extentsOfBoth 22 = .ok (.invokevirtual 82, 3) := by decide +kernel
theorem d_Mod_extentsOfBoth_25 : decode b_Mod_extentsOfBoth 25 = .ok (.aload_n 0, 1) := by decide +kernel
theorem d_Mod_extentsOfBoth_26 : decode b_Mod_extentsOfBoth 26 = .ok (.iload_n 2, 1) := by decide +kernel
theorem d_Mod_extentsOfBoth_27 : decode b_Mod_extentsOfBoth 27 = .ok (.invokevirtual 82, 3) := by decide +kernel
theorem d_Mod_extentsOfBoth_30 : decode b_Mod_extentsOfBoth 30 = .ok (.iadd, 1) := by decide +kernel
theorem d_Mod_extentsOfBoth_31 : decode b_Mod_extentsOfBoth 31 = .ok (.istore_n 3, 1) := by decide +kernel
theorem d_Mod_extentsOfBoth_32 : decode b_Mod_extentsOfBoth 32 = .ok (.aload_n 0, 1) := by decide +kernel
theorem d_Mod_extentsOfBoth_33 : decode b_Mod_extentsOfBoth 33 = .ok (.invokevirtual 294, 3) := by decide +kernel
theorem d_Mod_extentsOfBoth_36 : decode b_Mod_extentsOfBoth 36 = .ok (.iload_n 3, 1) := by decide +kernel
theorem d_Mod_extentsOfBoth_37 : decode b_Mod_extentsOfBoth 37 = .ok (.ireturn, 1) := by decide +kernel
def m_Mod_extentsOfBoth (x1 : Int) (x2 : Int) (m_stepsMade : Int) (m_stepsMost : Int) (m_isKeeping : Int) (m_cursor : Int) (m_bytes : Int → Int) (m_owner : Int → Int) (m_block : Int → Int) (m_written : Int → Int) (m_waits : Int → Int) (m_kinds : Int → Int) (m_kept : Int → Int) : Option (Int × Int × Int × Int × Int × (Int → Int) × (Int → Int) × (Int → Int) × (Int → Int) × (Int → Int) × (Int → Int) × (Int → Int)) :=
  bnd (m_Mod_minds m_isKeeping m_cursor m_bytes m_owner m_block m_written m_waits m_kinds m_kept) (fun r1 => bnd (m_Mod_flushes x1 1000000 m_stepsMade m_stepsMost r1.2.2.1 r1.2.2.2.1 r1.2.2.2.2.1 r1.2.2.2.2.2.1 r1.2.2.2.2.2.2.1 r1.2.2.2.2.2.2.2.1) (fun r3 => bnd (m_Mod_flushes x2 1000000 r3.2.1 r3.2.2.1 r3.2.2.2.1 r3.2.2.2.2.1 r3.2.2.2.2.2.1 r3.2.2.2.2.2.2.1 r3.2.2.2.2.2.2.2 r1.2.2.2.2.2.2.2.1) (fun r5 => bnd (m_Mod_extents x1 r5.2.2.2.2.2.1 r5.2.2.2.2.2.2.1) (fun r7 => bnd (m_Mod_extents x2 r5.2.2.2.2.2.1 r5.2.2.2.2.2.2.1) (fun r9 => bnd (m_Mod_forgets r1.1 r1.2.1 r5.2.2.2.1 r5.2.2.2.2.1 r5.2.2.2.2.2.1 r5.2.2.2.2.2.2.1 r5.2.2.2.2.2.2.2 r1.2.2.2.2.2.2.2.1 r1.2.2.2.2.2.2.2.2) (fun r11 => some ((r7 + r9), r5.2.1, r5.2.2.1, r11.1, r11.2.1, r11.2.2.1, r11.2.2.2.1, r11.2.2.2.2.1, r11.2.2.2.2.2.1, r11.2.2.2.2.2.2.1, r11.2.2.2.2.2.2.2.1, r11.2.2.2.2.2.2.2.2)))))))
set_option maxHeartbeats 4000000 in
set_option maxRecDepth 100000 in
theorem c_Mod_extentsOfBoth (l : Launch) (D : va_G) (cI cB : ClassId) (a0 a1 a2 a3 a4 a5 a6 a7 a8 a9 a10 a11 a12 a13 a14 a15 : Nat) (m_stepsMade : Int) (m_stepsMost : Int) (m_taped : Int) (m_reading : Int) (m_statements : Int) (m_telling : Int) (m_hasImage : Int) (m_isKeeping : Int) (m_cursor : Int) (m_rowMany : Int) (m_lots : Int) (m_refused : Int → Int) (m_bytes : Int → Int) (m_owner : Int → Int) (m_block : Int → Int) (m_written : Int → Int) (m_waits : Int → Int) (m_kinds : Int → Int) (m_tape : Int → Int) (m_sort : Int → Int) (m_sortAt : Int → Int) (m_told : Int → Int) (m_kept : Int → Int) (m_was : Int → Int) (m_ends : Int → Int) (m_row : Int → Int) (x1 : Int) (x2 : Int) {o : Int × Int × Int × Int × Int × (Int → Int) × (Int → Int) × (Int → Int) × (Int → Int) × (Int → Int) × (Int → Int) × (Int → Int)} (h : m_Mod_extentsOfBoth x1 x2 m_stepsMade m_stepsMost m_isKeeping m_cursor m_bytes m_owner m_block m_written m_waits m_kinds m_kept = some o) : Ct l D cI cB y_Mod_extentsOfBoth b_Mod_extentsOfBoth 4 (some .int) { frames := 6, cells := 0, slots := 0, locals := 142 } [.ref a0, .int (zi x1), .int (zi x2)] (w_Mod cI cB a0 a1 a2 a3 a4 a5 a6 a7 a8 a9 a10 a11 a12 a13 a14 a15 m_stepsMade m_stepsMost m_taped m_reading m_statements m_telling m_hasImage m_isKeeping m_cursor m_rowMany m_lots m_refused m_bytes m_owner m_block m_written m_waits m_kinds m_tape m_sort m_sortAt m_told m_kept m_was m_ends m_row) (w_Mod cI cB a0 a1 a2 a3 a4 a5 a6 a7 a8 a9 a10 a11 a12 a13 a14 a15 o.2.1 o.2.2.1 m_taped m_reading m_statements m_telling m_hasImage o.2.2.2.1 o.2.2.2.2.1 m_rowMany m_lots m_refused o.2.2.2.2.2.1 o.2.2.2.2.2.2.1 o.2.2.2.2.2.2.2.1 o.2.2.2.2.2.2.2.2.1 o.2.2.2.2.2.2.2.2.2.1 o.2.2.2.2.2.2.2.2.2.2.1 m_tape m_sort m_sortAt m_told o.2.2.2.2.2.2.2.2.2.2.2 m_was m_ends m_row) (some (.int (zi o.1))) := by
  refine Ct.start (by decide) (Nat.le_of_ble_eq_true rfl) (fun G X hR => ?_)
  refine x_ls (ls2 := [(0, .ref a0), (1, .int (zi x1)), (2, .int (zi x2))]) [0, 1, 2] rfl ?_
  unfold m_Mod_extentsOfBoth at h
  refine x_aload_n (pc := 0) X d_Mod_extentsOfBoth_0 0 rfl rfl ?_
  obtain ⟨r1, h2, h⟩ := bnd_e h
  refine x_callV (pc := 1) (As := []) (rest := []) (w2 := (w_Mod cI cB a0 a1 a2 a3 a4 a5 a6 a7 a8 a9 a10 a11 a12 a13 a14 a15 m_stepsMade m_stepsMost m_taped m_reading m_statements m_telling m_hasImage r1.1 r1.2.1 m_rowMany m_lots m_refused r1.2.2.1 r1.2.2.2.1 r1.2.2.2.2.1 r1.2.2.2.2.2.1 r1.2.2.2.2.2.2.1 r1.2.2.2.2.2.2.2.1 m_tape m_sort m_sortAt m_told r1.2.2.2.2.2.2.2.2 m_was m_ends m_row)) X d_Mod_extentsOfBoth_1 lk_Mod_291 mv_Mod_minds (c_Mod_minds l D cI cB a0 a1 a2 a3 a4 a5 a6 a7 a8 a9 a10 a11 a12 a13 a14 a15 m_stepsMade m_stepsMost m_taped m_reading m_statements m_telling m_hasImage m_isKeeping m_cursor m_rowMany m_lots m_refused m_bytes m_owner m_block m_written m_waits m_kinds m_tape m_sort m_sortAt m_told m_kept m_was m_ends m_row h2) ⟨(Nat.le_of_ble_eq_true rfl), (Nat.le_of_ble_eq_true rfl), (Nat.le_of_ble_eq_true rfl), (Nat.le_of_ble_eq_true rfl)⟩ 0 rfl rfl [0, 1, 2, 3, 4, 5, 6, 7, 8, 9, 10, 11, 12, 13, 14, 15] rfl rfl rfl (Up.of [] [] rfl rfl rfl 16 rfl (by decide +kernel)) rfl rfl (Nat.le_of_ble_eq_true rfl) ?_
  refine x_aload_n (pc := 4) X d_Mod_extentsOfBoth_4 0 rfl rfl ?_
  refine x_iload_n (pc := 5) X d_Mod_extentsOfBoth_5 1 rfl rfl ?_
  refine x_ldc (pc := 6) X d_Mod_extentsOfBoth_6 cw_Mod_165 cg_Mod_165 ?_
  obtain ⟨r3, h4, h⟩ := bnd_e h
  refine x_callV (pc := 8) (As := [.int (zi x1), .int (zi 1000000)]) (rest := []) (w2 := (w_Mod cI cB a0 a1 a2 a3 a4 a5 a6 a7 a8 a9 a10 a11 a12 a13 a14 a15 r3.2.1 r3.2.2.1 m_taped m_reading m_statements m_telling m_hasImage r1.1 r1.2.1 m_rowMany m_lots m_refused r3.2.2.2.1 r3.2.2.2.2.1 r3.2.2.2.2.2.1 r3.2.2.2.2.2.2.1 r3.2.2.2.2.2.2.2 r1.2.2.2.2.2.2.2.1 m_tape m_sort m_sortAt m_told r1.2.2.2.2.2.2.2.2 m_was m_ends m_row)) X d_Mod_extentsOfBoth_8 lk_Mod_150 mv_Mod_flushes (c_Mod_flushes l D cI cB a0 a1 a2 a3 a4 a5 a6 a7 a8 a9 a10 a11 a12 a13 a14 a15 m_stepsMade m_stepsMost m_taped m_reading m_statements m_telling m_hasImage r1.1 r1.2.1 m_rowMany m_lots m_refused r1.2.2.1 r1.2.2.2.1 r1.2.2.2.2.1 r1.2.2.2.2.2.1 r1.2.2.2.2.2.2.1 r1.2.2.2.2.2.2.2.1 m_tape m_sort m_sortAt m_told r1.2.2.2.2.2.2.2.2 m_was m_ends m_row x1 1000000 h4) ⟨(Nat.le_of_ble_eq_true rfl), (Nat.le_of_ble_eq_true rfl), (Nat.le_of_ble_eq_true rfl), (Nat.le_of_ble_eq_true rfl)⟩ 0 rfl rfl [0, 1, 2, 3, 4, 5, 6, 7, 8, 9, 10, 11, 12, 13, 14, 15] rfl rfl rfl (Up.of [] [] rfl rfl rfl 16 rfl (by decide +kernel)) rfl rfl (Nat.le_of_ble_eq_true rfl) ?_
  refine x_pop (pc := 11) X d_Mod_extentsOfBoth_11 rfl ?_
  refine x_aload_n (pc := 12) X d_Mod_extentsOfBoth_12 0 rfl rfl ?_
  refine x_iload_n (pc := 13) X d_Mod_extentsOfBoth_13 2 rfl rfl ?_
  refine x_ldc (pc := 14) X d_Mod_extentsOfBoth_14 cw_Mod_165 cg_Mod_165 ?_
  obtain ⟨r5, h6, h⟩ := bnd_e h
  refine x_callV (pc := 16) (As := [.int (zi x2), .int (zi 1000000)]) (rest := []) (w2 := (w_Mod cI cB a0 a1 a2 a3 a4 a5 a6 a7 a8 a9 a10 a11 a12 a13 a14 a15 r5.2.1 r5.2.2.1 m_taped m_reading m_statements m_telling m_hasImage r1.1 r1.2.1 m_rowMany m_lots m_refused r5.2.2.2.1 r5.2.2.2.2.1 r5.2.2.2.2.2.1 r5.2.2.2.2.2.2.1 r5.2.2.2.2.2.2.2 r1.2.2.2.2.2.2.2.1 m_tape m_sort m_sortAt m_told r1.2.2.2.2.2.2.2.2 m_was m_ends m_row)) X d_Mod_extentsOfBoth_16 lk_Mod_150 mv_Mod_flushes (c_Mod_flushes l D cI cB a0 a1 a2 a3 a4 a5 a6 a7 a8 a9 a10 a11 a12 a13 a14 a15 r3.2.1 r3.2.2.1 m_taped m_reading m_statements m_telling m_hasImage r1.1 r1.2.1 m_rowMany m_lots m_refused r3.2.2.2.1 r3.2.2.2.2.1 r3.2.2.2.2.2.1 r3.2.2.2.2.2.2.1 r3.2.2.2.2.2.2.2 r1.2.2.2.2.2.2.2.1 m_tape m_sort m_sortAt m_told r1.2.2.2.2.2.2.2.2 m_was m_ends m_row x2 1000000 h6) ⟨(Nat.le_of_ble_eq_true rfl), (Nat.le_of_ble_eq_true rfl), (Nat.le_of_ble_eq_true rfl), (Nat.le_of_ble_eq_true rfl)⟩ 0 rfl rfl [0, 1, 2, 3, 4, 5, 6, 7, 8, 9, 10, 11, 12, 13, 14, 15] rfl rfl rfl (Up.of [] [] rfl rfl rfl 16 rfl (by decide +kernel)) rfl rfl (Nat.le_of_ble_eq_true rfl) ?_
  refine x_pop (pc := 19) X d_Mod_extentsOfBoth_19 rfl ?_
  refine x_aload_n (pc := 20) X d_Mod_extentsOfBoth_20 0 rfl rfl ?_
  refine x_iload_n (pc := 21) X d_Mod_extentsOfBoth_21 1 rfl rfl ?_
  obtain ⟨r7, h8, h⟩ := bnd_e h
  refine x_callV (pc := 22) (As := [.int (zi x1)]) (rest := []) (w2 := (w_Mod cI cB a0 a1 a2 a3 a4 a5 a6 a7 a8 a9 a10 a11 a12 a13 a14 a15 r5.2.1 r5.2.2.1 m_taped m_reading m_statements m_telling m_hasImage r1.1 r1.2.1 m_rowMany m_lots m_refused r5.2.2.2.1 r5.2.2.2.2.1 r5.2.2.2.2.2.1 r5.2.2.2.2.2.2.1 r5.2.2.2.2.2.2.2 r1.2.2.2.2.2.2.2.1 m_tape m_sort m_sortAt m_told r1.2.2.2.2.2.2.2.2 m_was m_ends m_row)) X d_Mod_extentsOfBoth_22 lk_Mod_82 mv_Mod_extents (c_Mod_extents l D cI cB a0 a1 a2 a3 a4 a5 a6 a7 a8 a9 a10 a11 a12 a13 a14 a15 r5.2.1 r5.2.2.1 m_taped m_reading m_statements m_telling m_hasImage r1.1 r1.2.1 m_rowMany m_lots m_refused r5.2.2.2.1 r5.2.2.2.2.1 r5.2.2.2.2.2.1 r5.2.2.2.2.2.2.1 r5.2.2.2.2.2.2.2 r1.2.2.2.2.2.2.2.1 m_tape m_sort m_sortAt m_told r1.2.2.2.2.2.2.2.2 m_was m_ends m_row x1 h8) ⟨(Nat.le_of_ble_eq_true rfl), (Nat.le_of_ble_eq_true rfl), (Nat.le_of_ble_eq_true rfl), (Nat.le_of_ble_eq_true rfl)⟩ 0 rfl rfl [0, 1, 2, 3, 4, 5, 6, 7, 8, 9, 10, 11, 12, 13, 14, 15] rfl rfl rfl (Up.same rfl) rfl rfl (Nat.le_of_ble_eq_true rfl) ?_
  refine x_aload_n (pc := 25) X d_Mod_extentsOfBoth_25 0 rfl rfl ?_
  refine x_iload_n (pc := 26) X d_Mod_extentsOfBoth_26 2 rfl rfl ?_
  obtain ⟨r9, h10, h⟩ := bnd_e h
  refine x_callV (pc := 27) (As := [.int (zi x2)]) (rest := [.int (zi r7)]) (w2 := (w_Mod cI cB a0 a1 a2 a3 a4 a5 a6 a7 a8 a9 a10 a11 a12 a13 a14 a15 r5.2.1 r5.2.2.1 m_taped m_reading m_statements m_telling m_hasImage r1.1 r1.2.1 m_rowMany m_lots m_refused r5.2.2.2.1 r5.2.2.2.2.1 r5.2.2.2.2.2.1 r5.2.2.2.2.2.2.1 r5.2.2.2.2.2.2.2 r1.2.2.2.2.2.2.2.1 m_tape m_sort m_sortAt m_told r1.2.2.2.2.2.2.2.2 m_was m_ends m_row)) X d_Mod_extentsOfBoth_27 lk_Mod_82 mv_Mod_extents (c_Mod_extents l D cI cB a0 a1 a2 a3 a4 a5 a6 a7 a8 a9 a10 a11 a12 a13 a14 a15 r5.2.1 r5.2.2.1 m_taped m_reading m_statements m_telling m_hasImage r1.1 r1.2.1 m_rowMany m_lots m_refused r5.2.2.2.1 r5.2.2.2.2.1 r5.2.2.2.2.2.1 r5.2.2.2.2.2.2.1 r5.2.2.2.2.2.2.2 r1.2.2.2.2.2.2.2.1 m_tape m_sort m_sortAt m_told r1.2.2.2.2.2.2.2.2 m_was m_ends m_row x2 h10) ⟨(Nat.le_of_ble_eq_true rfl), (Nat.le_of_ble_eq_true rfl), (Nat.le_of_ble_eq_true rfl), (Nat.le_of_ble_eq_true rfl)⟩ 0 rfl rfl [0, 1, 2, 3, 4, 5, 6, 7, 8, 9, 10, 11, 12, 13, 14, 15] rfl rfl rfl (Up.same rfl) rfl rfl (Nat.le_of_ble_eq_true rfl) ?_
  refine x_iadd (pc := 30) X d_Mod_extentsOfBoth_30  ?_
  refine x_istore_n (pc := 31) (ls2 := [(3, .int (zi (r7 + r9))), (0, .ref a0), (1, .int (zi x1)), (2, .int (zi x2))]) X d_Mod_extentsOfBoth_31 rfl (Nat.le_of_ble_eq_true rfl) rfl ?_
  refine x_aload_n (pc := 32) X d_Mod_extentsOfBoth_32 1 rfl rfl ?_
  obtain ⟨r11, h12, h⟩ := bnd_e h
  refine x_callV (pc := 33) (As := []) (rest := []) (w2 := (w_Mod cI cB a0 a1 a2 a3 a4 a5 a6 a7 a8 a9 a10 a11 a12 a13 a14 a15 r5.2.1 r5.2.2.1 m_taped m_reading m_statements m_telling m_hasImage r11.1 r11.2.1 m_rowMany m_lots m_refused r11.2.2.1 r11.2.2.2.1 r11.2.2.2.2.1 r11.2.2.2.2.2.1 r11.2.2.2.2.2.2.1 r11.2.2.2.2.2.2.2.1 m_tape m_sort m_sortAt m_told r11.2.2.2.2.2.2.2.2 m_was m_ends m_row)) X d_Mod_extentsOfBoth_33 lk_Mod_294 mv_Mod_forgets (c_Mod_forgets l D cI cB a0 a1 a2 a3 a4 a5 a6 a7 a8 a9 a10 a11 a12 a13 a14 a15 r5.2.1 r5.2.2.1 m_taped m_reading m_statements m_telling m_hasImage r1.1 r1.2.1 m_rowMany m_lots m_refused r5.2.2.2.1 r5.2.2.2.2.1 r5.2.2.2.2.2.1 r5.2.2.2.2.2.2.1 r5.2.2.2.2.2.2.2 r1.2.2.2.2.2.2.2.1 m_tape m_sort m_sortAt m_told r1.2.2.2.2.2.2.2.2 m_was m_ends m_row h12) ⟨(Nat.le_of_ble_eq_true rfl), (Nat.le_of_ble_eq_true rfl), (Nat.le_of_ble_eq_true rfl), (Nat.le_of_ble_eq_true rfl)⟩ 0 rfl rfl [0, 1, 2, 3, 4, 5, 6, 7, 8, 9, 10, 11, 12, 13, 14, 15] rfl rfl rfl (Up.of [] [] rfl rfl rfl 16 rfl (by decide +kernel)) rfl rfl (Nat.le_of_ble_eq_true rfl) ?_
  refine x_iload_n (pc := 36) X d_Mod_extentsOfBoth_36 0 rfl rfl ?_
  cases h
  exact x_iret (pc := 37) X hR d_Mod_extentsOfBoth_37
theorem d_Mod_first_0 : decode b_Mod_first 0 = .ok (.iload_n 1, 1) := by decide +kernel
theorem d_Mod_first_1 : decode b_Mod_first 1 = .ok (.iload_n 2, 1) := by decide +kernel
theorem d_Mod_first_2 : decode b_Mod_first 2 = .ok (.invokestatic 322, 3) := by decide +kernel
theorem d_Mod_first_5 : decode b_Mod_first 5 = .ok (.ifCond .ne 9, 3) := by decide +kernel
theorem d_Mod_first_8 : decode b_Mod_first 8 = .ok (.aload_n 0, 1) := by decide +kernel
theorem d_Mod_first_9 : decode b_Mod_first 9 = .ok (.iconst (-1), 1) := by decide +kernel
theorem d_Mod_first_10 : decode b_Mod_first 10 = .ok (.invokevirtual 172, 3) := by decide +kernel
theorem d_Mod_first_13 : decode b_Mod_first 13 = .ok (.ireturn, 1) := by decide +kernel
theorem d_Mod_first_14 : decode b_Mod_first 14 = .ok (.aload_n 0, 1) := by decide +kernel
theorem d_Mod_first_15 : decode b_Mod_first 15 = .ok (.iload_n 1, 1) := by decide +kernel
theorem d_Mod_first_16 : decode b_Mod_first 16 = .ok (.iload_n 2, 1) := by decide +kernel
theorem d_Mod_first_17 : decode b_Mod_first 17 = .ok (.invokevirtual 325, 3) := by decide +kernel
theorem d_Mod_first_20 : decode b_Mod_first 20 = .ok (.istore_n 3, 1) := by decide +kernel
theorem d_Mod_first_21 : decode b_Mod_first 21 = .ok (.aload_n 0, 1) := by decide +kernel
theorem d_Mod_first_22 : decode b_Mod_first 22 = .ok (.iload_n 2, 1) := by decide +kernel
theorem d_Mod_first_23 : decode b_Mod_first 23 = .ok (.iload_n 1, 1) := by decide +kernel
theorem d_Mod_first_24 : decode b_Mod_first 24 = .ok (.invokevirtual 325, 3) := by decide +kernel
theorem d_Mod_first_27 : decode b_Mod_first 27 = .ok (.istore 4, 2) := by decide +kernel
theorem d_Mod_first_29 : decode b_Mod_first 29 = .ok (.iload_n 3, 1) := by decide +kernel
theorem d_Mod_first_30 : decode b_Mod_first 30 = .ok (.iload 4, 2) := by decide +kernel
theorem d_Mod_first_32 : decode b_Mod_first 32 = .ok (.if_icmp .ge 7, 3) := by decide +kernel
theorem d_Mod_first_35 : decode b_Mod_first 35 = .ok (.iconst 0, 1) := by decide +kernel
theorem d_Mod_first_36 : decode b_Mod_first 36 = .ok (.goto 15, 3) := by decide +kernel
theorem d_Mod_first_39 : decode b_Mod_first 39 = .ok (.iload_n 3, 1) := by decide +kernel
theorem d_Mod_first_40 : decode b_Mod_first 40 = .ok (.iload 4, 2) := by decide +kernel
theorem d_Mod_first_42 : decode b_Mod_first 42 = .ok (.if_icmp .le 7, 3) := by decide +kernel
theorem d_Mod_first_45 : decode b_Mod_first 45 = .ok (.iconst 1, 1) := by decide +kernel
theorem d_Mod_first_46 : decode b_Mod_first 46 = .ok (.goto 5, 3) := by decide +kernel
theorem d_Mod_first_49 : decode b_Mod_first 49 = .ok (.bipush (-9), 2) := by decide +kernel
theorem d_Mod_first_51 : decode b_Mod_first 51 = .ok (.ireturn, 1) := by decide +kernel
def m_Mod_first (x1 : Int) (x2 : Int) (m_stepsMade : Int) (m_stepsMost : Int) (m_isKeeping : Int) (m_cursor : Int) (m_refused : Int → Int) (m_bytes : Int → Int) (m_owner : Int → Int) (m_block : Int → Int) (m_written : Int → Int) (m_waits : Int → Int) (m_kinds : Int → Int) (m_kept : Int → Int) : Option (Int × Int × Int × Int × Int × (Int → Int) × (Int → Int) × (Int → Int) × (Int → Int) × (Int → Int) × (Int → Int) × (Int → Int) × (Int → Int)) :=
  bnd (m_Mod_areTwo x1 x2) (fun r1 => ceq r1 0 (bnd (m_Mod_no (-1) m_refused) (fun r7 => some (r7.1, m_stepsMade, m_stepsMost, m_isKeeping, m_cursor, r7.2, m_bytes, m_owner, m_block, m_written, m_waits, m_kinds, m_kept))) (bnd (m_Mod_extentsOfBoth x1 x2 m_stepsMade m_stepsMost m_isKeeping m_cursor m_bytes m_owner m_block m_written m_waits m_kinds m_kept) (fun r3 => bnd (m_Mod_extentsOfBoth x2 x1 r3.2.1 r3.2.2.1 r3.2.2.2.1 r3.2.2.2.2.1 r3.2.2.2.2.2.1 r3.2.2.2.2.2.2.1 r3.2.2.2.2.2.2.2.1 r3.2.2.2.2.2.2.2.2.1 r3.2.2.2.2.2.2.2.2.2.1 r3.2.2.2.2.2.2.2.2.2.2.1 r3.2.2.2.2.2.2.2.2.2.2.2) (fun r5 => clt r3.1 r5.1 (some (0, r5.2.1, r5.2.2.1, r5.2.2.2.1, r5.2.2.2.2.1, m_refused, r5.2.2.2.2.2.1, r5.2.2.2.2.2.2.1, r5.2.2.2.2.2.2.2.1, r5.2.2.2.2.2.2.2.2.1, r5.2.2.2.2.2.2.2.2.2.1, r5.2.2.2.2.2.2.2.2.2.2.1, r5.2.2.2.2.2.2.2.2.2.2.2)) (cle r3.1 r5.1 (some ((-9), r5.2.1, r5.2.2.1, r5.2.2.2.1, r5.2.2.2.2.1, m_refused, r5.2.2.2.2.2.1, r5.2.2.2.2.2.2.1, r5.2.2.2.2.2.2.2.1, r5.2.2.2.2.2.2.2.2.1, r5.2.2.2.2.2.2.2.2.2.1, r5.2.2.2.2.2.2.2.2.2.2.1, r5.2.2.2.2.2.2.2.2.2.2.2)) (some (1, r5.2.1, r5.2.2.1, r5.2.2.2.1, r5.2.2.2.2.1, m_refused, r5.2.2.2.2.2.1, r5.2.2.2.2.2.2.1, r5.2.2.2.2.2.2.2.1, r5.2.2.2.2.2.2.2.2.1, r5.2.2.2.2.2.2.2.2.2.1, r5.2.2.2.2.2.2.2.2.2.2.1, r5.2.2.2.2.2.2.2.2.2.2.2)))))))
set_option maxHeartbeats 4000000 in
set_option maxRecDepth 100000 in
theorem c_Mod_first (l : Launch) (D : va_G) (cI cB : ClassId) (a0 a1 a2 a3 a4 a5 a6 a7 a8 a9 a10 a11 a12 a13 a14 a15 : Nat) (m_stepsMade : Int) (m_stepsMost : Int) (m_taped : Int) (m_reading : Int) (m_statements : Int) (m_telling : Int) (m_hasImage : Int) (m_isKeeping : Int) (m_cursor : Int) (m_rowMany : Int) (m_lots : Int) (m_refused : Int → Int) (m_bytes : Int → Int) (m_owner : Int → Int) (m_block : Int → Int) (m_written : Int → Int) (m_waits : Int → Int) (m_kinds : Int → Int) (m_tape : Int → Int) (m_sort : Int → Int) (m_sortAt : Int → Int) (m_told : Int → Int) (m_kept : Int → Int) (m_was : Int → Int) (m_ends : Int → Int) (m_row : Int → Int) (x1 : Int) (x2 : Int) {o : Int × Int × Int × Int × Int × (Int → Int) × (Int → Int) × (Int → Int) × (Int → Int) × (Int → Int) × (Int → Int) × (Int → Int) × (Int → Int)} (h : m_Mod_first x1 x2 m_stepsMade m_stepsMost m_isKeeping m_cursor m_refused m_bytes m_owner m_block m_written m_waits m_kinds m_kept = some o) : Ct l D cI cB y_Mod_first b_Mod_first 5 (some .int) { frames := 7, cells := 0, slots := 0, locals := 165 } [.ref a0, .int (zi x1), .int (zi x2)] (w_Mod cI cB a0 a1 a2 a3 a4 a5 a6 a7 a8 a9 a10 a11 a12 a13 a14 a15 m_stepsMade m_stepsMost m_taped m_reading m_statements m_telling m_hasImage m_isKeeping m_cursor m_rowMany m_lots m_refused m_bytes m_owner m_block m_written m_waits m_kinds m_tape m_sort m_sortAt m_told m_kept m_was m_ends m_row) (w_Mod cI cB a0 a1 a2 a3 a4 a5 a6 a7 a8 a9 a10 a11 a12 a13 a14 a15 o.2.1 o.2.2.1 m_taped m_reading m_statements m_telling m_hasImage o.2.2.2.1 o.2.2.2.2.1 m_rowMany m_lots o.2.2.2.2.2.1 o.2.2.2.2.2.2.1 o.2.2.2.2.2.2.2.1 o.2.2.2.2.2.2.2.2.1 o.2.2.2.2.2.2.2.2.2.1 o.2.2.2.2.2.2.2.2.2.2.1 o.2.2.2.2.2.2.2.2.2.2.2.1 m_tape m_sort m_sortAt m_told o.2.2.2.2.2.2.2.2.2.2.2.2 m_was m_ends m_row) (some (.int (zi o.1))) := by
  refine Ct.start (by decide) (Nat.le_of_ble_eq_true rfl) (fun G X hR => ?_)
  refine x_ls (ls2 := [(0, .ref a0), (1, .int (zi x1)), (2, .int (zi x2))]) [0, 1, 2] rfl ?_
  unfold m_Mod_first at h
  refine x_iload_n (pc := 0) X d_Mod_first_0 1 rfl rfl ?_
  refine x_iload_n (pc := 1) X d_Mod_first_1 2 rfl rfl ?_
  obtain ⟨r1, h2, h⟩ := bnd_e h
  refine x_callS (pc := 2) (As := [.int (zi x1), .int (zi x2)]) (rest := []) (w2 := (w_Mod cI cB a0 a1 a2 a3 a4 a5 a6 a7 a8 a9 a10 a11 a12 a13 a14 a15 m_stepsMade m_stepsMost m_taped m_reading m_statements m_telling m_hasImage m_isKeeping m_cursor m_rowMany m_lots m_refused m_bytes m_owner m_block m_written m_waits m_kinds m_tape m_sort m_sortAt m_told m_kept m_was m_ends m_row)) X d_Mod_first_2 lk_Mod_322 mv_Mod_areTwo (c_Mod_areTwo l D cI cB x1 x2 h2) ⟨(Nat.le_of_ble_eq_true rfl), (Nat.le_of_ble_eq_true rfl), (Nat.le_of_ble_eq_true rfl), (Nat.le_of_ble_eq_true rfl)⟩ [] rfl rfl rfl (Up.same rfl) rfl rfl (Nat.le_of_ble_eq_true rfl) ?_
  refine x_ifne (pc := 5) (tgt := 14) X d_Mod_first_5 rfl h (fun h => ?_) (fun h => ?_)
  · skip
    refine x_aload_n (pc := 14) X d_Mod_first_14 0 rfl rfl ?_
    refine x_iload_n (pc := 15) X d_Mod_first_15 1 rfl rfl ?_
    refine x_iload_n (pc := 16) X d_Mod_first_16 2 rfl rfl ?_
    obtain ⟨r3, h4, h⟩ := bnd_e h
    refine x_callV (pc := 17) (As := [.int (zi x1), .int (zi x2)]) (rest := []) (w2 := (w_Mod cI cB a0 a1 a2 a3 a4 a5 a6 a7 a8 a9 a10 a11 a12 a13 a14 a15 r3.2.1 r3.2.2.1 m_taped m_reading m_statements m_telling m_hasImage r3.2.2.2.1 r3.2.2.2.2.1 m_rowMany m_lots m_refused r3.2.2.2.2.2.1 r3.2.2.2.2.2.2.1 r3.2.2.2.2.2.2.2.1 r3.2.2.2.2.2.2.2.2.1 r3.2.2.2.2.2.2.2.2.2.1 r3.2.2.2.2.2.2.2.2.2.2.1 m_tape m_sort m_sortAt m_told r3.2.2.2.2.2.2.2.2.2.2.2 m_was m_ends m_row)) X d_Mod_first_17 lk_Mod_325 mv_Mod_extentsOfBoth (c_Mod_extentsOfBoth l D cI cB a0 a1 a2 a3 a4 a5 a6 a7 a8 a9 a10 a11 a12 a13 a14 a15 m_stepsMade m_stepsMost m_taped m_reading m_statements m_telling m_hasImage m_isKeeping m_cursor m_rowMany m_lots m_refused m_bytes m_owner m_block m_written m_waits m_kinds m_tape m_sort m_sortAt m_told m_kept m_was m_ends m_row x1 x2 h4) ⟨(Nat.le_of_ble_eq_true rfl), (Nat.le_of_ble_eq_true rfl), (Nat.le_of_ble_eq_true rfl), (Nat.le_of_ble_eq_true rfl)⟩ 0 rfl rfl [0, 1, 2, 3, 4, 5, 6, 7, 8, 9, 10, 11, 12, 13, 14, 15] rfl rfl rfl (Up.of [] [] rfl rfl rfl 16 rfl (by decide +kernel)) rfl rfl (Nat.le_of_ble_eq_true rfl) ?_
    refine x_istore_n (pc := 20) (ls2 := [(3, .int (zi r3.1)), (0, .ref a0), (1, .int (zi x1)), (2, .int (zi x2))]) X d_Mod_first_20 rfl (Nat.le_of_ble_eq_true rfl) rfl ?_
    refine x_aload_n (pc := 21) X d_Mod_first_21 1 rfl rfl ?_
    refine x_iload_n (pc := 22) X d_Mod_first_22 3 rfl rfl ?_
    refine x_iload_n (pc := 23) X d_Mod_first_23 2 rfl rfl ?_
    obtain ⟨r5, h6, h⟩ := bnd_e h
    refine x_callV (pc := 24) (As := [.int (zi x2), .int (zi x1)]) (rest := []) (w2 := (w_Mod cI cB a0 a1 a2 a3 a4 a5 a6 a7 a8 a9 a10 a11 a12 a13 a14 a15 r5.2.1 r5.2.2.1 m_taped m_reading m_statements m_telling m_hasImage r5.2.2.2.1 r5.2.2.2.2.1 m_rowMany m_lots m_refused r5.2.2.2.2.2.1 r5.2.2.2.2.2.2.1 r5.2.2.2.2.2.2.2.1 r5.2.2.2.2.2.2.2.2.1 r5.2.2.2.2.2.2.2.2.2.1 r5.2.2.2.2.2.2.2.2.2.2.1 m_tape m_sort m_sortAt m_told r5.2.2.2.2.2.2.2.2.2.2.2 m_was m_ends m_row)) X d_Mod_first_24 lk_Mod_325 mv_Mod_extentsOfBoth (c_Mod_extentsOfBoth l D cI cB a0 a1 a2 a3 a4 a5 a6 a7 a8 a9 a10 a11 a12 a13 a14 a15 r3.2.1 r3.2.2.1 m_taped m_reading m_statements m_telling m_hasImage r3.2.2.2.1 r3.2.2.2.2.1 m_rowMany m_lots m_refused r3.2.2.2.2.2.1 r3.2.2.2.2.2.2.1 r3.2.2.2.2.2.2.2.1 r3.2.2.2.2.2.2.2.2.1 r3.2.2.2.2.2.2.2.2.2.1 r3.2.2.2.2.2.2.2.2.2.2.1 m_tape m_sort m_sortAt m_told r3.2.2.2.2.2.2.2.2.2.2.2 m_was m_ends m_row x2 x1 h6) ⟨(Nat.le_of_ble_eq_true rfl), (Nat.le_of_ble_eq_true rfl), (Nat.le_of_ble_eq_true rfl), (Nat.le_of_ble_eq_true rfl)⟩ 0 rfl rfl [0, 1, 2, 3, 4, 5, 6, 7, 8, 9, 10, 11, 12, 13, 14, 15] rfl rfl rfl (Up.of [] [] rfl rfl rfl 16 rfl (by decide +kernel)) rfl rfl (Nat.le_of_ble_eq_true rfl) ?_
    refine x_istore (pc := 27) (ls2 := [(4, .int (zi r5.1)), (3, .int (zi r3.1)), (0, .ref a0), (1, .int (zi x1)), (2, .int (zi x2))]) X d_Mod_first_27 (Nat.le_of_ble_eq_true rfl) rfl ?_
    refine x_iload_n (pc := 29) X d_Mod_first_29 1 rfl rfl ?_
    refine x_iload (pc := 30) X d_Mod_first_30 0 rfl ?_
    refine x_icmpge (pc := 32) (tgt := 39) X d_Mod_first_32 rfl h (fun h => ?_) (fun h => ?_)
    · skip
      refine x_iload_n (pc := 39) X d_Mod_first_39 1 rfl rfl ?_
      refine x_iload (pc := 40) X d_Mod_first_40 0 rfl ?_
      refine x_icmple (pc := 42) (tgt := 49) X d_Mod_first_42 rfl h (fun h => ?_) (fun h => ?_)
      · skip
        refine x_bipush (pc := 49) (v := -9) X d_Mod_first_49 rfl ?_
        cases h
        exact x_iret (pc := 51) X hR d_Mod_first_51
      · skip
        refine x_iconst (pc := 45) X d_Mod_first_45  ?_
        refine x_goto (pc := 46) (tgt := 51) X d_Mod_first_46 rfl ?_
        cases h
        exact x_iret (pc := 51) X hR d_Mod_first_51
    · skip
      refine x_iconst (pc := 35) X d_Mod_first_35  ?_
      refine x_goto (pc := 36) (tgt := 51) X d_Mod_first_36 rfl ?_
      cases h
      exact x_iret (pc := 51) X hR d_Mod_first_51
  · skip
    refine x_aload_n (pc := 8) X d_Mod_first_8 0 rfl rfl ?_
    refine x_iconst (pc := 9) X d_Mod_first_9  ?_
    obtain ⟨r7, h8, h⟩ := bnd_e h
    refine x_callV (pc := 10) (As := [.int (zi (-1))]) (rest := []) (w2 := (w_Mod cI cB a0 a1 a2 a3 a4 a5 a6 a7 a8 a9 a10 a11 a12 a13 a14 a15 m_stepsMade m_stepsMost m_taped m_reading m_statements m_telling m_hasImage m_isKeeping m_cursor m_rowMany m_lots r7.2 m_bytes m_owner m_block m_written m_waits m_kinds m_tape m_sort m_sortAt m_told m_kept m_was m_ends m_row)) X d_Mod_first_10 lk_Mod_172 mv_Mod_no (c_Mod_no l D cI cB a0 a1 a2 a3 a4 a5 a6 a7 a8 a9 a10 a11 a12 a13 a14 a15 m_stepsMade m_stepsMost m_taped m_reading m_statements m_telling m_hasImage m_isKeeping m_cursor m_rowMany m_lots m_refused m_bytes m_owner m_block m_written m_waits m_kinds m_tape m_sort m_sortAt m_told m_kept m_was m_ends m_row (-1) h8) ⟨(Nat.le_of_ble_eq_true rfl), (Nat.le_of_ble_eq_true rfl), (Nat.le_of_ble_eq_true rfl), (Nat.le_of_ble_eq_true rfl)⟩ 0 rfl rfl [0, 1, 2, 3, 4, 5, 6, 7, 8, 9, 10, 11, 12, 13, 14, 15] rfl rfl rfl (Up.of [] [] rfl rfl rfl 16 rfl (by decide +kernel)) rfl rfl (Nat.le_of_ble_eq_true rfl) ?_
    cases h
    exact x_iret (pc := 13) X hR d_Mod_first_13
theorem d_Mod_findEnds_0 : decode b_Mod_findEnds 0 = .ok (.iconst 0, 1) := by decide +kernel
theorem d_Mod_findEnds_1 : decode b_Mod_findEnds 1 = .ok (.istore_n 3, 1) := by decide +kernel
theorem d_Mod_findEnds_2 : decode b_Mod_findEnds 2 = .ok (.iload_n 3, 1) := by decide +kernel
theorem d_Mod_findEnds_3 : decode b_Mod_findEnds 3 = .ok (.iconst 4, 1) := by decide +kernel
theorem d_Mod_findEnds_4 : decode b_Mod_findEnds 4 = .ok (.if_icmp .ge 91, 3) := by decide +kernel
theorem d_Mod_findEnds_7 : decode b_Mod_findEnds 7 = .ok (.aload_n 0, 1) := by decide +kernel
theorem d_Mod_findEnds_8 : decode b_Mod_findEnds 8 = .ok (.invokevirtual 291, 3) := by decide +kernel
theorem d_Mod_findEnds_11 : decode b_Mod_findEnds 11 = .ok (.iload_n 3, 1) := by decide +kernel
theorem d_Mod_findEnds_12 : decode b_Mod_findEnds 12 = .ok (.iconst 2, 1) := by decide +kernel
theorem d_Mod_findEnds_13 : decode b_Mod_findEnds 13 = .ok (.idiv, 1) := by decide +kernel
theorem d_Mod_findEnds_14 : decode b_Mod_findEnds 14 = .ok (.iconst 1, 1) := by decide +kernel
theorem d_Mod_findEnds_15 : decode b_Mod_findEnds 15 = .ok (.if_icmp .ne 11, 3) := by decide +kernel
theorem d_Mod_findEnds_18 : decode b_Mod_findEnds 18 = .ok (.aload_n 0, 1) := by decide +kernel
theorem d_Mod_findEnds_19 : decode b_Mod_findEnds 19 = .ok (.iload_n 1, 1) := by decide +kernel
theorem d_Mod_findEnds_20 : decode b_Mod_findEnds 20 = .ok (.ldc 165, 2) := by decide +kernel
theorem d_Mod_findEnds_22 : decode b_Mod_findEnds 22 = .ok (.invokevirtual 150, 3) := by decide +kernel
theorem d_Mod_findEnds_25 : decode b_Mod_findEnds 25 = .ok (.pop, 1) := by decide +kernel
theorem d_Mod_findEnds_26 : decode b_Mod_findEnds 26 = .ok (.iload_n 3, 1) := by decide +kernel
theorem d_Mod_findEnds_27 : decode b_Mod_findEnds 27 = .ok (.iconst 2, 1) := by decide +kernel
theorem d_Mod_findEnds_28 : decode b_Mod_findEnds 28 = .ok (.irem, 1) := by decide +kernel
theorem d_Mod_findEnds_29 : decode b_Mod_findEnds 29 = .ok (.iconst 1, 1) := by decide +kernel
theorem d_Mod_findEnds_30 : decode b_Mod_findEnds 30 = .ok (.if_icmp .ne 11, 3) := by decide +kernel
theorem d_Mod_findEnds_33 : decode b_Mod_findEnds 33 = .ok (.aload_n 0, 1) := by decide +kernel
theorem d_Mod_findEnds_34 : decode b_Mod_findEnds 34 = .ok (.iload_n 2, 1) := by decide +kernel
theorem d_Mod_findEnds_35 : decode b_Mod_findEnds 35 = .ok (.ldc 165, 2) := by decide +kernel
theorem d_Mod_findEnds_37 : decode b_Mod_findEnds 37 = .ok (.invokevirtual 150, 3) := by decide +kernel
theorem d_Mod_findEnds_40 : decode b_Mod_findEnds 40 = .ok (.pop, 1) := by decide +kernel
theorem d_Mod_findEnds_41 : decode b_Mod_findEnds 41 = .ok (.aload_n 0, 1) := by decide +kernel
theorem d_Mod_findEnds_42 : decode b_Mod_findEnds 42 = .ok (.iload_n 2, 1) := by decide +kernel
theorem d_Mod_findEnds_43 : decode b_Mod_findEnds 43 = .ok (.ldc 165, 2) := by decide +kernel
theorem d_Mod_findEnds_45 : decode b_Mod_findEnds 45 = .ok (.invokevirtual 150, 3) := by decide +kernel
theorem d_Mod_findEnds_48 : decode b_Mod_findEnds 48 = .ok (.pop, 1) := by decide +kernel
theorem d_Mod_findEnds_49 : decode b_Mod_findEnds 49 = .ok (.aload_n 0, 1) := by decide +kernel
theorem d_Mod_findEnds_50 : decode b_Mod_findEnds 50 = .ok (.iload_n 1, 1) := by decide +kernel
theorem d_Mod_findEnds_51 : decode b_Mod_findEnds 51 = .ok (.ldc 165, 2) := by decide +kernel
theorem d_Mod_findEnds_53 : decode b_Mod_findEnds 53 = .ok (.invokevirtual 150, 3) := by decide +kernel
theorem d_Mod_findEnds_56 : decode b_Mod_findEnds 56 = .ok (.pop, 1) := by decide +kernel
theorem d_Mod_findEnds_57 : decode b_Mod_findEnds 57 = .ok (.aload_n 0, 1) := by decide +kernel
theorem d_Mod_findEnds_58 : decode b_Mod_findEnds 58 = .ok (.getfield 49, 3) := by decide +kernel
theorem d_Mod_findEnds_61 : decode b_Mod_findEnds 61 = .ok (.iconst 2, 1) := by decide +kernel
theorem d_Mod_findEnds_62 : decode b_Mod_findEnds 62 = .ok (.iload_n 3, 1) := by decide +kernel
theorem d_Mod_findEnds_63 : decode b_Mod_findEnds 63 = .ok (.imul, 1) := by decide +kernel
theorem d_Mod_findEnds_64 : decode b_Mod_findEnds 64 = .ok (.aload_n 0, 1) := by decide +kernel
theorem d_Mod_findEnds_65 : decode b_Mod_findEnds 65 = .ok (.iload_n 1, 1) := by decide +kernel
theorem d_Mod_findEnds_66 : decode b_Mod_findEnds 66 = .ok (.invokevirtual 82, 3) := by decide +kernel
theorem d_Mod_findEnds_69 : decode b_Mod_findEnds 69 = .ok (.iastore, 1) := by decide +kernel
theorem d_Mod_findEnds_70 : decode b_Mod_findEnds 70 = .ok (.aload_n 0, 1) := by decide +kernel
theorem d_Mod_findEnds_71 : decode b_Mod_findEnds 71 = .ok (.getfield 49, 3) := by decide +kernel
theorem d_Mod_findEnds_74 : decode b_Mod_findEnds 74 = .ok (.iconst 2, 1) := by decide +kernel
theorem d_Mod_findEnds_75 : decode b_Mod_findEnds 75 = .ok (.iload_n 3, 1) := by decide +kernel
theorem d_Mod_findEnds_76 : decode b_Mod_findEnds 76 = .ok (.imul, 1) := by decide +kernel
theorem d_Mod_findEnds_77 : decode b_Mod_findEnds 77 = .ok (.iconst 1, 1) := by decide +kernel
theorem d_Mod_findEnds_78 : decode b_Mod_findEnds 78 = .ok (.iadd, 1) := by decide +kernel
theorem d_Mod_findEnds_79 : decode b_Mod_findEnds 79 = .ok (.aload_n 0, 1) := by decide +kernel
theorem d_Mod_findEnds_80 : decode b_Mod_findEnds 80 = .ok (.iload_n 2, 1) := by decide +kernel
theorem d_Mod_findEnds_81 : decode b_Mod_findEnds 81 = .ok (.invokevirtual 82, 3) := by decide +kernel
theorem d_Mod_findEnds_84 : decode b_Mod_findEnds 84 = .ok (.iastore, 1) := by decide +kernel
theorem d_Mod_findEnds_85 : decode b_Mod_findEnds 85 = .ok (.aload_n 0, 1) := by decide +kernel
theorem d_Mod_findEnds_86 : decode b_Mod_findEnds 86 = .ok (.invokevirtual 294, 3) := by decide +kernel
theorem d_Mod_findEnds_89 : decode b_Mod_findEnds 89 = .ok (.iinc 3 1, 3) := by decide +kernel
theorem d_Mod_findEnds_92 : decode b_Mod_findEnds 92 = .ok (.goto (-90), 3) := by decide +kernel
theorem d_Mod_findEnds_95 : decode b_Mod_findEnds 95 = .ok (.return_, 1) := by decide +kernel
def m_Mod_findEnds_2 : Nat → Int → Int → Int → Int → Int → Int → Int → (Int → Int) → (Int → Int) → (Int → Int) → (Int → Int) → (Int → Int) → (Int → Int) → (Int → Int) → (Int → Int) → Option (Int × Int × Int × Int × (Int → Int) × (Int → Int) × (Int → Int) × (Int → Int) × (Int → Int) × (Int → Int) × (Int → Int) × (Int → Int))
  | 0, _, _, _, _, _, _, _, _, _, _, _, _, _, _, _ => none
  | fuel + 1, v1, v2, v3, m_stepsMade, m_stepsMost, m_isKeeping, m_cursor, m_bytes, m_owner, m_block, m_written, m_waits, m_kinds, m_kept, m_ends =>
  clt v3 4 (bnd (m_Mod_minds m_isKeeping m_cursor m_bytes m_owner m_block m_written m_waits m_kinds m_kept) (fun r1 => gd (zx v3 2147483648 ∧ zp 2 2147483648) (jn (fun (z4 : Int) (z5 : Int) (z6 : Int) (c7 : Int) (c8 : Int) (c9 : Int) (c10 : Int) (c11 : Int → Int) (c12 : Int → Int) (c13 : Int → Int) (c14 : Int → Int) (c15 : Int → Int) (c16 : Int → Int) (c17 : Int → Int) (c18 : Int → Int) => gd (zx z6 2147483648 ∧ zp 2 2147483648) (jn (fun (z20 : Int) (z21 : Int) (z22 : Int) (c23 : Int) (c24 : Int) (c25 : Int) (c26 : Int) (c27 : Int → Int) (c28 : Int → Int) (c29 : Int → Int) (c30 : Int → Int) (c31 : Int → Int) (c32 : Int → Int) (c33 : Int → Int) (c34 : Int → Int) => bnd (m_Mod_flushes z21 1000000 c23 c24 c27 c28 c29 c30 c31 c32) (fun r35 => bnd (m_Mod_flushes z20 1000000 r35.2.1 r35.2.2.1 r35.2.2.2.1 r35.2.2.2.2.1 r35.2.2.2.2.2.1 r35.2.2.2.2.2.2.1 r35.2.2.2.2.2.2.2 c32) (fun r37 => bnd (m_Mod_extents z20 r37.2.2.2.2.2.1 r37.2.2.2.2.2.2.1) (fun r39 => gd (zx (2 * z22) 8) (bnd (m_Mod_extents z21 r37.2.2.2.2.2.1 r37.2.2.2.2.2.2.1) (fun r41 => gd (zx ((2 * z22) + 1) 8) (bnd (m_Mod_forgets c25 c26 r37.2.2.2.1 r37.2.2.2.2.1 r37.2.2.2.2.2.1 r37.2.2.2.2.2.2.1 r37.2.2.2.2.2.2.2 c32 c33) (fun r43 => m_Mod_findEnds_2 fuel z20 z21 (z22 + 1) r37.2.1 r37.2.2.1 r43.1 r43.2.1 r43.2.2.1 r43.2.2.2.1 r43.2.2.2.2.1 r43.2.2.2.2.2.1 r43.2.2.2.2.2.2.1 r43.2.2.2.2.2.2.2.1 r43.2.2.2.2.2.2.2.2 (uf (uf c34 (2 * z22) r39) ((2 * z22) + 1) r41))))))))) (fun j19 => ceq (z6 % 2) 1 (bnd (m_Mod_flushes z5 1000000 c7 c8 c11 c12 c13 c14 c15 c16) (fun r47 => j19 z4 z5 z6 r47.2.1 r47.2.2.1 c9 c10 r47.2.2.2.1 r47.2.2.2.2.1 r47.2.2.2.2.2.1 r47.2.2.2.2.2.2.1 r47.2.2.2.2.2.2.2 c16 c17 c18)) (j19 z4 z5 z6 c7 c8 c9 c10 c11 c12 c13 c14 c15 c16 c17 c18)))) (fun j3 => ceq (v3 / 2) 1 (bnd (m_Mod_flushes v1 1000000 m_stepsMade m_stepsMost r1.2.2.1 r1.2.2.2.1 r1.2.2.2.2.1 r1.2.2.2.2.2.1 r1.2.2.2.2.2.2.1 r1.2.2.2.2.2.2.2.1) (fun r51 => j3 v1 v2 v3 r51.2.1 r51.2.2.1 r1.1 r1.2.1 r51.2.2.2.1 r51.2.2.2.2.1 r51.2.2.2.2.2.1 r51.2.2.2.2.2.2.1 r51.2.2.2.2.2.2.2 r1.2.2.2.2.2.2.2.1 r1.2.2.2.2.2.2.2.2 m_ends)) (j3 v1 v2 v3 m_stepsMade m_stepsMost r1.1 r1.2.1 r1.2.2.1 r1.2.2.2.1 r1.2.2.2.2.1 r1.2.2.2.2.2.1 r1.2.2.2.2.2.2.1 r1.2.2.2.2.2.2.2.1 r1.2.2.2.2.2.2.2.2 m_ends))))) (some (m_stepsMade, m_stepsMost, m_isKeeping, m_cursor, m_bytes, m_owner, m_block, m_written, m_waits, m_kinds, m_kept, m_ends))
def m_Mod_findEnds (x1 : Int) (x2 : Int) (m_stepsMade : Int) (m_stepsMost : Int) (m_isKeeping : Int) (m_cursor : Int) (m_bytes : Int → Int) (m_owner : Int → Int) (m_block : Int → Int) (m_written : Int → Int) (m_waits : Int → Int) (m_kinds : Int → Int) (m_kept : Int → Int) (m_ends : Int → Int) : Option (Int × Int × Int × Int × (Int → Int) × (Int → Int) × (Int → Int) × (Int → Int) × (Int → Int) × (Int → Int) × (Int → Int) × (Int → Int)) :=
  m_Mod_findEnds_2 5000 x1 x2 0 m_stepsMade m_stepsMost m_isKeeping m_cursor m_bytes m_owner m_block m_written m_waits m_kinds m_kept m_ends
set_option maxHeartbeats 4000000 in
set_option maxRecDepth 100000 in
theorem l_Mod_findEnds_2 {G : GT} {l : Launch} {D : va_G} {cI cB : ClassId} {a0 a1 a2 a3 a4 a5 a6 a7 a8 a9 a10 a11 a12 a13 a14 a15 : Nat} {m_taped : Int} {m_reading : Int} {m_statements : Int} {m_telling : Int} {m_hasImage : Int} {m_rowMany : Int} {m_lots : Int} {m_refused : Int → Int} {m_tape : Int → Int} {m_sort : Int → Int} {m_sortAt : Int → Int} {m_told : Int → Int} {m_was : Int → Int} {m_row : Int → Int} (X : Cx G l D cI cB b_Mod_findEnds y_Mod_findEnds.cls 4 { frames := 6, cells := 0, slots := 0, locals := 142 }) : ∀ (fuel : Nat) (v1 : Int) (v2 : Int) (v3 : Int) (m_stepsMade : Int) (m_stepsMost : Int) (m_isKeeping : Int) (m_cursor : Int) (m_bytes : Int → Int) (m_owner : Int → Int) (m_block : Int → Int) (m_written : Int → Int) (m_waits : Int → Int) (m_kinds : Int → Int) (m_kept : Int → Int) (m_ends : Int → Int) (o : Int × Int × Int × Int × (Int → Int) × (Int → Int) × (Int → Int) × (Int → Int) × (Int → Int) × (Int → Int) × (Int → Int) × (Int → Int)), m_Mod_findEnds_2 fuel v1 v2 v3 m_stepsMade m_stepsMost m_isKeeping m_cursor m_bytes m_owner m_block m_written m_waits m_kinds m_kept m_ends = some o → Rt G none none (w_Mod cI cB a0 a1 a2 a3 a4 a5 a6 a7 a8 a9 a10 a11 a12 a13 a14 a15 o.1 o.2.1 m_taped m_reading m_statements m_telling m_hasImage o.2.2.1 o.2.2.2.1 m_rowMany m_lots m_refused o.2.2.2.2.1 o.2.2.2.2.2.1 o.2.2.2.2.2.2.1 o.2.2.2.2.2.2.2.1 o.2.2.2.2.2.2.2.2.1 o.2.2.2.2.2.2.2.2.2.1 m_tape m_sort m_sortAt m_told o.2.2.2.2.2.2.2.2.2.2.1 m_was o.2.2.2.2.2.2.2.2.2.2.2 m_row) → Wx G 0 0 2 [(0, .ref a0), (1, .int (zi v1)), (2, .int (zi v2)), (3, .int (zi v3))] [] (w_Mod cI cB a0 a1 a2 a3 a4 a5 a6 a7 a8 a9 a10 a11 a12 a13 a14 a15 m_stepsMade m_stepsMost m_taped m_reading m_statements m_telling m_hasImage m_isKeeping m_cursor m_rowMany m_lots m_refused m_bytes m_owner m_block m_written m_waits m_kinds m_tape m_sort m_sortAt m_told m_kept m_was m_ends m_row) := by
  intro fuel
  induction fuel with
  | zero =>
    intro v1 v2 v3 m_stepsMade m_stepsMost m_isKeeping m_cursor m_bytes m_owner m_block m_written m_waits m_kinds m_kept m_ends o h
    exact absurd h (by simp [m_Mod_findEnds_2])
  | succ fuel ih =>
    intro v1 v2 v3 m_stepsMade m_stepsMost m_isKeeping m_cursor m_bytes m_owner m_block m_written m_waits m_kinds m_kept m_ends o h hR
    rw [m_Mod_findEnds_2] at h
    refine x_iload_n (pc := 2) X d_Mod_findEnds_2 3 rfl rfl ?_
    refine x_iconst (pc := 3) X d_Mod_findEnds_3  ?_
    refine x_icmpge (pc := 4) (tgt := 95) X d_Mod_findEnds_4 rfl h (fun h => ?_) (fun h => ?_)
    · skip
      cases h
      exact x_vret (pc := 95) X hR d_Mod_findEnds_95
    · skip
      refine x_aload_n (pc := 7) X d_Mod_findEnds_7 0 rfl rfl ?_
      obtain ⟨r1, h2, h⟩ := bnd_e h
      refine x_callV (pc := 8) (As := []) (rest := []) (w2 := (w_Mod cI cB a0 a1 a2 a3 a4 a5 a6 a7 a8 a9 a10 a11 a12 a13 a14 a15 m_stepsMade m_stepsMost m_taped m_reading m_statements m_telling m_hasImage r1.1 r1.2.1 m_rowMany m_lots m_refused r1.2.2.1 r1.2.2.2.1 r1.2.2.2.2.1 r1.2.2.2.2.2.1 r1.2.2.2.2.2.2.1 r1.2.2.2.2.2.2.2.1 m_tape m_sort m_sortAt m_told r1.2.2.2.2.2.2.2.2 m_was m_ends m_row)) X d_Mod_findEnds_8 lk_Mod_291 mv_Mod_minds (c_Mod_minds l D cI cB a0 a1 a2 a3 a4 a5 a6 a7 a8 a9 a10 a11 a12 a13 a14 a15 m_stepsMade m_stepsMost m_taped m_reading m_statements m_telling m_hasImage m_isKeeping m_cursor m_rowMany m_lots m_refused m_bytes m_owner m_block m_written m_waits m_kinds m_tape m_sort m_sortAt m_told m_kept m_was m_ends m_row h2) ⟨(Nat.le_of_ble_eq_true rfl), (Nat.le_of_ble_eq_true rfl), (Nat.le_of_ble_eq_true rfl), (Nat.le_of_ble_eq_true rfl)⟩ 0 rfl rfl [0, 1, 2, 3, 4, 5, 6, 7, 8, 9, 10, 11, 12, 13, 14, 15] rfl rfl rfl (Up.of [] [] rfl rfl rfl 16 rfl (by decide +kernel)) rfl rfl (Nat.le_of_ble_eq_true rfl) ?_
      refine x_iload_n (pc := 11) X d_Mod_findEnds_11 3 rfl rfl ?_
      refine x_iconst (pc := 12) X d_Mod_findEnds_12  ?_
      refine x_idiv (pc := 13) X d_Mod_findEnds_13 h (fun h => ?_)
      refine x_iconst (pc := 14) X d_Mod_findEnds_14  ?_
      obtain ⟨j3, hj49, h⟩ := jn_e h
      have J50 : ∀ (z4 : Int) (z5 : Int) (z6 : Int) (c7 : Int) (c8 : Int) (c9 : Int) (c10 : Int) (c11 : Int → Int) (c12 : Int → Int) (c13 : Int → Int) (c14 : Int → Int) (c15 : Int → Int) (c16 : Int → Int) (c17 : Int → Int) (c18 : Int → Int), j3 z4 z5 z6 c7 c8 c9 c10 c11 c12 c13 c14 c15 c16 c17 c18 = some o → Wx G 0 0 26 [(0, .ref a0), (1, .int (zi z4)), (2, .int (zi z5)), (3, .int (zi z6))] [] (w_Mod cI cB a0 a1 a2 a3 a4 a5 a6 a7 a8 a9 a10 a11 a12 a13 a14 a15 c7 c8 m_taped m_reading m_statements m_telling m_hasImage c9 c10 m_rowMany m_lots m_refused c11 c12 c13 c14 c15 c16 m_tape m_sort m_sortAt m_told c17 m_was c18 m_row) := by
        intro z4 z5 z6 c7 c8 c9 c10 c11 c12 c13 c14 c15 c16 c17 c18 h
        rw [hj49] at h
        (try dsimp only at h)
        refine x_iload_n (pc := 26) X d_Mod_findEnds_26 3 rfl rfl ?_
        refine x_iconst (pc := 27) X d_Mod_findEnds_27  ?_
        refine x_irem (pc := 28) X d_Mod_findEnds_28 h (fun h => ?_)
        refine x_iconst (pc := 29) X d_Mod_findEnds_29  ?_
        obtain ⟨j19, hj45, h⟩ := jn_e h
        have J46 : ∀ (z20 : Int) (z21 : Int) (z22 : Int) (c23 : Int) (c24 : Int) (c25 : Int) (c26 : Int) (c27 : Int → Int) (c28 : Int → Int) (c29 : Int → Int) (c30 : Int → Int) (c31 : Int → Int) (c32 : Int → Int) (c33 : Int → Int) (c34 : Int → Int), j19 z20 z21 z22 c23 c24 c25 c26 c27 c28 c29 c30 c31 c32 c33 c34 = some o → Wx G 0 0 41 [(0, .ref a0), (1, .int (zi z20)), (2, .int (zi z21)), (3, .int (zi z22))] [] (w_Mod cI cB a0 a1 a2 a3 a4 a5 a6 a7 a8 a9 a10 a11 a12 a13 a14 a15 c23 c24 m_taped m_reading m_statements m_telling m_hasImage c25 c26 m_rowMany m_lots m_refused c27 c28 c29 c30 c31 c32 m_tape m_sort m_sortAt m_told c33 m_was c34 m_row) := by
          intro z20 z21 z22 c23 c24 c25 c26 c27 c28 c29 c30 c31 c32 c33 c34 h
          rw [hj45] at h
          (try dsimp only at h)
          refine x_aload_n (pc := 41) X d_Mod_findEnds_41 0 rfl rfl ?_
          refine x_iload_n (pc := 42) X d_Mod_findEnds_42 2 rfl rfl ?_
          refine x_ldc (pc := 43) X d_Mod_findEnds_43 cw_Mod_165 cg_Mod_165 ?_
          obtain ⟨r35, h36, h⟩ := bnd_e h
          refine x_callV (pc := 45) (As := [.int (zi z21), .int (zi 1000000)]) (rest := []) (w2 := (w_Mod cI cB a0 a1 a2 a3 a4 a5 a6 a7 a8 a9 a10 a11 a12 a13 a14 a15 r35.2.1 r35.2.2.1 m_taped m_reading m_statements m_telling m_hasImage c25 c26 m_rowMany m_lots m_refused r35.2.2.2.1 r35.2.2.2.2.1 r35.2.2.2.2.2.1 r35.2.2.2.2.2.2.1 r35.2.2.2.2.2.2.2 c32 m_tape m_sort m_sortAt m_told c33 m_was c34 m_row)) X d_Mod_findEnds_45 lk_Mod_150 mv_Mod_flushes (c_Mod_flushes l D cI cB a0 a1 a2 a3 a4 a5 a6 a7 a8 a9 a10 a11 a12 a13 a14 a15 c23 c24 m_taped m_reading m_statements m_telling m_hasImage c25 c26 m_rowMany m_lots m_refused c27 c28 c29 c30 c31 c32 m_tape m_sort m_sortAt m_told c33 m_was c34 m_row z21 1000000 h36) ⟨(Nat.le_of_ble_eq_true rfl), (Nat.le_of_ble_eq_true rfl), (Nat.le_of_ble_eq_true rfl), (Nat.le_of_ble_eq_true rfl)⟩ 0 rfl rfl [0, 1, 2, 3, 4, 5, 6, 7, 8, 9, 10, 11, 12, 13, 14, 15] rfl rfl rfl (Up.of [] [] rfl rfl rfl 16 rfl (by decide +kernel)) rfl rfl (Nat.le_of_ble_eq_true rfl) ?_
          refine x_pop (pc := 48) X d_Mod_findEnds_48 rfl ?_
          refine x_aload_n (pc := 49) X d_Mod_findEnds_49 0 rfl rfl ?_
          refine x_iload_n (pc := 50) X d_Mod_findEnds_50 1 rfl rfl ?_
          refine x_ldc (pc := 51) X d_Mod_findEnds_51 cw_Mod_165 cg_Mod_165 ?_
          obtain ⟨r37, h38, h⟩ := bnd_e h
          refine x_callV (pc := 53) (As := [.int (zi z20), .int (zi 1000000)]) (rest := []) (w2 := (w_Mod cI cB a0 a1 a2 a3 a4 a5 a6 a7 a8 a9 a10 a11 a12 a13 a14 a15 r37.2.1 r37.2.2.1 m_taped m_reading m_statements m_telling m_hasImage c25 c26 m_rowMany m_lots m_refused r37.2.2.2.1 r37.2.2.2.2.1 r37.2.2.2.2.2.1 r37.2.2.2.2.2.2.1 r37.2.2.2.2.2.2.2 c32 m_tape m_sort m_sortAt m_told c33 m_was c34 m_row)) X d_Mod_findEnds_53 lk_Mod_150 mv_Mod_flushes (c_Mod_flushes l D cI cB a0 a1 a2 a3 a4 a5 a6 a7 a8 a9 a10 a11 a12 a13 a14 a15 r35.2.1 r35.2.2.1 m_taped m_reading m_statements m_telling m_hasImage c25 c26 m_rowMany m_lots m_refused r35.2.2.2.1 r35.2.2.2.2.1 r35.2.2.2.2.2.1 r35.2.2.2.2.2.2.1 r35.2.2.2.2.2.2.2 c32 m_tape m_sort m_sortAt m_told c33 m_was c34 m_row z20 1000000 h38) ⟨(Nat.le_of_ble_eq_true rfl), (Nat.le_of_ble_eq_true rfl), (Nat.le_of_ble_eq_true rfl), (Nat.le_of_ble_eq_true rfl)⟩ 0 rfl rfl [0, 1, 2, 3, 4, 5, 6, 7, 8, 9, 10, 11, 12, 13, 14, 15] rfl rfl rfl (Up.of [] [] rfl rfl rfl 16 rfl (by decide +kernel)) rfl rfl (Nat.le_of_ble_eq_true rfl) ?_
          refine x_pop (pc := 56) X d_Mod_findEnds_56 rfl ?_
          refine x_aload_n (pc := 57) X d_Mod_findEnds_57 0 rfl rfl ?_
          refine x_get (pc := 58) X d_Mod_findEnds_58 0 rfl fl_Mod_49 rfl ?_
          refine x_iconst (pc := 61) X d_Mod_findEnds_61  ?_
          refine x_iload_n (pc := 62) X d_Mod_findEnds_62 3 rfl rfl ?_
          refine x_imul (pc := 63) X d_Mod_findEnds_63  ?_
          refine x_aload_n (pc := 64) X d_Mod_findEnds_64 0 rfl rfl ?_
          refine x_iload_n (pc := 65) X d_Mod_findEnds_65 1 rfl rfl ?_
          obtain ⟨r39, h40, h⟩ := bnd_e h
          refine x_callV (pc := 66) (As := [.int (zi z20)]) (rest := [.int (zi (2 * z22)), .ref a14]) (w2 := (w_Mod cI cB a0 a1 a2 a3 a4 a5 a6 a7 a8 a9 a10 a11 a12 a13 a14 a15 r37.2.1 r37.2.2.1 m_taped m_reading m_statements m_telling m_hasImage c25 c26 m_rowMany m_lots m_refused r37.2.2.2.1 r37.2.2.2.2.1 r37.2.2.2.2.2.1 r37.2.2.2.2.2.2.1 r37.2.2.2.2.2.2.2 c32 m_tape m_sort m_sortAt m_told c33 m_was c34 m_row)) X d_Mod_findEnds_66 lk_Mod_82 mv_Mod_extents (c_Mod_extents l D cI cB a0 a1 a2 a3 a4 a5 a6 a7 a8 a9 a10 a11 a12 a13 a14 a15 r37.2.1 r37.2.2.1 m_taped m_reading m_statements m_telling m_hasImage c25 c26 m_rowMany m_lots m_refused r37.2.2.2.1 r37.2.2.2.2.1 r37.2.2.2.2.2.1 r37.2.2.2.2.2.2.1 r37.2.2.2.2.2.2.2 c32 m_tape m_sort m_sortAt m_told c33 m_was c34 m_row z20 h40) ⟨(Nat.le_of_ble_eq_true rfl), (Nat.le_of_ble_eq_true rfl), (Nat.le_of_ble_eq_true rfl), (Nat.le_of_ble_eq_true rfl)⟩ 0 rfl rfl [0, 1, 2, 3, 4, 5, 6, 7, 8, 9, 10, 11, 12, 13, 14, 15] rfl rfl rfl (Up.same rfl) rfl rfl (Nat.le_of_ble_eq_true rfl) ?_
          refine x_iast (pc := 69) (w2 := (w_Mod cI cB a0 a1 a2 a3 a4 a5 a6 a7 a8 a9 a10 a11 a12 a13 a14 a15 r37.2.1 r37.2.2.1 m_taped m_reading m_statements m_telling m_hasImage c25 c26 m_rowMany m_lots m_refused r37.2.2.2.1 r37.2.2.2.2.1 r37.2.2.2.2.2.1 r37.2.2.2.2.2.2.1 r37.2.2.2.2.2.2.2 c32 m_tape m_sort m_sortAt m_told c33 m_was (uf c34 (2 * z22) r39) m_row)) X d_Mod_findEnds_69 14 rfl (Nat.le_of_ble_eq_true rfl) rfl rfl h (fun h => ?_)
          refine x_aload_n (pc := 70) X d_Mod_findEnds_70 0 rfl rfl ?_
          refine x_get (pc := 71) X d_Mod_findEnds_71 0 rfl fl_Mod_49 rfl ?_
          refine x_iconst (pc := 74) X d_Mod_findEnds_74  ?_
          refine x_iload_n (pc := 75) X d_Mod_findEnds_75 3 rfl rfl ?_
          refine x_imul (pc := 76) X d_Mod_findEnds_76  ?_
          refine x_iconst (pc := 77) X d_Mod_findEnds_77  ?_
          refine x_iadd (pc := 78) X d_Mod_findEnds_78  ?_
          refine x_aload_n (pc := 79) X d_Mod_findEnds_79 0 rfl rfl ?_
          refine x_iload_n (pc := 80) X d_Mod_findEnds_80 2 rfl rfl ?_
          obtain ⟨r41, h42, h⟩ := bnd_e h
          refine x_callV (pc := 81) (As := [.int (zi z21)]) (rest := [.int (zi ((2 * z22) + 1)), .ref a14]) (w2 := (w_Mod cI cB a0 a1 a2 a3 a4 a5 a6 a7 a8 a9 a10 a11 a12 a13 a14 a15 r37.2.1 r37.2.2.1 m_taped m_reading m_statements m_telling m_hasImage c25 c26 m_rowMany m_lots m_refused r37.2.2.2.1 r37.2.2.2.2.1 r37.2.2.2.2.2.1 r37.2.2.2.2.2.2.1 r37.2.2.2.2.2.2.2 c32 m_tape m_sort m_sortAt m_told c33 m_was (uf c34 (2 * z22) r39) m_row)) X d_Mod_findEnds_81 lk_Mod_82 mv_Mod_extents (c_Mod_extents l D cI cB a0 a1 a2 a3 a4 a5 a6 a7 a8 a9 a10 a11 a12 a13 a14 a15 r37.2.1 r37.2.2.1 m_taped m_reading m_statements m_telling m_hasImage c25 c26 m_rowMany m_lots m_refused r37.2.2.2.1 r37.2.2.2.2.1 r37.2.2.2.2.2.1 r37.2.2.2.2.2.2.1 r37.2.2.2.2.2.2.2 c32 m_tape m_sort m_sortAt m_told c33 m_was (uf c34 (2 * z22) r39) m_row z21 h42) ⟨(Nat.le_of_ble_eq_true rfl), (Nat.le_of_ble_eq_true rfl), (Nat.le_of_ble_eq_true rfl), (Nat.le_of_ble_eq_true rfl)⟩ 0 rfl rfl [0, 1, 2, 3, 4, 5, 6, 7, 8, 9, 10, 11, 12, 13, 14, 15] rfl rfl rfl (Up.same rfl) rfl rfl (Nat.le_of_ble_eq_true rfl) ?_
          refine x_iast (pc := 84) (w2 := (w_Mod cI cB a0 a1 a2 a3 a4 a5 a6 a7 a8 a9 a10 a11 a12 a13 a14 a15 r37.2.1 r37.2.2.1 m_taped m_reading m_statements m_telling m_hasImage c25 c26 m_rowMany m_lots m_refused r37.2.2.2.1 r37.2.2.2.2.1 r37.2.2.2.2.2.1 r37.2.2.2.2.2.2.1 r37.2.2.2.2.2.2.2 c32 m_tape m_sort m_sortAt m_told c33 m_was (uf (uf c34 (2 * z22) r39) ((2 * z22) + 1) r41) m_row)) X d_Mod_findEnds_84 14 rfl (Nat.le_of_ble_eq_true rfl) rfl rfl h (fun h => ?_)
          refine x_aload_n (pc := 85) X d_Mod_findEnds_85 0 rfl rfl ?_
          obtain ⟨r43, h44, h⟩ := bnd_e h
          refine x_callV (pc := 86) (As := []) (rest := []) (w2 := (w_Mod cI cB a0 a1 a2 a3 a4 a5 a6 a7 a8 a9 a10 a11 a12 a13 a14 a15 r37.2.1 r37.2.2.1 m_taped m_reading m_statements m_telling m_hasImage r43.1 r43.2.1 m_rowMany m_lots m_refused r43.2.2.1 r43.2.2.2.1 r43.2.2.2.2.1 r43.2.2.2.2.2.1 r43.2.2.2.2.2.2.1 r43.2.2.2.2.2.2.2.1 m_tape m_sort m_sortAt m_told r43.2.2.2.2.2.2.2.2 m_was (uf (uf c34 (2 * z22) r39) ((2 * z22) + 1) r41) m_row)) X d_Mod_findEnds_86 lk_Mod_294 mv_Mod_forgets (c_Mod_forgets l D cI cB a0 a1 a2 a3 a4 a5 a6 a7 a8 a9 a10 a11 a12 a13 a14 a15 r37.2.1 r37.2.2.1 m_taped m_reading m_statements m_telling m_hasImage c25 c26 m_rowMany m_lots m_refused r37.2.2.2.1 r37.2.2.2.2.1 r37.2.2.2.2.2.1 r37.2.2.2.2.2.2.1 r37.2.2.2.2.2.2.2 c32 m_tape m_sort m_sortAt m_told c33 m_was (uf (uf c34 (2 * z22) r39) ((2 * z22) + 1) r41) m_row h44) ⟨(Nat.le_of_ble_eq_true rfl), (Nat.le_of_ble_eq_true rfl), (Nat.le_of_ble_eq_true rfl), (Nat.le_of_ble_eq_true rfl)⟩ 0 rfl rfl [0, 1, 2, 3, 4, 5, 6, 7, 8, 9, 10, 11, 12, 13, 14, 15] rfl rfl rfl (Up.of [] [] rfl rfl rfl 16 rfl (by decide +kernel)) rfl rfl (Nat.le_of_ble_eq_true rfl) ?_
          refine x_iinc (pc := 89) (ls2 := [(3, .int (zi (z22 + 1))), (0, .ref a0), (1, .int (zi z20)), (2, .int (zi z21))]) X d_Mod_findEnds_89 3 (Nat.le_of_ble_eq_true rfl) rfl rfl ?_
          refine x_goto (pc := 92) (tgt := 2) X d_Mod_findEnds_92 rfl ?_
          refine x_ls (ls2 := [(0, .ref a0), (1, .int (zi z20)), (2, .int (zi z21)), (3, .int (zi (z22 + 1)))]) [1, 2, 3, 0] rfl ?_
          exact ih z20 z21 (z22 + 1) r37.2.1 r37.2.2.1 r43.1 r43.2.1 r43.2.2.1 r43.2.2.2.1 r43.2.2.2.2.1 r43.2.2.2.2.2.1 r43.2.2.2.2.2.2.1 r43.2.2.2.2.2.2.2.1 r43.2.2.2.2.2.2.2.2 (uf (uf c34 (2 * z22) r39) ((2 * z22) + 1) r41) o h hR
        clear hj45
        refine x_icmpne (pc := 30) (tgt := 41) X d_Mod_findEnds_30 rfl h (fun h => ?_) (fun h => ?_)
        · skip
          exact J46 z4 z5 z6 c7 c8 c9 c10 c11 c12 c13 c14 c15 c16 c17 c18 h
        · skip
          refine x_aload_n (pc := 33) X d_Mod_findEnds_33 0 rfl rfl ?_
          refine x_iload_n (pc := 34) X d_Mod_findEnds_34 2 rfl rfl ?_
          refine x_ldc (pc := 35) X d_Mod_findEnds_35 cw_Mod_165 cg_Mod_165 ?_
          obtain ⟨r47, h48, h⟩ := bnd_e h
          refine x_callV (pc := 37) (As := [.int (zi z5), .int (zi 1000000)]) (rest := []) (w2 := (w_Mod cI cB a0 a1 a2 a3 a4 a5 a6 a7 a8 a9 a10 a11 a12 a13 a14 a15 r47.2.1 r47.2.2.1 m_taped m_reading m_statements m_telling m_hasImage c9 c10 m_rowMany m_lots m_refused r47.2.2.2.1 r47.2.2.2.2.1 r47.2.2.2.2.2.1 r47.2.2.2.2.2.2.1 r47.2.2.2.2.2.2.2 c16 m_tape m_sort m_sortAt m_told c17 m_was c18 m_row)) X d_Mod_findEnds_37 lk_Mod_150 mv_Mod_flushes (c_Mod_flushes l D cI cB a0 a1 a2 a3 a4 a5 a6 a7 a8 a9 a10 a11 a12 a13 a14 a15 c7 c8 m_taped m_reading m_statements m_telling m_hasImage c9 c10 m_rowMany m_lots m_refused c11 c12 c13 c14 c15 c16 m_tape m_sort m_sortAt m_told c17 m_was c18 m_row z5 1000000 h48) ⟨(Nat.le_of_ble_eq_true rfl), (Nat.le_of_ble_eq_true rfl), (Nat.le_of_ble_eq_true rfl), (Nat.le_of_ble_eq_true rfl)⟩ 0 rfl rfl [0, 1, 2, 3, 4, 5, 6, 7, 8, 9, 10, 11, 12, 13, 14, 15] rfl rfl rfl (Up.of [] [] rfl rfl rfl 16 rfl (by decide +kernel)) rfl rfl (Nat.le_of_ble_eq_true rfl) ?_
          refine x_pop (pc := 40) X d_Mod_findEnds_40 rfl ?_
          exact J46 z4 z5 z6 r47.2.1 r47.2.2.1 c9 c10 r47.2.2.2.1 r47.2.2.2.2.1 r47.2.2.2.2.2.1 r47.2.2.2.2.2.2.1 r47.2.2.2.2.2.2.2 c16 c17 c18 h
      clear hj49
      refine x_icmpne (pc := 15) (tgt := 26) X d_Mod_findEnds_15 rfl h (fun h => ?_) (fun h => ?_)
      · skip
        exact J50 v1 v2 v3 m_stepsMade m_stepsMost r1.1 r1.2.1 r1.2.2.1 r1.2.2.2.1 r1.2.2.2.2.1 r1.2.2.2.2.2.1 r1.2.2.2.2.2.2.1 r1.2.2.2.2.2.2.2.1 r1.2.2.2.2.2.2.2.2 m_ends h
      · skip
        refine x_aload_n (pc := 18) X d_Mod_findEnds_18 0 rfl rfl ?_
        refine x_iload_n (pc := 19) X d_Mod_findEnds_19 1 rfl rfl ?_
        refine x_ldc (pc := 20) X d_Mod_findEnds_20 cw_Mod_165 cg_Mod_165 ?_
        obtain ⟨r51, h52, h⟩ := bnd_e h
        refine x_callV (pc := 22) (As := [.int (zi v1), .int (zi 1000000)]) (rest := []) (w2 := (w_Mod cI cB a0 a1 a2 a3 a4 a5 a6 a7 a8 a9 a10 a11 a12 a13 a14 a15 r51.2.1 r51.2.2.1 m_taped m_reading m_statements m_telling m_hasImage r1.1 r1.2.1 m_rowMany m_lots m_refused r51.2.2.2.1 r51.2.2.2.2.1 r51.2.2.2.2.2.1 r51.2.2.2.2.2.2.1 r51.2.2.2.2.2.2.2 r1.2.2.2.2.2.2.2.1 m_tape m_sort m_sortAt m_told r1.2.2.2.2.2.2.2.2 m_was m_ends m_row)) X d_Mod_findEnds_22 lk_Mod_150 mv_Mod_flushes (c_Mod_flushes l D cI cB a0 a1 a2 a3 a4 a5 a6 a7 a8 a9 a10 a11 a12 a13 a14 a15 m_stepsMade m_stepsMost m_taped m_reading m_statements m_telling m_hasImage r1.1 r1.2.1 m_rowMany m_lots m_refused r1.2.2.1 r1.2.2.2.1 r1.2.2.2.2.1 r1.2.2.2.2.2.1 r1.2.2.2.2.2.2.1 r1.2.2.2.2.2.2.2.1 m_tape m_sort m_sortAt m_told r1.2.2.2.2.2.2.2.2 m_was m_ends m_row v1 1000000 h52) ⟨(Nat.le_of_ble_eq_true rfl), (Nat.le_of_ble_eq_true rfl), (Nat.le_of_ble_eq_true rfl), (Nat.le_of_ble_eq_true rfl)⟩ 0 rfl rfl [0, 1, 2, 3, 4, 5, 6, 7, 8, 9, 10, 11, 12, 13, 14, 15] rfl rfl rfl (Up.of [] [] rfl rfl rfl 16 rfl (by decide +kernel)) rfl rfl (Nat.le_of_ble_eq_true rfl) ?_
        refine x_pop (pc := 25) X d_Mod_findEnds_25 rfl ?_
        exact J50 v1 v2 v3 r51.2.1 r51.2.2.1 r1.1 r1.2.1 r51.2.2.2.1 r51.2.2.2.2.1 r51.2.2.2.2.2.1 r51.2.2.2.2.2.2.1 r51.2.2.2.2.2.2.2 r1.2.2.2.2.2.2.2.1 r1.2.2.2.2.2.2.2.2 m_ends h
set_option maxHeartbeats 4000000 in
set_option maxRecDepth 100000 in
theorem c_Mod_findEnds (l : Launch) (D : va_G) (cI cB : ClassId) (a0 a1 a2 a3 a4 a5 a6 a7 a8 a9 a10 a11 a12 a13 a14 a15 : Nat) (m_stepsMade : Int) (m_stepsMost : Int) (m_taped : Int) (m_reading : Int) (m_statements : Int) (m_telling : Int) (m_hasImage : Int) (m_isKeeping : Int) (m_cursor : Int) (m_rowMany : Int) (m_lots : Int) (m_refused : Int → Int) (m_bytes : Int → Int) (m_owner : Int → Int) (m_block : Int → Int) (m_written : Int → Int) (m_waits : Int → Int) (m_kinds : Int → Int) (m_tape : Int → Int) (m_sort : Int → Int) (m_sortAt : Int → Int) (m_told : Int → Int) (m_kept : Int → Int) (m_was : Int → Int) (m_ends : Int → Int) (m_row : Int → Int) (x1 : Int) (x2 : Int) {o : Int × Int × Int × Int × (Int → Int) × (Int → Int) × (Int → Int) × (Int → Int) × (Int → Int) × (Int → Int) × (Int → Int) × (Int → Int)} (h : m_Mod_findEnds x1 x2 m_stepsMade m_stepsMost m_isKeeping m_cursor m_bytes m_owner m_block m_written m_waits m_kinds m_kept m_ends = some o) : Ct l D cI cB y_Mod_findEnds b_Mod_findEnds 4 none { frames := 6, cells := 0, slots := 0, locals := 142 } [.ref a0, .int (zi x1), .int (zi x2)] (w_Mod cI cB a0 a1 a2 a3 a4 a5 a6 a7 a8 a9 a10 a11 a12 a13 a14 a15 m_stepsMade m_stepsMost m_taped m_reading m_statements m_telling m_hasImage m_isKeeping m_cursor m_rowMany m_lots m_refused m_bytes m_owner m_block m_written m_waits m_kinds m_tape m_sort m_sortAt m_told m_kept m_was m_ends m_row) (w_Mod cI cB a0 a1 a2 a3 a4 a5 a6 a7 a8 a9 a10 a11 a12 a13 a14 a15 o.1 o.2.1 m_taped m_reading m_statements m_telling m_hasImage o.2.2.1 o.2.2.2.1 m_rowMany m_lots m_refused o.2.2.2.2.1 o.2.2.2.2.2.1 o.2.2.2.2.2.2.1 o.2.2.2.2.2.2.2.1 o.2.2.2.2.2.2.2.2.1 o.2.2.2.2.2.2.2.2.2.1 m_tape m_sort m_sortAt m_told o.2.2.2.2.2.2.2.2.2.2.1 m_was o.2.2.2.2.2.2.2.2.2.2.2 m_row) none := by
  refine Ct.start (by decide) (Nat.le_of_ble_eq_true rfl) (fun G X hR => ?_)
  refine x_ls (ls2 := [(0, .ref a0), (1, .int (zi x1)), (2, .int (zi x2))]) [0, 1, 2] rfl ?_
  unfold m_Mod_findEnds at h
  refine x_iconst (pc := 0) X d_Mod_findEnds_0  ?_
  refine x_istore_n (pc := 1) (ls2 := [(3, .int (zi 0)), (0, .ref a0), (1, .int (zi x1)), (2, .int (zi x2))]) X d_Mod_findEnds_1 rfl (Nat.le_of_ble_eq_true rfl) rfl ?_
  refine x_ls (ls2 := [(0, .ref a0), (1, .int (zi x1)), (2, .int (zi x2)), (3, .int (zi 0))]) [1, 2, 3, 0] rfl ?_
  exact l_Mod_findEnds_2 X 5000 x1 x2 0 m_stepsMade m_stepsMost m_isKeeping m_cursor m_bytes m_owner m_block m_written m_waits m_kinds m_kept m_ends o h hR
theorem d_Mod_two_0 : decode b_Mod_two 0 = .ok (.iload_n 1, 1) := by decide +kernel
theorem d_Mod_two_1 : decode b_Mod_two 1 = .ok (.iload_n 2, 1) := by decide +kernel
theorem d_Mod_two_2 : decode b_Mod_two 2 = .ok (.invokestatic 322, 3) := by decide +kernel
theorem d_Mod_two_5 : decode b_Mod_two 5 = .ok (.ifCond .ne 9, 3) := by decide +kernel
theorem d_Mod_two_8 : decode b_Mod_two 8 = .ok (.aload_n 0, 1) := by decide +kernel
theorem d_Mod_two_9 : decode b_Mod_two 9 = .ok (.iconst (-1), 1) := by decide +kernel
theorem d_Mod_two_10 : decode b_Mod_two 10 = .ok (.invokevirtual 172, 3) := by decide +kernel
theorem d_Mod_two_13 : decode b_Mod_two 13 = .ok (.ireturn, 1) := by decide +kernel
theorem d_Mod_two_14 : decode b_Mod_two 14 = .ok (.aload_n 0, 1) := by decide +kernel
theorem d_Mod_two_15 : decode b_Mod_two 15 = .ok (.iload_n 1, 1) := by decide +kernel
theorem d_Mod_two_16 : decode b_Mod_two 16 = .ok (.iload_n 2, 1) := by decide +kernel
theorem d_Mod_two_17 : decode b_Mod_two 17 = .ok (.invokevirtual 328, 3) := by decide +kernel
theorem d_Mod_two_20 : decode b_Mod_two 20 = .ok (.iconst 0, 1) := by decide +kernel
theorem d_Mod_two_21 : decode b_Mod_two 21 = .ok (.istore_n 3, 1) := by decide +kernel
theorem d_Mod_two_22 : decode b_Mod_two 22 = .ok (.iload_n 3, 1) := by decide +kernel
theorem d_Mod_two_23 : decode b_Mod_two 23 = .ok (.iconst 4, 1) := by decide +kernel
theorem d_Mod_two_24 : decode b_Mod_two 24 = .ok (.if_icmp .ge 66, 3) := by decide +kernel
theorem d_Mod_two_27 : decode b_Mod_two 27 = .ok (.aload_n 0, 1) := by decide +kernel
theorem d_Mod_two_28 : decode b_Mod_two 28 = .ok (.getfield 49, 3) := by decide +kernel
theorem d_Mod_two_31 : decode b_Mod_two 31 = .ok (.iconst 2, 1) := by decide +kernel
theorem d_Mod_two_32 : decode b_Mod_two 32 = .ok (.iload_n 3, 1) := by decide +kernel
theorem d_Mod_two_33 : decode b_Mod_two 33 = .ok (.iconst 2, 1) := by decide +kernel
theorem d_Mod_two_34 : decode b_Mod_two 34 = .ok (.ixor, 1) := by decide +kernel
theorem d_Mod_two_35 : decode b_Mod_two 35 = .ok (.imul, 1) := by decide +kernel
theorem d_Mod_two_36 : decode b_Mod_two 36 = .ok (.iaload, 1) := by decide +kernel
theorem d_Mod_two_37 : decode b_Mod_two 37 = .ok (.aload_n 0, 1) := by decide +kernel
theorem d_Mod_two_38 : decode b_Mod_two 38 = .ok (.getfield 49, 3) := by decide +kernel
theorem d_Mod_two_41 : decode b_Mod_two 41 = .ok (.iconst 2, 1) := by decide +kernel
theorem d_Mod_two_42 : decode b_Mod_two 42 = .ok (.iload_n 3, 1) := by decide +kernel
theorem d_Mod_two_43 : decode b_Mod_two 43 = .ok (.imul, 1) := by decide +kernel
theorem d_Mod_two_44 : decode b_Mod_two 44 = .ok (.iaload, 1) := by decide +kernel
theorem d_Mod_two_45 : decode b_Mod_two 45 = .ok (.if_icmp .lt 39, 3) := by decide +kernel
theorem d_Mod_two_48 : decode b_Mod_two 48 = .ok (.aload_n 0, 1) := by decide +kernel
theorem d_Mod_two_49 : decode b_Mod_two 49 = .ok (.getfield 49, 3) := by decide +kernel
theorem d_Mod_two_52 : decode b_Mod_two 52 = .ok (.iconst 2, 1) := by decide +kernel
theorem d_Mod_two_53 : decode b_Mod_two 53 = .ok (.iload_n 3, 1) := by decide +kernel
theorem d_Mod_two_54 : decode b_Mod_two 54 = .ok (.iconst 1, 1) := by decide +kernel
theorem d_Mod_two_55 : decode b_Mod_two 55 = .ok (.ixor, 1) := by decide +kernel
theorem d_Mod_two_56 : decode b_Mod_two 56 = .ok (.imul, 1) := by decide +kernel
theorem d_Mod_two_57 : decode b_Mod_two 57 = .ok (.iconst 1, 1) := by decide +kernel
theorem d_Mod_two_58 : decode b_Mod_two 58 = .ok (.iadd, 1) := by decide +kernel
theorem d_Mod_two_59 : decode b_Mod_two 59 = .ok (.iaload, 1) := by decide +kernel
theorem d_Mod_two_60 : decode b_Mod_two 60 = .ok (.aload_n 0, 1) := by decide +kernel
theorem d_Mod_two_61 : decode b_Mod_two 61 = .ok (.getfield 49, 3) := by decide +kernel
theorem d_Mod_two_64 : decode b_Mod_two 64 = .ok (.iconst 2, 1) := by decide +kernel
theorem d_Mod_two_65 : decode b_Mod_two 65 = .ok (.iload_n 3, 1) := by decide +kernel
theorem d_Mod_two_66 : decode b_Mod_two 66 = .ok (.imul, 1) := by decide +kernel
theorem d_Mod_two_67 : decode b_Mod_two 67 = .ok (.iconst 1, 1) := by decide +kernel
theorem d_Mod_two_68 : decode b_Mod_two 68 = .ok (.iadd, 1) := by decide +kernel
theorem d_Mod_two_69 : decode b_Mod_two 69 = .ok (.iaload, 1) := by decide +kernel
theorem d_Mod_two_70 : decode b_Mod_two 70 = .ok (.if_icmp .lt 14, 3) := by decide +kernel
theorem d_Mod_two_73 : decode b_Mod_two 73 = .ok (.bipush 10, 2) := by decide +kernel
theorem d_Mod_two_75 : decode b_Mod_two 75 = .ok (.iload_n 3, 1) := by decide +kernel
theorem d_Mod_two_76 : decode b_Mod_two 76 = .ok (.iconst 2, 1) := by decide +kernel
theorem d_Mod_two_77 : decode b_Mod_two 77 = .ok (.idiv, 1) := by decide +kernel
theorem d_Mod_two_78 : decode b_Mod_two 78 = .ok (.imul, 1) := by decide +kernel
theorem d_Mod_two_79 : decode b_Mod_two 79 = .ok (.iload_n 3, 1) := by decide +kernel
theorem d_Mod_two_80 : decode b_Mod_two 80 = .ok (.iconst 2, 1) := by decide +kernel
theorem d_Mod_two_81 : decode b_Mod_two 81 = .ok (.irem, 1) := by decide +kernel
theorem d_Mod_two_82 : decode b_Mod_two 82 = .ok (.iadd, 1) := by decide +kernel
theorem d_Mod_two_83 : decode b_Mod_two 83 = .ok (.ireturn, 1) := by decide +kernel
theorem d_Mod_two_84 : decode b_Mod_two 84 = .ok (.iinc 3 1, 3) := by decide +kernel
theorem d_Mod_two_87 : decode b_Mod_two 87 = .ok (.goto (-65), 3) := by decide +kernel
theorem d_Mod_two_90 : decode b_Mod_two 90 = .ok (.bipush (-9), 2) := by decide +kernel
theorem d_Mod_two_92 : decode b_Mod_two 92 = .ok (.ireturn, 1) := by decide +kernel
def m_Mod_two_22 : Nat → Int → Int → Int → Int → Int → (Int → Int) → (Int → Int) → (Int → Int) → (Int → Int) → (Int → Int) → (Int → Int) → (Int → Int) → (Int → Int) → (Int → Int) → Option (Int × Int × Int × Int × Int × (Int → Int) × (Int → Int) × (Int → Int) × (Int → Int) × (Int → Int) × (Int → Int) × (Int → Int) × (Int → Int) × (Int → Int))
  | 0, _, _, _, _, _, _, _, _, _, _, _, _, _, _ => none
  | fuel + 1, v3, m_stepsMade, m_stepsMost, m_isKeeping, m_cursor, m_refused, m_bytes, m_owner, m_block, m_written, m_waits, m_kinds, m_kept, m_ends =>
  clt v3 4 (gd (zx (2 * (z_xor v3 2)) 8) (gd (zx (2 * v3) 8) (clt (m_ends (2 * (z_xor v3 2))) (m_ends (2 * v3)) (m_Mod_two_22 fuel (v3 + 1) m_stepsMade m_stepsMost m_isKeeping m_cursor m_refused m_bytes m_owner m_block m_written m_waits m_kinds m_kept m_ends) (gd (zx ((2 * (z_xor v3 1)) + 1) 8) (gd (zx ((2 * v3) + 1) 8) (clt (m_ends ((2 * (z_xor v3 1)) + 1)) (m_ends ((2 * v3) + 1)) (m_Mod_two_22 fuel (v3 + 1) m_stepsMade m_stepsMost m_isKeeping m_cursor m_refused m_bytes m_owner m_block m_written m_waits m_kinds m_kept m_ends) (gd (zx v3 2147483648 ∧ zp 2 2147483648) (gd (zx v3 2147483648 ∧ zp 2 2147483648) (some (((10 * (v3 / 2)) + (v3 % 2)), m_stepsMade, m_stepsMost, m_isKeeping, m_cursor, m_refused, m_bytes, m_owner, m_block, m_written, m_waits, m_kinds, m_kept, m_ends)))))))))) (some ((-9), m_stepsMade, m_stepsMost, m_isKeeping, m_cursor, m_refused, m_bytes, m_owner, m_block, m_written, m_waits, m_kinds, m_kept, m_ends))
def m_Mod_two (x1 : Int) (x2 : Int) (m_stepsMade : Int) (m_stepsMost : Int) (m_isKeeping : Int) (m_cursor : Int) (m_refused : Int → Int) (m_bytes : Int → Int) (m_owner : Int → Int) (m_block : Int → Int) (m_written : Int → Int) (m_waits : Int → Int) (m_kinds : Int → Int) (m_kept : Int → Int) (m_ends : Int → Int) : Option (Int × Int × Int × Int × Int × (Int → Int) × (Int → Int) × (Int → Int) × (Int → Int) × (Int → Int) × (Int → Int) × (Int → Int) × (Int → Int) × (Int → Int)) :=
  bnd (m_Mod_areTwo x1 x2) (fun r1 => ceq r1 0 (bnd (m_Mod_no (-1) m_refused) (fun r5 => some (r5.1, m_stepsMade, m_stepsMost, m_isKeeping, m_cursor, r5.2, m_bytes, m_owner, m_block, m_written, m_waits, m_kinds, m_kept, m_ends))) (bnd (m_Mod_findEnds x1 x2 m_stepsMade m_stepsMost m_isKeeping m_cursor m_bytes m_owner m_block m_written m_waits m_kinds m_kept m_ends) (fun r3 => m_Mod_two_22 5000 0 r3.1 r3.2.1 r3.2.2.1 r3.2.2.2.1 m_refused r3.2.2.2.2.1 r3.2.2.2.2.2.1 r3.2.2.2.2.2.2.1 r3.2.2.2.2.2.2.2.1 r3.2.2.2.2.2.2.2.2.1 r3.2.2.2.2.2.2.2.2.2.1 r3.2.2.2.2.2.2.2.2.2.2.1 r3.2.2.2.2.2.2.2.2.2.2.2)))
set_option maxHeartbeats 4000000 in
set_option maxRecDepth 100000 in
theorem l_Mod_two_22 {G : GT} {l : Launch} {D : va_G} {cI cB : ClassId} {a0 a1 a2 a3 a4 a5 a6 a7 a8 a9 a10 a11 a12 a13 a14 a15 : Nat} {m_taped : Int} {m_reading : Int} {m_statements : Int} {m_telling : Int} {m_hasImage : Int} {m_rowMany : Int} {m_lots : Int} {m_tape : Int → Int} {m_sort : Int → Int} {m_sortAt : Int → Int} {m_told : Int → Int} {m_was : Int → Int} {m_row : Int → Int} (X : Cx G l D cI cB b_Mod_two y_Mod_two.cls 4 { frames := 7, cells := 0, slots := 0, locals := 165 }) : ∀ (fuel : Nat) (v3 : Int) (m_stepsMade : Int) (m_stepsMost : Int) (m_isKeeping : Int) (m_cursor : Int) (m_refused : Int → Int) (m_bytes : Int → Int) (m_owner : Int → Int) (m_block : Int → Int) (m_written : Int → Int) (m_waits : Int → Int) (m_kinds : Int → Int) (m_kept : Int → Int) (m_ends : Int → Int) (o : Int × Int × Int × Int × Int × (Int → Int) × (Int → Int) × (Int → Int) × (Int → Int) × (Int → Int) × (Int → Int) × (Int → Int) × (Int → Int) × (Int → Int)), m_Mod_two_22 fuel v3 m_stepsMade m_stepsMost m_isKeeping m_cursor m_refused m_bytes m_owner m_block m_written m_waits m_kinds m_kept m_ends = some o → Rt G (some .int) (some (.int (zi o.1))) (w_Mod cI cB a0 a1 a2 a3 a4 a5 a6 a7 a8 a9 a10 a11 a12 a13 a14 a15 o.2.1 o.2.2.1 m_taped m_reading m_statements m_telling m_hasImage o.2.2.2.1 o.2.2.2.2.1 m_rowMany m_lots o.2.2.2.2.2.1 o.2.2.2.2.2.2.1 o.2.2.2.2.2.2.2.1 o.2.2.2.2.2.2.2.2.1 o.2.2.2.2.2.2.2.2.2.1 o.2.2.2.2.2.2.2.2.2.2.1 o.2.2.2.2.2.2.2.2.2.2.2.1 m_tape m_sort m_sortAt m_told o.2.2.2.2.2.2.2.2.2.2.2.2.1 m_was o.2.2.2.2.2.2.2.2.2.2.2.2.2 m_row) → Wx G 0 0 22 [(0, .ref a0), (3, .int (zi v3))] [] (w_Mod cI cB a0 a1 a2 a3 a4 a5 a6 a7 a8 a9 a10 a11 a12 a13 a14 a15 m_stepsMade m_stepsMost m_taped m_reading m_statements m_telling m_hasImage m_isKeeping m_cursor m_rowMany m_lots m_refused m_bytes m_owner m_block m_written m_waits m_kinds m_tape m_sort m_sortAt m_told m_kept m_was m_ends m_row) := by
  intro fuel
  induction fuel with
  | zero =>
    intro v3 m_stepsMade m_stepsMost m_isKeeping m_cursor m_refused m_bytes m_owner m_block m_written m_waits m_kinds m_kept m_ends o h
    exact absurd h (by simp [m_Mod_two_22])
  | succ fuel ih =>
    intro v3 m_stepsMade m_stepsMost m_isKeeping m_cursor m_refused m_bytes m_owner m_block m_written m_waits m_kinds m_kept m_ends o h hR
    rw [m_Mod_two_22] at h
    refine x_iload_n (pc := 22) X d_Mod_two_22 1 rfl rfl ?_
    refine x_iconst (pc := 23) X d_Mod_two_23  ?_
    refine x_icmpge (pc := 24) (tgt := 90) X d_Mod_two_24 rfl h (fun h => ?_) (fun h => ?_)
    · skip
      refine x_bipush (pc := 90) (v := -9) X d_Mod_two_90 rfl ?_
      cases h
      exact x_iret (pc := 92) X hR d_Mod_two_92
    · skip
      refine x_aload_n (pc := 27) X d_Mod_two_27 0 rfl rfl ?_
      refine x_get (pc := 28) X d_Mod_two_28 0 rfl fl_Mod_49 rfl ?_
      refine x_iconst (pc := 31) X d_Mod_two_31  ?_
      refine x_iload_n (pc := 32) X d_Mod_two_32 1 rfl rfl ?_
      refine x_iconst (pc := 33) X d_Mod_two_33  ?_
      refine x_ixor (pc := 34) X d_Mod_two_34  ?_
      refine x_imul (pc := 35) X d_Mod_two_35  ?_
      refine x_iald (pc := 36) X d_Mod_two_36 14 rfl (Nat.le_of_ble_eq_true rfl) rfl h (fun h => ?_)
      refine x_aload_n (pc := 37) X d_Mod_two_37 0 rfl rfl ?_
      refine x_get (pc := 38) X d_Mod_two_38 0 rfl fl_Mod_49 rfl ?_
      refine x_iconst (pc := 41) X d_Mod_two_41  ?_
      refine x_iload_n (pc := 42) X d_Mod_two_42 1 rfl rfl ?_
      refine x_imul (pc := 43) X d_Mod_two_43  ?_
      refine x_iald (pc := 44) X d_Mod_two_44 14 rfl (Nat.le_of_ble_eq_true rfl) rfl h (fun h => ?_)
      refine x_icmplt (pc := 45) (tgt := 84) X d_Mod_two_45 rfl h (fun h => ?_) (fun h => ?_)
      · skip
        refine x_iinc (pc := 84) (ls2 := [(3, .int (zi (v3 + 1))), (0, .ref a0)]) X d_Mod_two_84 1 (Nat.le_of_ble_eq_true rfl) rfl rfl ?_
        refine x_goto (pc := 87) (tgt := 22) X d_Mod_two_87 rfl ?_
        refine x_ls (ls2 := [(0, .ref a0), (3, .int (zi (v3 + 1)))]) [1, 0] rfl ?_
        exact ih (v3 + 1) m_stepsMade m_stepsMost m_isKeeping m_cursor m_refused m_bytes m_owner m_block m_written m_waits m_kinds m_kept m_ends o h hR
      · skip
        refine x_aload_n (pc := 48) X d_Mod_two_48 0 rfl rfl ?_
        refine x_get (pc := 49) X d_Mod_two_49 0 rfl fl_Mod_49 rfl ?_
        refine x_iconst (pc := 52) X d_Mod_two_52  ?_
        refine x_iload_n (pc := 53) X d_Mod_two_53 1 rfl rfl ?_
        refine x_iconst (pc := 54) X d_Mod_two_54  ?_
        refine x_ixor (pc := 55) X d_Mod_two_55  ?_
        refine x_imul (pc := 56) X d_Mod_two_56  ?_
        refine x_iconst (pc := 57) X d_Mod_two_57  ?_
        refine x_iadd (pc := 58) X d_Mod_two_58  ?_
        refine x_iald (pc := 59) X d_Mod_two_59 14 rfl (Nat.le_of_ble_eq_true rfl) rfl h (fun h => ?_)
        refine x_aload_n (pc := 60) X d_Mod_two_60 0 rfl rfl ?_
        refine x_get (pc := 61) X d_Mod_two_61 0 rfl fl_Mod_49 rfl ?_
        refine x_iconst (pc := 64) X d_Mod_two_64  ?_
        refine x_iload_n (pc := 65) X d_Mod_two_65 1 rfl rfl ?_
        refine x_imul (pc := 66) X d_Mod_two_66  ?_
        refine x_iconst (pc := 67) X d_Mod_two_67  ?_
        refine x_iadd (pc := 68) X d_Mod_two_68  ?_
        refine x_iald (pc := 69) X d_Mod_two_69 14 rfl (Nat.le_of_ble_eq_true rfl) rfl h (fun h => ?_)
        refine x_icmplt (pc := 70) (tgt := 84) X d_Mod_two_70 rfl h (fun h => ?_) (fun h => ?_)
        · skip
          refine x_iinc (pc := 84) (ls2 := [(3, .int (zi (v3 + 1))), (0, .ref a0)]) X d_Mod_two_84 1 (Nat.le_of_ble_eq_true rfl) rfl rfl ?_
          refine x_goto (pc := 87) (tgt := 22) X d_Mod_two_87 rfl ?_
          refine x_ls (ls2 := [(0, .ref a0), (3, .int (zi (v3 + 1)))]) [1, 0] rfl ?_
          exact ih (v3 + 1) m_stepsMade m_stepsMost m_isKeeping m_cursor m_refused m_bytes m_owner m_block m_written m_waits m_kinds m_kept m_ends o h hR
        · skip
          refine x_bipush (pc := 73) (v := 10) X d_Mod_two_73 rfl ?_
          refine x_iload_n (pc := 75) X d_Mod_two_75 1 rfl rfl ?_
          refine x_iconst (pc := 76) X d_Mod_two_76  ?_
          refine x_idiv (pc := 77) X d_Mod_two_77 h (fun h => ?_)
          refine x_imul (pc := 78) X d_Mod_two_78  ?_
          refine x_iload_n (pc := 79) X d_Mod_two_79 1 rfl rfl ?_
          refine x_iconst (pc := 80) X d_Mod_two_80  ?_
          refine x_irem (pc := 81) X d_Mod_two_81 h (fun h => ?_)
          refine x_iadd (pc := 82) X d_Mod_two_82  ?_
          cases h
          exact x_iret (pc := 83) X hR d_Mod_two_83
set_option maxHeartbeats 4000000 in
set_option maxRecDepth 100000 in
theorem c_Mod_two (l : Launch) (D : va_G) (cI cB : ClassId) (a0 a1 a2 a3 a4 a5 a6 a7 a8 a9 a10 a11 a12 a13 a14 a15 : Nat) (m_stepsMade : Int) (m_stepsMost : Int) (m_taped : Int) (m_reading : Int) (m_statements : Int) (m_telling : Int) (m_hasImage : Int) (m_isKeeping : Int) (m_cursor : Int) (m_rowMany : Int) (m_lots : Int) (m_refused : Int → Int) (m_bytes : Int → Int) (m_owner : Int → Int) (m_block : Int → Int) (m_written : Int → Int) (m_waits : Int → Int) (m_kinds : Int → Int) (m_tape : Int → Int) (m_sort : Int → Int) (m_sortAt : Int → Int) (m_told : Int → Int) (m_kept : Int → Int) (m_was : Int → Int) (m_ends : Int → Int) (m_row : Int → Int) (x1 : Int) (x2 : Int) {o : Int × Int × Int × Int × Int × (Int → Int) × (Int → Int) × (Int → Int) × (Int → Int) × (Int → Int) × (Int → Int) × (Int → Int) × (Int → Int) × (Int → Int)} (h : m_Mod_two x1 x2 m_stepsMade m_stepsMost m_isKeeping m_cursor m_refused m_bytes m_owner m_block m_written m_waits m_kinds m_kept m_ends = some o) : Ct l D cI cB y_Mod_two b_Mod_two 4 (some .int) { frames := 7, cells := 0, slots := 0, locals := 165 } [.ref a0, .int (zi x1), .int (zi x2)] (w_Mod cI cB a0 a1 a2 a3 a4 a5 a6 a7 a8 a9 a10 a11 a12 a13 a14 a15 m_stepsMade m_stepsMost m_taped m_reading m_statements m_telling m_hasImage m_isKeeping m_cursor m_rowMany m_lots m_refused m_bytes m_owner m_block m_written m_waits m_kinds m_tape m_sort m_sortAt m_told m_kept m_was m_ends m_row) (w_Mod cI cB a0 a1 a2 a3 a4 a5 a6 a7 a8 a9 a10 a11 a12 a13 a14 a15 o.2.1 o.2.2.1 m_taped m_reading m_statements m_telling m_hasImage o.2.2.2.1 o.2.2.2.2.1 m_rowMany m_lots o.2.2.2.2.2.1 o.2.2.2.2.2.2.1 o.2.2.2.2.2.2.2.1 o.2.2.2.2.2.2.2.2.1 o.2.2.2.2.2.2.2.2.2.1 o.2.2.2.2.2.2.2.2.2.2.1 o.2.2.2.2.2.2.2.2.2.2.2.1 m_tape m_sort m_sortAt m_told o.2.2.2.2.2.2.2.2.2.2.2.2.1 m_was o.2.2.2.2.2.2.2.2.2.2.2.2.2 m_row) (some (.int (zi o.1))) := by
  refine Ct.start (by decide) (Nat.le_of_ble_eq_true rfl) (fun G X hR => ?_)
  refine x_ls (ls2 := [(0, .ref a0), (1, .int (zi x1)), (2, .int (zi x2))]) [0, 1, 2] rfl ?_
  unfold m_Mod_two at h
  refine x_iload_n (pc := 0) X d_Mod_two_0 1 rfl rfl ?_
  refine x_iload_n (pc := 1) X d_Mod_two_1 2 rfl rfl ?_
  obtain ⟨r1, h2, h⟩ := bnd_e h
  refine x_callS (pc := 2) (As := [.int (zi x1), .int (zi x2)]) (rest := []) (w2 := (w_Mod cI cB a0 a1 a2 a3 a4 a5 a6 a7 a8 a9 a10 a11 a12 a13 a14 a15 m_stepsMade m_stepsMost m_taped m_reading m_statements m_telling m_hasImage m_isKeeping m_cursor m_rowMany m_lots m_refused m_bytes m_owner m_block m_written m_waits m_kinds m_tape m_sort m_sortAt m_told m_kept m_was m_ends m_row)) X d_Mod_two_2 lk_Mod_322 mv_Mod_areTwo (c_Mod_areTwo l D cI cB x1 x2 h2) ⟨(Nat.le_of_ble_eq_true rfl), (Nat.le_of_ble_eq_true rfl), (Nat.le_of_ble_eq_true rfl), (Nat.le_of_ble_eq_true rfl)⟩ [] rfl rfl rfl (Up.same rfl) rfl rfl (Nat.le_of_ble_eq_true rfl) ?_
  refine x_ifne (pc := 5) (tgt := 14) X d_Mod_two_5 rfl h (fun h => ?_) (fun h => ?_)
  · skip
    refine x_aload_n (pc := 14) X d_Mod_two_14 0 rfl rfl ?_
    refine x_iload_n (pc := 15) X d_Mod_two_15 1 rfl rfl ?_
    refine x_iload_n (pc := 16) X d_Mod_two_16 2 rfl rfl ?_
    obtain ⟨r3, h4, h⟩ := bnd_e h
    refine x_callV (pc := 17) (As := [.int (zi x1), .int (zi x2)]) (rest := []) (w2 := (w_Mod cI cB a0 a1 a2 a3 a4 a5 a6 a7 a8 a9 a10 a11 a12 a13 a14 a15 r3.1 r3.2.1 m_taped m_reading m_statements m_telling m_hasImage r3.2.2.1 r3.2.2.2.1 m_rowMany m_lots m_refused r3.2.2.2.2.1 r3.2.2.2.2.2.1 r3.2.2.2.2.2.2.1 r3.2.2.2.2.2.2.2.1 r3.2.2.2.2.2.2.2.2.1 r3.2.2.2.2.2.2.2.2.2.1 m_tape m_sort m_sortAt m_told r3.2.2.2.2.2.2.2.2.2.2.1 m_was r3.2.2.2.2.2.2.2.2.2.2.2 m_row)) X d_Mod_two_17 lk_Mod_328 mv_Mod_findEnds (c_Mod_findEnds l D cI cB a0 a1 a2 a3 a4 a5 a6 a7 a8 a9 a10 a11 a12 a13 a14 a15 m_stepsMade m_stepsMost m_taped m_reading m_statements m_telling m_hasImage m_isKeeping m_cursor m_rowMany m_lots m_refused m_bytes m_owner m_block m_written m_waits m_kinds m_tape m_sort m_sortAt m_told m_kept m_was m_ends m_row x1 x2 h4) ⟨(Nat.le_of_ble_eq_true rfl), (Nat.le_of_ble_eq_true rfl), (Nat.le_of_ble_eq_true rfl), (Nat.le_of_ble_eq_true rfl)⟩ 0 rfl rfl [0, 1, 2, 3, 4, 5, 6, 7, 8, 9, 10, 11, 12, 13, 14, 15] rfl rfl rfl (Up.of [] [] rfl rfl rfl 16 rfl (by decide +kernel)) rfl rfl (Nat.le_of_ble_eq_true rfl) ?_
    refine x_iconst (pc := 20) X d_Mod_two_20  ?_
    refine x_istore_n (pc := 21) (ls2 := [(3, .int (zi 0)), (0, .ref a0), (1, .int (zi x1)), (2, .int (zi x2))]) X d_Mod_two_21 rfl (Nat.le_of_ble_eq_true rfl) rfl ?_
    refine x_ls (ls2 := [(0, .ref a0), (3, .int (zi 0))]) [1, 0] rfl ?_
    exact l_Mod_two_22 X 5000 0 r3.1 r3.2.1 r3.2.2.1 r3.2.2.2.1 m_refused r3.2.2.2.2.1 r3.2.2.2.2.2.1 r3.2.2.2.2.2.2.1 r3.2.2.2.2.2.2.2.1 r3.2.2.2.2.2.2.2.2.1 r3.2.2.2.2.2.2.2.2.2.1 r3.2.2.2.2.2.2.2.2.2.2.1 r3.2.2.2.2.2.2.2.2.2.2.2 o h hR
  · skip
    refine x_aload_n (pc := 8) X d_Mod_two_8 0 rfl rfl ?_
    refine x_iconst (pc := 9) X d_Mod_two_9  ?_
    obtain ⟨r5, h6, h⟩ := bnd_e h
    refine x_callV (pc := 10) (As := [.int (zi (-1))]) (rest := []) (w2 := (w_Mod cI cB a0 a1 a2 a3 a4 a5 a6 a7 a8 a9 a10 a11 a12 a13 a14 a15 m_stepsMade m_stepsMost m_taped m_reading m_statements m_telling m_hasImage m_isKeeping m_cursor m_rowMany m_lots r5.2 m_bytes m_owner m_block m_written m_waits m_kinds m_tape m_sort m_sortAt m_told m_kept m_was m_ends m_row)) X d_Mod_two_10 lk_Mod_172 mv_Mod_no (c_Mod_no l D cI cB a0 a1 a2 a3 a4 a5 a6 a7 a8 a9 a10 a11 a12 a13 a14 a15 m_stepsMade m_stepsMost m_taped m_reading m_statements m_telling m_hasImage m_isKeeping m_cursor m_rowMany m_lots m_refused m_bytes m_owner m_block m_written m_waits m_kinds m_tape m_sort m_sortAt m_told m_kept m_was m_ends m_row (-1) h6) ⟨(Nat.le_of_ble_eq_true rfl), (Nat.le_of_ble_eq_true rfl), (Nat.le_of_ble_eq_true rfl), (Nat.le_of_ble_eq_true rfl)⟩ 0 rfl rfl [0, 1, 2, 3, 4, 5, 6, 7, 8, 9, 10, 11, 12, 13, 14, 15] rfl rfl rfl (Up.of [] [] rfl rfl rfl 16 rfl (by decide +kernel)) rfl rfl (Nat.le_of_ble_eq_true rfl) ?_
    cases h
    exact x_iret (pc := 13) X hR d_Mod_two_13
theorem d_Mod_most_0 : decode b_Mod_most 0 = .ok (.iload_n 1, 1) := by decide +kernel
theorem d_Mod_most_1 : decode b_Mod_most 1 = .ok (.invokestatic 230, 3) := by decide +kernel
theorem d_Mod_most_4 : decode b_Mod_most 4 = .ok (.ifCond .ne 9, 3) := by decide +kernel
theorem d_Mod_most_7 : decode b_Mod_most 7 = .ok (.aload_n 0, 1) := by decide +kernel
theorem d_Mod_most_8 : decode b_Mod_most 8 = .ok (.iconst (-1), 1) := by decide +kernel
theorem d_Mod_most_9 : decode b_Mod_most 9 = .ok (.invokevirtual 172, 3) := by decide +kernel
theorem d_Mod_most_12 : decode b_Mod_most 12 = .ok (.ireturn, 1) := by decide +kernel
theorem d_Mod_most_13 : decode b_Mod_most 13 = .ok (.aload_n 0, 1) := by decide +kernel
theorem d_Mod_most_14 : decode b_Mod_most 14 = .ok (.iload_n 1, 1) := by decide +kernel
theorem d_Mod_most_15 : decode b_Mod_most 15 = .ok (.iconst 0, 1) := by decide +kernel
theorem d_Mod_most_16 : decode b_Mod_most 16 = .ok (.bipush 24, 2) := by decide +kernel
theorem d_Mod_most_18 : decode b_Mod_most 18 = .ok (.invokevirtual 212, 3) := by decide +kernel
theorem d_Mod_most_21 : decode b_Mod_most 21 = .ok (.istore_n 2, 1) := by decide +kernel
theorem d_Mod_most_22 : decode b_Mod_most 22 = .ok (.iload_n 2, 1) := by decide +kernel
theorem d_Mod_most_23 : decode b_Mod_most 23 = .ok (.aload_n 0, 1) := by decide +kernel
theorem d_Mod_most_24 : decode b_Mod_most 24 = .ok (.invokevirtual 162, 3) := by decide +kernel
theorem d_Mod_most_27 : decode b_Mod_most 27 = .ok (.if_icmp .ge 7, 3) := by decide +kernel
theorem d_Mod_most_30 : decode b_Mod_most 30 = .ok (.iload_n 2, 1) := by decide +kernel
theorem d_Mod_most_31 : decode b_Mod_most 31 = .ok (.goto 7, 3) := by decide +kernel
theorem d_Mod_most_34 : decode b_Mod_most 34 = .ok (.aload_n 0, 1) := by decide +kernel
theorem d_Mod_most_35 : decode b_Mod_most 35 = .ok (.invokevirtual 162, 3) := by decide +kernel
theorem d_Mod_most_38 : decode b_Mod_most 38 = .ok (.ireturn, 1) := by decide +kernel
def m_Mod_most (x1 : Int) (m_refused : Int → Int) (m_owner : Int → Int) (m_block : Int → Int) (m_waits : Int → Int) : Option (Int × (Int → Int)) :=
  bnd (m_Mod_isFile x1) (fun r1 => ceq r1 0 (bnd (m_Mod_no (-1) m_refused) (fun r9 => some (r9.1, r9.2))) (bnd (m_Mod_holesAmong x1 0 24 m_block m_waits) (fun r3 => bnd (m_Mod_roomNow m_owner m_block m_waits) (fun r5 => clt r3 r5 (some (r3, m_refused)) (bnd (m_Mod_roomNow m_owner m_block m_waits) (fun r7 => some (r7, m_refused)))))))
set_option maxHeartbeats 4000000 in
set_option maxRecDepth 100000 in
theorem c_Mod_most (l : Launch) (D : va_G) (cI cB : ClassId) (a0 a1 a2 a3 a4 a5 a6 a7 a8 a9 a10 a11 a12 a13 a14 a15 : Nat) (m_stepsMade : Int) (m_stepsMost : Int) (m_taped : Int) (m_reading : Int) (m_statements : Int) (m_telling : Int) (m_hasImage : Int) (m_isKeeping : Int) (m_cursor : Int) (m_rowMany : Int) (m_lots : Int) (m_refused : Int → Int) (m_bytes : Int → Int) (m_owner : Int → Int) (m_block : Int → Int) (m_written : Int → Int) (m_waits : Int → Int) (m_kinds : Int → Int) (m_tape : Int → Int) (m_sort : Int → Int) (m_sortAt : Int → Int) (m_told : Int → Int) (m_kept : Int → Int) (m_was : Int → Int) (m_ends : Int → Int) (m_row : Int → Int) (x1 : Int) {o : Int × (Int → Int)} (h : m_Mod_most x1 m_refused m_owner m_block m_waits = some o) : Ct l D cI cB y_Mod_most b_Mod_most 3 (some .int) { frames := 4, cells := 0, slots := 0, locals := 84 } [.ref a0, .int (zi x1)] (w_Mod cI cB a0 a1 a2 a3 a4 a5 a6 a7 a8 a9 a10 a11 a12 a13 a14 a15 m_stepsMade m_stepsMost m_taped m_reading m_statements m_telling m_hasImage m_isKeeping m_cursor m_rowMany m_lots m_refused m_bytes m_owner m_block m_written m_waits m_kinds m_tape m_sort m_sortAt m_told m_kept m_was m_ends m_row) (w_Mod cI cB a0 a1 a2 a3 a4 a5 a6 a7 a8 a9 a10 a11 a12 a13 a14 a15 m_stepsMade m_stepsMost m_taped m_reading m_statements m_telling m_hasImage m_isKeeping m_cursor m_rowMany m_lots o.2 m_bytes m_owner m_block m_written m_waits m_kinds m_tape m_sort m_sortAt m_told m_kept m_was m_ends m_row) (some (.int (zi o.1))) := by
  refine Ct.start (by decide) (Nat.le_of_ble_eq_true rfl) (fun G X hR => ?_)
  refine x_ls (ls2 := [(0, .ref a0), (1, .int (zi x1))]) [0, 1] rfl ?_
  unfold m_Mod_most at h
  refine x_iload_n (pc := 0) X d_Mod_most_0 1 rfl rfl ?_
  obtain ⟨r1, h2, h⟩ := bnd_e h
  refine x_callS (pc := 1) (As := [.int (zi x1)]) (rest := []) (w2 := (w_Mod cI cB a0 a1 a2 a3 a4 a5 a6 a7 a8 a9 a10 a11 a12 a13 a14 a15 m_stepsMade m_stepsMost m_taped m_reading m_statements m_telling m_hasImage m_isKeeping m_cursor m_rowMany m_lots m_refused m_bytes m_owner m_block m_written m_waits m_kinds m_tape m_sort m_sortAt m_told m_kept m_was m_ends m_row)) X d_Mod_most_1 lk_Mod_230 mv_Mod_isFile (c_Mod_isFile l D cI cB x1 h2) ⟨(Nat.le_of_ble_eq_true rfl), (Nat.le_of_ble_eq_true rfl), (Nat.le_of_ble_eq_true rfl), (Nat.le_of_ble_eq_true rfl)⟩ [] rfl rfl rfl (Up.same rfl) rfl rfl (Nat.le_of_ble_eq_true rfl) ?_
  refine x_ifne (pc := 4) (tgt := 13) X d_Mod_most_4 rfl h (fun h => ?_) (fun h => ?_)
  · skip
    refine x_aload_n (pc := 13) X d_Mod_most_13 0 rfl rfl ?_
    refine x_iload_n (pc := 14) X d_Mod_most_14 1 rfl rfl ?_
    refine x_iconst (pc := 15) X d_Mod_most_15  ?_
    refine x_bipush (pc := 16) (v := 24) X d_Mod_most_16 rfl ?_
    obtain ⟨r3, h4, h⟩ := bnd_e h
    refine x_callV (pc := 18) (As := [.int (zi x1), .int (zi 0), .int (zi 24)]) (rest := []) (w2 := (w_Mod cI cB a0 a1 a2 a3 a4 a5 a6 a7 a8 a9 a10 a11 a12 a13 a14 a15 m_stepsMade m_stepsMost m_taped m_reading m_statements m_telling m_hasImage m_isKeeping m_cursor m_rowMany m_lots m_refused m_bytes m_owner m_block m_written m_waits m_kinds m_tape m_sort m_sortAt m_told m_kept m_was m_ends m_row)) X d_Mod_most_18 lk_Mod_212 mv_Mod_holesAmong (c_Mod_holesAmong l D cI cB a0 a1 a2 a3 a4 a5 a6 a7 a8 a9 a10 a11 a12 a13 a14 a15 m_stepsMade m_stepsMost m_taped m_reading m_statements m_telling m_hasImage m_isKeeping m_cursor m_rowMany m_lots m_refused m_bytes m_owner m_block m_written m_waits m_kinds m_tape m_sort m_sortAt m_told m_kept m_was m_ends m_row x1 0 24 h4) ⟨(Nat.le_of_ble_eq_true rfl), (Nat.le_of_ble_eq_true rfl), (Nat.le_of_ble_eq_true rfl), (Nat.le_of_ble_eq_true rfl)⟩ 0 rfl rfl [0, 1, 2, 3, 4, 5, 6, 7, 8, 9, 10, 11, 12, 13, 14, 15] rfl rfl rfl (Up.same rfl) rfl rfl (Nat.le_of_ble_eq_true rfl) ?_
    refine x_istore_n (pc := 21) (ls2 := [(2, .int (zi r3)), (0, .ref a0), (1, .int (zi x1))]) X d_Mod_most_21 rfl (Nat.le_of_ble_eq_true rfl) rfl ?_
    refine x_iload_n (pc := 22) X d_Mod_most_22 0 rfl rfl ?_
    refine x_aload_n (pc := 23) X d_Mod_most_23 1 rfl rfl ?_
    obtain ⟨r5, h6, h⟩ := bnd_e h
    refine x_callV (pc := 24) (As := []) (rest := [.int (zi r3)]) (w2 := (w_Mod cI cB a0 a1 a2 a3 a4 a5 a6 a7 a8 a9 a10 a11 a12 a13 a14 a15 m_stepsMade m_stepsMost m_taped m_reading m_statements m_telling m_hasImage m_isKeeping m_cursor m_rowMany m_lots m_refused m_bytes m_owner m_block m_written m_waits m_kinds m_tape m_sort m_sortAt m_told m_kept m_was m_ends m_row)) X d_Mod_most_24 lk_Mod_162 mv_Mod_roomNow (c_Mod_roomNow l D cI cB a0 a1 a2 a3 a4 a5 a6 a7 a8 a9 a10 a11 a12 a13 a14 a15 m_stepsMade m_stepsMost m_taped m_reading m_statements m_telling m_hasImage m_isKeeping m_cursor m_rowMany m_lots m_refused m_bytes m_owner m_block m_written m_waits m_kinds m_tape m_sort m_sortAt m_told m_kept m_was m_ends m_row h6) ⟨(Nat.le_of_ble_eq_true rfl), (Nat.le_of_ble_eq_true rfl), (Nat.le_of_ble_eq_true rfl), (Nat.le_of_ble_eq_true rfl)⟩ 0 rfl rfl [0, 1, 2, 3, 4, 5, 6, 7, 8, 9, 10, 11, 12, 13, 14, 15] rfl rfl rfl (Up.same rfl) rfl rfl (Nat.le_of_ble_eq_true rfl) ?_
    refine x_icmpge (pc := 27) (tgt := 34) X d_Mod_most_27 rfl h (fun h => ?_) (fun h => ?_)
    · skip
      refine x_aload_n (pc := 34) X d_Mod_most_34 1 rfl rfl ?_
      obtain ⟨r7, h8, h⟩ := bnd_e h
      refine x_callV (pc := 35) (As := []) (rest := []) (w2 := (w_Mod cI cB a0 a1 a2 a3 a4 a5 a6 a7 a8 a9 a10 a11 a12 a13 a14 a15 m_stepsMade m_stepsMost m_taped m_reading m_statements m_telling m_hasImage m_isKeeping m_cursor m_rowMany m_lots m_refused m_bytes m_owner m_block m_written m_waits m_kinds m_tape m_sort m_sortAt m_told m_kept m_was m_ends m_row)) X d_Mod_most_35 lk_Mod_162 mv_Mod_roomNow (c_Mod_roomNow l D cI cB a0 a1 a2 a3 a4 a5 a6 a7 a8 a9 a10 a11 a12 a13 a14 a15 m_stepsMade m_stepsMost m_taped m_reading m_statements m_telling m_hasImage m_isKeeping m_cursor m_rowMany m_lots m_refused m_bytes m_owner m_block m_written m_waits m_kinds m_tape m_sort m_sortAt m_told m_kept m_was m_ends m_row h8) ⟨(Nat.le_of_ble_eq_true rfl), (Nat.le_of_ble_eq_true rfl), (Nat.le_of_ble_eq_true rfl), (Nat.le_of_ble_eq_true rfl)⟩ 0 rfl rfl [0, 1, 2, 3, 4, 5, 6, 7, 8, 9, 10, 11, 12, 13, 14, 15] rfl rfl rfl (Up.same rfl) rfl rfl (Nat.le_of_ble_eq_true rfl) ?_
      cases h
      exact x_iret (pc := 38) X hR d_Mod_most_38
    · skip
      refine x_iload_n (pc := 30) X d_Mod_most_30 0 rfl rfl ?_
      refine x_goto (pc := 31) (tgt := 38) X d_Mod_most_31 rfl ?_
      cases h
      exact x_iret (pc := 38) X hR d_Mod_most_38
  · skip
    refine x_aload_n (pc := 7) X d_Mod_most_7 0 rfl rfl ?_
    refine x_iconst (pc := 8) X d_Mod_most_8  ?_
    obtain ⟨r9, h10, h⟩ := bnd_e h
    refine x_callV (pc := 9) (As := [.int (zi (-1))]) (rest := []) (w2 := (w_Mod cI cB a0 a1 a2 a3 a4 a5 a6 a7 a8 a9 a10 a11 a12 a13 a14 a15 m_stepsMade m_stepsMost m_taped m_reading m_statements m_telling m_hasImage m_isKeeping m_cursor m_rowMany m_lots r9.2 m_bytes m_owner m_block m_written m_waits m_kinds m_tape m_sort m_sortAt m_told m_kept m_was m_ends m_row)) X d_Mod_most_9 lk_Mod_172 mv_Mod_no (c_Mod_no l D cI cB a0 a1 a2 a3 a4 a5 a6 a7 a8 a9 a10 a11 a12 a13 a14 a15 m_stepsMade m_stepsMost m_taped m_reading m_statements m_telling m_hasImage m_isKeeping m_cursor m_rowMany m_lots m_refused m_bytes m_owner m_block m_written m_waits m_kinds m_tape m_sort m_sortAt m_told m_kept m_was m_ends m_row (-1) h10) ⟨(Nat.le_of_ble_eq_true rfl), (Nat.le_of_ble_eq_true rfl), (Nat.le_of_ble_eq_true rfl), (Nat.le_of_ble_eq_true rfl)⟩ 0 rfl rfl [0, 1, 2, 3, 4, 5, 6, 7, 8, 9, 10, 11, 12, 13, 14, 15] rfl rfl rfl (Up.of [] [] rfl rfl rfl 16 rfl (by decide +kernel)) rfl rfl (Nat.le_of_ble_eq_true rfl) ?_
    cases h
    exact x_iret (pc := 12) X hR d_Mod_most_12
theorem d_Mod_lower_0 : decode b_Mod_lower 0 = .ok (.aload_n 0, 1) := by decide +kernel
theorem d_Mod_lower_1 : decode b_Mod_lower 1 = .ok (.getfield 7, 3) := by decide +kernel
theorem d_Mod_lower_4 : decode b_Mod_lower 4 = .ok (.iload_n 1, 1) := by decide +kernel
theorem d_Mod_lower_5 : decode b_Mod_lower 5 = .ok (.ineg, 1) := by decide +kernel
theorem d_Mod_lower_6 : decode b_Mod_lower 6 = .ok (.dup2, 1) := by decide +kernel
theorem d_Mod_lower_7 : decode b_Mod_lower 7 = .ok (.iaload, 1) := by decide +kernel
theorem d_Mod_lower_8 : decode b_Mod_lower 8 = .ok (.iconst 1, 1) := by decide +kernel
theorem d_Mod_lower_9 : decode b_Mod_lower 9 = .ok (.iadd, 1) := by decide +kernel
theorem d_Mod_lower_10 : decode b_Mod_lower 10 = .ok (.iastore, 1) := by decide +kernel
theorem d_Mod_lower_11 : decode b_Mod_lower 11 = .ok (.ldc 55, 2) := by decide +kernel
theorem d_Mod_lower_13 : decode b_Mod_lower 13 = .ok (.iload_n 1, 1) := by decide +kernel
theorem d_Mod_lower_14 : decode b_Mod_lower 14 = .ok (.isub, 1) := by decide +kernel
theorem d_Mod_lower_15 : decode b_Mod_lower 15 = .ok (.ireturn, 1) := by decide +kernel
def m_Mod_lower (x1 : Int) (m_refused : Int → Int) : Option (Int × (Int → Int)) :=
  gd (zx (-x1) 7) (gd (zx (-x1) 7) (some ((1000000000 - x1), (uf m_refused (-x1) ((m_refused (-x1)) + 1)))))
set_option maxHeartbeats 4000000 in
set_option maxRecDepth 100000 in
theorem c_Mod_lower (l : Launch) (D : va_G) (cI cB : ClassId) (a0 a1 a2 a3 a4 a5 a6 a7 a8 a9 a10 a11 a12 a13 a14 a15 : Nat) (m_stepsMade : Int) (m_stepsMost : Int) (m_taped : Int) (m_reading : Int) (m_statements : Int) (m_telling : Int) (m_hasImage : Int) (m_isKeeping : Int) (m_cursor : Int) (m_rowMany : Int) (m_lots : Int) (m_refused : Int → Int) (m_bytes : Int → Int) (m_owner : Int → Int) (m_block : Int → Int) (m_written : Int → Int) (m_waits : Int → Int) (m_kinds : Int → Int) (m_tape : Int → Int) (m_sort : Int → Int) (m_sortAt : Int → Int) (m_told : Int → Int) (m_kept : Int → Int) (m_was : Int → Int) (m_ends : Int → Int) (m_row : Int → Int) (x1 : Int) {o : Int × (Int → Int)} (h : m_Mod_lower x1 m_refused = some o) : Ct l D cI cB y_Mod_lower b_Mod_lower 2 (some .int) { frames := 0, cells := 0, slots := 0, locals := 0 } [.ref a0, .int (zi x1)] (w_Mod cI cB a0 a1 a2 a3 a4 a5 a6 a7 a8 a9 a10 a11 a12 a13 a14 a15 m_stepsMade m_stepsMost m_taped m_reading m_statements m_telling m_hasImage m_isKeeping m_cursor m_rowMany m_lots m_refused m_bytes m_owner m_block m_written m_waits m_kinds m_tape m_sort m_sortAt m_told m_kept m_was m_ends m_row) (w_Mod cI cB a0 a1 a2 a3 a4 a5 a6 a7 a8 a9 a10 a11 a12 a13 a14 a15 m_stepsMade m_stepsMost m_taped m_reading m_statements m_telling m_hasImage m_isKeeping m_cursor m_rowMany m_lots o.2 m_bytes m_owner m_block m_written m_waits m_kinds m_tape m_sort m_sortAt m_told m_kept m_was m_ends m_row) (some (.int (zi o.1))) := by
  refine Ct.start (by decide) (Nat.le_of_ble_eq_true rfl) (fun G X hR => ?_)
  refine x_ls (ls2 := [(0, .ref a0), (1, .int (zi x1))]) [0, 1] rfl ?_
  unfold m_Mod_lower at h
  refine x_aload_n (pc := 0) X d_Mod_lower_0 0 rfl rfl ?_
  refine x_get (pc := 1) X d_Mod_lower_1 0 rfl fl_Mod_7 rfl ?_
  refine x_iload_n (pc := 4) X d_Mod_lower_4 1 rfl rfl ?_
  refine x_ineg (pc := 5) X d_Mod_lower_5  ?_
  refine x_dup2 (pc := 6) X d_Mod_lower_6 rfl rfl ?_
  refine x_iald (pc := 7) X d_Mod_lower_7 1 rfl (Nat.le_of_ble_eq_true rfl) rfl h (fun h => ?_)
  refine x_iconst (pc := 8) X d_Mod_lower_8  ?_
  refine x_iadd (pc := 9) X d_Mod_lower_9  ?_
  refine x_iast (pc := 10) (w2 := (w_Mod cI cB a0 a1 a2 a3 a4 a5 a6 a7 a8 a9 a10 a11 a12 a13 a14 a15 m_stepsMade m_stepsMost m_taped m_reading m_statements m_telling m_hasImage m_isKeeping m_cursor m_rowMany m_lots (uf m_refused (-x1) ((m_refused (-x1)) + 1)) m_bytes m_owner m_block m_written m_waits m_kinds m_tape m_sort m_sortAt m_told m_kept m_was m_ends m_row)) X d_Mod_lower_10 1 rfl (Nat.le_of_ble_eq_true rfl) rfl rfl h (fun h => ?_)
  refine x_ldc (pc := 11) X d_Mod_lower_11 cw_Mod_55 cg_Mod_55 ?_
  refine x_iload_n (pc := 13) X d_Mod_lower_13 1 rfl rfl ?_
  refine x_isub (pc := 14) X d_Mod_lower_14  ?_
  cases h
  exact x_iret (pc := 15) X hR d_Mod_lower_15
theorem d_Mod_larger_0 : decode b_Mod_larger 0 = .ok (.iload_n 1, 1) := by decide +kernel
theorem d_Mod_larger_1 : decode b_Mod_larger 1 = .ok (.invokestatic 230, 3) := by decide +kernel
theorem d_Mod_larger_4 : decode b_Mod_larger 4 = .ok (.ifCond .ne 9, 3) := by decide +kernel
theorem d_Mod_larger_7 : decode b_Mod_larger 7 = .ok (.aload_n 0, 1) := by decide +kernel
theorem d_Mod_larger_8 : decode b_Mod_larger 8 = .ok (.iconst (-1), 1) := by decide +kernel
theorem d_Mod_larger_9 : decode b_Mod_larger 9 = .ok (.invokevirtual 331, 3) := by decide +kernel
theorem d_Mod_larger_12 : decode b_Mod_larger 12 = .ok (.ireturn, 1) := by decide +kernel
theorem d_Mod_larger_13 : decode b_Mod_larger 13 = .ok (.aload_n 0, 1) := by decide +kernel
theorem d_Mod_larger_14 : decode b_Mod_larger 14 = .ok (.iload_n 1, 1) := by decide +kernel
theorem d_Mod_larger_15 : decode b_Mod_larger 15 = .ok (.invokevirtual 221, 3) := by decide +kernel
theorem d_Mod_larger_18 : decode b_Mod_larger 18 = .ok (.ifCond .ne 5, 3) := by decide +kernel
theorem d_Mod_larger_21 : decode b_Mod_larger 21 = .ok (.iconst 0, 1) := by decide +kernel
theorem d_Mod_larger_22 : decode b_Mod_larger 22 = .ok (.ireturn, 1) := by decide +kernel
theorem d_Mod_larger_23 : decode b_Mod_larger 23 = .ok (.aload_n 0, 1) := by decide +kernel
theorem d_Mod_larger_24 : decode b_Mod_larger 24 = .ok (.invokevirtual 122, 3) := by decide +kernel
theorem d_Mod_larger_27 : decode b_Mod_larger 27 = .ok (.istore_n 2, 1) := by decide +kernel
theorem d_Mod_larger_28 : decode b_Mod_larger 28 = .ok (.aload_n 0, 1) := by decide +kernel
theorem d_Mod_larger_29 : decode b_Mod_larger 29 = .ok (.invokevirtual 291, 3) := by decide +kernel
theorem d_Mod_larger_32 : decode b_Mod_larger 32 = .ok (.aload_n 0, 1) := by decide +kernel
theorem d_Mod_larger_33 : decode b_Mod_larger 33 = .ok (.iload_n 1, 1) := by decide +kernel
theorem d_Mod_larger_34 : decode b_Mod_larger 34 = .ok (.invokevirtual 224, 3) := by decide +kernel
theorem d_Mod_larger_37 : decode b_Mod_larger 37 = .ok (.pop, 1) := by decide +kernel
theorem d_Mod_larger_38 : decode b_Mod_larger 38 = .ok (.aload_n 0, 1) := by decide +kernel
theorem d_Mod_larger_39 : decode b_Mod_larger 39 = .ok (.invokevirtual 122, 3) := by decide +kernel
theorem d_Mod_larger_42 : decode b_Mod_larger 42 = .ok (.iload_n 2, 1) := by decide +kernel
theorem d_Mod_larger_43 : decode b_Mod_larger 43 = .ok (.isub, 1) := by decide +kernel
theorem d_Mod_larger_44 : decode b_Mod_larger 44 = .ok (.istore_n 3, 1) := by decide +kernel
theorem d_Mod_larger_45 : decode b_Mod_larger 45 = .ok (.aload_n 0, 1) := by decide +kernel
theorem d_Mod_larger_46 : decode b_Mod_larger 46 = .ok (.invokevirtual 294, 3) := by decide +kernel
theorem d_Mod_larger_49 : decode b_Mod_larger 49 = .ok (.iload_n 3, 1) := by decide +kernel
theorem d_Mod_larger_50 : decode b_Mod_larger 50 = .ok (.ireturn, 1) := by decide +kernel
def m_Mod_larger (x1 : Int) (m_isKeeping : Int) (m_cursor : Int) (m_refused : Int → Int) (m_bytes : Int → Int) (m_owner : Int → Int) (m_block : Int → Int) (m_written : Int → Int) (m_waits : Int → Int) (m_kinds : Int → Int) (m_kept : Int → Int) : Option (Int × Int × Int × (Int → Int) × (Int → Int) × (Int → Int) × (Int → Int) × (Int → Int) × (Int → Int) × (Int → Int) × (Int → Int)) :=
  bnd (m_Mod_isFile x1) (fun r1 => ceq r1 0 (bnd (m_Mod_lower (-1) m_refused) (fun r15 => some (r15.1, m_isKeeping, m_cursor, r15.2, m_bytes, m_owner, m_block, m_written, m_waits, m_kinds, m_kept))) (bnd (m_Mod_canSettle x1 m_owner m_block) (fun r3 => ceq r3 0 (some (0, m_isKeeping, m_cursor, m_refused, m_bytes, m_owner, m_block, m_written, m_waits, m_kinds, m_kept)) (bnd (m_Mod_greatestSize m_owner) (fun r5 => bnd (m_Mod_minds m_isKeeping m_cursor m_bytes m_owner m_block m_written m_waits m_kinds m_kept) (fun r7 => bnd (m_Mod_settles x1 r7.2.2.1 r7.2.2.2.1 r7.2.2.2.2.1) (fun r9 => bnd (m_Mod_greatestSize r9.2.2.1) (fun r11 => bnd (m_Mod_forgets r7.1 r7.2.1 r9.2.1 r9.2.2.1 r9.2.2.2 r7.2.2.2.2.2.1 r7.2.2.2.2.2.2.1 r7.2.2.2.2.2.2.2.1 r7.2.2.2.2.2.2.2.2) (fun r13 => some ((r11 - r5), r13.1, r13.2.1, m_refused, r13.2.2.1, r13.2.2.2.1, r13.2.2.2.2.1, r13.2.2.2.2.2.1, r13.2.2.2.2.2.2.1, r13.2.2.2.2.2.2.2.1, r13.2.2.2.2.2.2.2.2))))))))))
set_option maxHeartbeats 4000000 in
set_option maxRecDepth 100000 in
theorem c_Mod_larger (l : Launch) (D : va_G) (cI cB : ClassId) (a0 a1 a2 a3 a4 a5 a6 a7 a8 a9 a10 a11 a12 a13 a14 a15 : Nat) (m_stepsMade : Int) (m_stepsMost : Int) (m_taped : Int) (m_reading : Int) (m_statements : Int) (m_telling : Int) (m_hasImage : Int) (m_isKeeping : Int) (m_cursor : Int) (m_rowMany : Int) (m_lots : Int) (m_refused : Int → Int) (m_bytes : Int → Int) (m_owner : Int → Int) (m_block : Int → Int) (m_written : Int → Int) (m_waits : Int → Int) (m_kinds : Int → Int) (m_tape : Int → Int) (m_sort : Int → Int) (m_sortAt : Int → Int) (m_told : Int → Int) (m_kept : Int → Int) (m_was : Int → Int) (m_ends : Int → Int) (m_row : Int → Int) (x1 : Int) {o : Int × Int × Int × (Int → Int) × (Int → Int) × (Int → Int) × (Int → Int) × (Int → Int) × (Int → Int) × (Int → Int) × (Int → Int)} (h : m_Mod_larger x1 m_isKeeping m_cursor m_refused m_bytes m_owner m_block m_written m_waits m_kinds m_kept = some o) : Ct l D cI cB y_Mod_larger b_Mod_larger 4 (some .int) { frames := 3, cells := 0, slots := 0, locals := 69 } [.ref a0, .int (zi x1)] (w_Mod cI cB a0 a1 a2 a3 a4 a5 a6 a7 a8 a9 a10 a11 a12 a13 a14 a15 m_stepsMade m_stepsMost m_taped m_reading m_statements m_telling m_hasImage m_isKeeping m_cursor m_rowMany m_lots m_refused m_bytes m_owner m_block m_written m_waits m_kinds m_tape m_sort m_sortAt m_told m_kept m_was m_ends m_row) (w_Mod cI cB a0 a1 a2 a3 a4 a5 a6 a7 a8 a9 a10 a11 a12 a13 a14 a15 m_stepsMade m_stepsMost m_taped m_reading m_statements m_telling m_hasImage o.2.1 o.2.2.1 m_rowMany m_lots o.2.2.2.1 o.2.2.2.2.1 o.2.2.2.2.2.1 o.2.2.2.2.2.2.1 o.2.2.2.2.2.2.2.1 o.2.2.2.2.2.2.2.2.1 o.2.2.2.2.2.2.2.2.2.1 m_tape m_sort m_sortAt m_told o.2.2.2.2.2.2.2.2.2.2 m_was m_ends m_row) (some (.int (zi o.1))) := by
  refine Ct.start (by decide) (Nat.le_of_ble_eq_true rfl) (fun G X hR => ?_)
  refine x_ls (ls2 := [(0, .ref a0), (1, .int (zi x1))]) [0, 1] rfl ?_
  unfold m_Mod_larger at h
  refine x_iload_n (pc := 0) X d_Mod_larger_0 1 rfl rfl ?_
  obtain ⟨r1, h2, h⟩ := bnd_e h
  refine x_callS (pc := 1) (As := [.int (zi x1)]) (rest := []) (w2 := (w_Mod cI cB a0 a1 a2 a3 a4 a5 a6 a7 a8 a9 a10 a11 a12 a13 a14 a15 m_stepsMade m_stepsMost m_taped m_reading m_statements m_telling m_hasImage m_isKeeping m_cursor m_rowMany m_lots m_refused m_bytes m_owner m_block m_written m_waits m_kinds m_tape m_sort m_sortAt m_told m_kept m_was m_ends m_row)) X d_Mod_larger_1 lk_Mod_230 mv_Mod_isFile (c_Mod_isFile l D cI cB x1 h2) ⟨(Nat.le_of_ble_eq_true rfl), (Nat.le_of_ble_eq_true rfl), (Nat.le_of_ble_eq_true rfl), (Nat.le_of_ble_eq_true rfl)⟩ [] rfl rfl rfl (Up.same rfl) rfl rfl (Nat.le_of_ble_eq_true rfl) ?_
  refine x_ifne (pc := 4) (tgt := 13) X d_Mod_larger_4 rfl h (fun h => ?_) (fun h => ?_)
  · skip
    refine x_aload_n (pc := 13) X d_Mod_larger_13 0 rfl rfl ?_
    refine x_iload_n (pc := 14) X d_Mod_larger_14 1 rfl rfl ?_
    obtain ⟨r3, h4, h⟩ := bnd_e h
    refine x_callV (pc := 15) (As := [.int (zi x1)]) (rest := []) (w2 := (w_Mod cI cB a0 a1 a2 a3 a4 a5 a6 a7 a8 a9 a10 a11 a12 a13 a14 a15 m_stepsMade m_stepsMost m_taped m_reading m_statements m_telling m_hasImage m_isKeeping m_cursor m_rowMany m_lots m_refused m_bytes m_owner m_block m_written m_waits m_kinds m_tape m_sort m_sortAt m_told m_kept m_was m_ends m_row)) X d_Mod_larger_15 lk_Mod_221 mv_Mod_canSettle (c_Mod_canSettle l D cI cB a0 a1 a2 a3 a4 a5 a6 a7 a8 a9 a10 a11 a12 a13 a14 a15 m_stepsMade m_stepsMost m_taped m_reading m_statements m_telling m_hasImage m_isKeeping m_cursor m_rowMany m_lots m_refused m_bytes m_owner m_block m_written m_waits m_kinds m_tape m_sort m_sortAt m_told m_kept m_was m_ends m_row x1 h4) ⟨(Nat.le_of_ble_eq_true rfl), (Nat.le_of_ble_eq_true rfl), (Nat.le_of_ble_eq_true rfl), (Nat.le_of_ble_eq_true rfl)⟩ 0 rfl rfl [0, 1, 2, 3, 4, 5, 6, 7, 8, 9, 10, 11, 12, 13, 14, 15] rfl rfl rfl (Up.same rfl) rfl rfl (Nat.le_of_ble_eq_true rfl) ?_
    refine x_ifne (pc := 18) (tgt := 23) X d_Mod_larger_18 rfl h (fun h => ?_) (fun h => ?_)
    · skip
      refine x_aload_n (pc := 23) X d_Mod_larger_23 0 rfl rfl ?_
      obtain ⟨r5, h6, h⟩ := bnd_e h
      refine x_callV (pc := 24) (As := []) (rest := []) (w2 := (w_Mod cI cB a0 a1 a2 a3 a4 a5 a6 a7 a8 a9 a10 a11 a12 a13 a14 a15 m_stepsMade m_stepsMost m_taped m_reading m_statements m_telling m_hasImage m_isKeeping m_cursor m_rowMany m_lots m_refused m_bytes m_owner m_block m_written m_waits m_kinds m_tape m_sort m_sortAt m_told m_kept m_was m_ends m_row)) X d_Mod_larger_24 lk_Mod_122 mv_Mod_greatestSize (c_Mod_greatestSize l D cI cB a0 a1 a2 a3 a4 a5 a6 a7 a8 a9 a10 a11 a12 a13 a14 a15 m_stepsMade m_stepsMost m_taped m_reading m_statements m_telling m_hasImage m_isKeeping m_cursor m_rowMany m_lots m_refused m_bytes m_owner m_block m_written m_waits m_kinds m_tape m_sort m_sortAt m_told m_kept m_was m_ends m_row h6) ⟨(Nat.le_of_ble_eq_true rfl), (Nat.le_of_ble_eq_true rfl), (Nat.le_of_ble_eq_true rfl), (Nat.le_of_ble_eq_true rfl)⟩ 0 rfl rfl [0, 1, 2, 3, 4, 5, 6, 7, 8, 9, 10, 11, 12, 13, 14, 15] rfl rfl rfl (Up.same rfl) rfl rfl (Nat.le_of_ble_eq_true rfl) ?_
      refine x_istore_n (pc := 27) (ls2 := [(2, .int (zi r5)), (0, .ref a0), (1, .int (zi x1))]) X d_Mod_larger_27 rfl (Nat.le_of_ble_eq_true rfl) rfl ?_
      refine x_aload_n (pc := 28) X d_Mod_larger_28 1 rfl rfl ?_
      obtain ⟨r7, h8, h⟩ := bnd_e h
      refine x_callV (pc := 29) (As := []) (rest := []) (w2 := (w_Mod cI cB a0 a1 a2 a3 a4 a5 a6 a7 a8 a9 a10 a11 a12 a13 a14 a15 m_stepsMade m_stepsMost m_taped m_reading m_statements m_telling m_hasImage r7.1 r7.2.1 m_rowMany m_lots m_refused r7.2.2.1 r7.2.2.2.1 r7.2.2.2.2.1 r7.2.2.2.2.2.1 r7.2.2.2.2.2.2.1 r7.2.2.2.2.2.2.2.1 m_tape m_sort m_sortAt m_told r7.2.2.2.2.2.2.2.2 m_was m_ends m_row)) X d_Mod_larger_29 lk_Mod_291 mv_Mod_minds (c_Mod_minds l D cI cB a0 a1 a2 a3 a4 a5 a6 a7 a8 a9 a10 a11 a12 a13 a14 a15 m_stepsMade m_stepsMost m_taped m_reading m_statements m_telling m_hasImage m_isKeeping m_cursor m_rowMany m_lots m_refused m_bytes m_owner m_block m_written m_waits m_kinds m_tape m_sort m_sortAt m_told m_kept m_was m_ends m_row h8) ⟨(Nat.le_of_ble_eq_true rfl), (Nat.le_of_ble_eq_true rfl), (Nat.le_of_ble_eq_true rfl), (Nat.le_of_ble_eq_true rfl)⟩ 0 rfl rfl [0, 1, 2, 3, 4, 5, 6, 7, 8, 9, 10, 11, 12, 13, 14, 15] rfl rfl rfl (Up.of [] [] rfl rfl rfl 16 rfl (by decide +kernel)) rfl rfl (Nat.le_of_ble_eq_true rfl) ?_
      refine x_aload_n (pc := 32) X d_Mod_larger_32 1 rfl rfl ?_
      refine x_iload_n (pc := 33) X d_Mod_larger_33 2 rfl rfl ?_
      obtain ⟨r9, h10, h⟩ := bnd_e h
      refine x_callV (pc := 34) (As := [.int (zi x1)]) (rest := []) (w2 := (w_Mod cI cB a0 a1 a2 a3 a4 a5 a6 a7 a8 a9 a10 a11 a12 a13 a14 a15 m_stepsMade m_stepsMost m_taped m_reading m_statements m_telling m_hasImage r7.1 r7.2.1 m_rowMany m_lots m_refused r9.2.1 r9.2.2.1 r9.2.2.2 r7.2.2.2.2.2.1 r7.2.2.2.2.2.2.1 r7.2.2.2.2.2.2.2.1 m_tape m_sort m_sortAt m_told r7.2.2.2.2.2.2.2.2 m_was m_ends m_row)) X d_Mod_larger_34 lk_Mod_224 mv_Mod_settles (c_Mod_settles l D cI cB a0 a1 a2 a3 a4 a5 a6 a7 a8 a9 a10 a11 a12 a13 a14 a15 m_stepsMade m_stepsMost m_taped m_reading m_statements m_telling m_hasImage r7.1 r7.2.1 m_rowMany m_lots m_refused r7.2.2.1 r7.2.2.2.1 r7.2.2.2.2.1 r7.2.2.2.2.2.1 r7.2.2.2.2.2.2.1 r7.2.2.2.2.2.2.2.1 m_tape m_sort m_sortAt m_told r7.2.2.2.2.2.2.2.2 m_was m_ends m_row x1 h10) ⟨(Nat.le_of_ble_eq_true rfl), (Nat.le_of_ble_eq_true rfl), (Nat.le_of_ble_eq_true rfl), (Nat.le_of_ble_eq_true rfl)⟩ 0 rfl rfl [0, 1, 2, 3, 4, 5, 6, 7, 8, 9, 10, 11, 12, 13, 14, 15] rfl rfl rfl (Up.of [] [] rfl rfl rfl 16 rfl (by decide +kernel)) rfl rfl (Nat.le_of_ble_eq_true rfl) ?_
      refine x_pop (pc := 37) X d_Mod_larger_37 rfl ?_
      refine x_aload_n (pc := 38) X d_Mod_larger_38 1 rfl rfl ?_
      obtain ⟨r11, h12, h⟩ := bnd_e h
      refine x_callV (pc := 39) (As := []) (rest := []) (w2 := (w_Mod cI cB a0 a1 a2 a3 a4 a5 a6 a7 a8 a9 a10 a11 a12 a13 a14 a15 m_stepsMade m_stepsMost m_taped m_reading m_statements m_telling m_hasImage r7.1 r7.2.1 m_rowMany m_lots m_refused r9.2.1 r9.2.2.1 r9.2.2.2 r7.2.2.2.2.2.1 r7.2.2.2.2.2.2.1 r7.2.2.2.2.2.2.2.1 m_tape m_sort m_sortAt m_told r7.2.2.2.2.2.2.2.2 m_was m_ends m_row)) X d_Mod_larger_39 lk_Mod_122 mv_Mod_greatestSize (c_Mod_greatestSize l D cI cB a0 a1 a2 a3 a4 a5 a6 a7 a8 a9 a10 a11 a12 a13 a14 a15 m_stepsMade m_stepsMost m_taped m_reading m_statements m_telling m_hasImage r7.1 r7.2.1 m_rowMany m_lots m_refused r9.2.1 r9.2.2.1 r9.2.2.2 r7.2.2.2.2.2.1 r7.2.2.2.2.2.2.1 r7.2.2.2.2.2.2.2.1 m_tape m_sort m_sortAt m_told r7.2.2.2.2.2.2.2.2 m_was m_ends m_row h12) ⟨(Nat.le_of_ble_eq_true rfl), (Nat.le_of_ble_eq_true rfl), (Nat.le_of_ble_eq_true rfl), (Nat.le_of_ble_eq_true rfl)⟩ 0 rfl rfl [0, 1, 2, 3, 4, 5, 6, 7, 8, 9, 10, 11, 12, 13, 14, 15] rfl rfl rfl (Up.same rfl) rfl rfl (Nat.le_of_ble_eq_true rfl) ?_
      refine x_iload_n (pc := 42) X d_Mod_larger_42 0 rfl rfl ?_
      refine x_isub (pc := 43) X d_Mod_larger_43  ?_
      refine x_istore_n (pc := 44) (ls2 := [(3, .int (zi (r11 - r5))), (2, .int (zi r5)), (0, .ref a0), (1, .int (zi x1))]) X d_Mod_larger_44 rfl (Nat.le_of_ble_eq_true rfl) rfl ?_
      refine x_aload_n (pc := 45) X d_Mod_larger_45 2 rfl rfl ?_
      obtain ⟨r13, h14, h⟩ := bnd_e h
      refine x_callV (pc := 46) (As := []) (rest := []) (w2 := (w_Mod cI cB a0 a1 a2 a3 a4 a5 a6 a7 a8 a9 a10 a11 a12 a13 a14 a15 m_stepsMade m_stepsMost m_taped m_reading m_statements m_telling m_hasImage r13.1 r13.2.1 m_rowMany m_lots m_refused r13.2.2.1 r13.2.2.2.1 r13.2.2.2.2.1 r13.2.2.2.2.2.1 r13.2.2.2.2.2.2.1 r13.2.2.2.2.2.2.2.1 m_tape m_sort m_sortAt m_told r13.2.2.2.2.2.2.2.2 m_was m_ends m_row)) X d_Mod_larger_46 lk_Mod_294 mv_Mod_forgets (c_Mod_forgets l D cI cB a0 a1 a2 a3 a4 a5 a6 a7 a8 a9 a10 a11 a12 a13 a14 a15 m_stepsMade m_stepsMost m_taped m_reading m_statements m_telling m_hasImage r7.1 r7.2.1 m_rowMany m_lots m_refused r9.2.1 r9.2.2.1 r9.2.2.2 r7.2.2.2.2.2.1 r7.2.2.2.2.2.2.1 r7.2.2.2.2.2.2.2.1 m_tape m_sort m_sortAt m_told r7.2.2.2.2.2.2.2.2 m_was m_ends m_row h14) ⟨(Nat.le_of_ble_eq_true rfl), (Nat.le_of_ble_eq_true rfl), (Nat.le_of_ble_eq_true rfl), (Nat.le_of_ble_eq_true rfl)⟩ 0 rfl rfl [0, 1, 2, 3, 4, 5, 6, 7, 8, 9, 10, 11, 12, 13, 14, 15] rfl rfl rfl (Up.of [] [] rfl rfl rfl 16 rfl (by decide +kernel)) rfl rfl (Nat.le_of_ble_eq_true rfl) ?_
      refine x_iload_n (pc := 49) X d_Mod_larger_49 0 rfl rfl ?_
      cases h
      exact x_iret (pc := 50) X hR d_Mod_larger_50
    · skip
      refine x_iconst (pc := 21) X d_Mod_larger_21  ?_
      cases h
      exact x_iret (pc := 22) X hR d_Mod_larger_22
  · skip
    refine x_aload_n (pc := 7) X d_Mod_larger_7 0 rfl rfl ?_
    refine x_iconst (pc := 8) X d_Mod_larger_8  ?_
    obtain ⟨r15, h16, h⟩ := bnd_e h
    refine x_callV (pc := 9) (As := [.int (zi (-1))]) (rest := []) (w2 := (w_Mod cI cB a0 a1 a2 a3 a4 a5 a6 a7 a8 a9 a10 a11 a12 a13 a14 a15 m_stepsMade m_stepsMost m_taped m_reading m_statements m_telling m_hasImage m_isKeeping m_cursor m_rowMany m_lots r15.2 m_bytes m_owner m_block m_written m_waits m_kinds m_tape m_sort m_sortAt m_told m_kept m_was m_ends m_row)) X d_Mod_larger_9 lk_Mod_331 mv_Mod_lower (c_Mod_lower l D cI cB a0 a1 a2 a3 a4 a5 a6 a7 a8 a9 a10 a11 a12 a13 a14 a15 m_stepsMade m_stepsMost m_taped m_reading m_statements m_telling m_hasImage m_isKeeping m_cursor m_rowMany m_lots m_refused m_bytes m_owner m_block m_written m_waits m_kinds m_tape m_sort m_sortAt m_told m_kept m_was m_ends m_row (-1) h16) ⟨(Nat.le_of_ble_eq_true rfl), (Nat.le_of_ble_eq_true rfl), (Nat.le_of_ble_eq_true rfl), (Nat.le_of_ble_eq_true rfl)⟩ 0 rfl rfl [0, 1, 2, 3, 4, 5, 6, 7, 8, 9, 10, 11, 12, 13, 14, 15] rfl rfl rfl (Up.of [] [] rfl rfl rfl 16 rfl (by decide +kernel)) rfl rfl (Nat.le_of_ble_eq_true rfl) ?_
    cases h
    exact x_iret (pc := 12) X hR d_Mod_larger_12
theorem d_Mod_lowestOf_0 : decode b_Mod_lowestOf 0 = .ok (.aload_n 0, 1) := by decide +kernel
theorem d_Mod_lowestOf_1 : decode b_Mod_lowestOf 1 = .ok (.getfield 7, 3) := by decide +kernel
theorem d_Mod_lowestOf_4 : decode b_Mod_lowestOf 4 = .ok (.iload_n 1, 1) := by decide +kernel
theorem d_Mod_lowestOf_5 : decode b_Mod_lowestOf 5 = .ok (.ineg, 1) := by decide +kernel
theorem d_Mod_lowestOf_6 : decode b_Mod_lowestOf 6 = .ok (.dup2, 1) := by decide +kernel
theorem d_Mod_lowestOf_7 : decode b_Mod_lowestOf 7 = .ok (.iaload, 1) := by decide +kernel
theorem d_Mod_lowestOf_8 : decode b_Mod_lowestOf 8 = .ok (.iconst 1, 1) := by decide +kernel
theorem d_Mod_lowestOf_9 : decode b_Mod_lowestOf 9 = .ok (.iadd, 1) := by decide +kernel
theorem d_Mod_lowestOf_10 : decode b_Mod_lowestOf 10 = .ok (.iastore, 1) := by decide +kernel
theorem d_Mod_lowestOf_11 : decode b_Mod_lowestOf 11 = .ok (.ldc2_w 56, 3) := by decide +kernel
theorem d_Mod_lowestOf_14 : decode b_Mod_lowestOf 14 = .ok (.iload_n 1, 1) := by decide +kernel
theorem d_Mod_lowestOf_15 : decode b_Mod_lowestOf 15 = .ok (.i2l, 1) := by decide +kernel
theorem d_Mod_lowestOf_16 : decode b_Mod_lowestOf 16 = .ok (.lsub, 1) := by decide +kernel
theorem d_Mod_lowestOf_17 : decode b_Mod_lowestOf 17 = .ok (.lreturn, 1) := by decide +kernel
def m_Mod_lowestOf (x1 : Int) (m_refused : Int → Int) : Option (Int × (Int → Int)) :=
  gd (zx (-x1) 7) (gd (zx (-x1) 7) (gd (zr x1) (some ((4000000000000000000 - x1), (uf m_refused (-x1) ((m_refused (-x1)) + 1))))))
set_option maxHeartbeats 4000000 in
set_option maxRecDepth 100000 in
theorem c_Mod_lowestOf (l : Launch) (D : va_G) (cI cB : ClassId) (a0 a1 a2 a3 a4 a5 a6 a7 a8 a9 a10 a11 a12 a13 a14 a15 : Nat) (m_stepsMade : Int) (m_stepsMost : Int) (m_taped : Int) (m_reading : Int) (m_statements : Int) (m_telling : Int) (m_hasImage : Int) (m_isKeeping : Int) (m_cursor : Int) (m_rowMany : Int) (m_lots : Int) (m_refused : Int → Int) (m_bytes : Int → Int) (m_owner : Int → Int) (m_block : Int → Int) (m_written : Int → Int) (m_waits : Int → Int) (m_kinds : Int → Int) (m_tape : Int → Int) (m_sort : Int → Int) (m_sortAt : Int → Int) (m_told : Int → Int) (m_kept : Int → Int) (m_was : Int → Int) (m_ends : Int → Int) (m_row : Int → Int) (x1 : Int) {o : Int × (Int → Int)} (h : m_Mod_lowestOf x1 m_refused = some o) : Ct l D cI cB y_Mod_lowestOf b_Mod_lowestOf 2 (some .long) { frames := 0, cells := 0, slots := 0, locals := 0 } [.ref a0, .int (zi x1)] (w_Mod cI cB a0 a1 a2 a3 a4 a5 a6 a7 a8 a9 a10 a11 a12 a13 a14 a15 m_stepsMade m_stepsMost m_taped m_reading m_statements m_telling m_hasImage m_isKeeping m_cursor m_rowMany m_lots m_refused m_bytes m_owner m_block m_written m_waits m_kinds m_tape m_sort m_sortAt m_told m_kept m_was m_ends m_row) (w_Mod cI cB a0 a1 a2 a3 a4 a5 a6 a7 a8 a9 a10 a11 a12 a13 a14 a15 m_stepsMade m_stepsMost m_taped m_reading m_statements m_telling m_hasImage m_isKeeping m_cursor m_rowMany m_lots o.2 m_bytes m_owner m_block m_written m_waits m_kinds m_tape m_sort m_sortAt m_told m_kept m_was m_ends m_row) (some (.long (zl o.1))) := by
  refine Ct.start (by decide) (Nat.le_of_ble_eq_true rfl) (fun G X hR => ?_)
  refine x_ls (ls2 := [(0, .ref a0), (1, .int (zi x1))]) [0, 1] rfl ?_
  unfold m_Mod_lowestOf at h
  refine x_aload_n (pc := 0) X d_Mod_lowestOf_0 0 rfl rfl ?_
  refine x_get (pc := 1) X d_Mod_lowestOf_1 0 rfl fl_Mod_7 rfl ?_
  refine x_iload_n (pc := 4) X d_Mod_lowestOf_4 1 rfl rfl ?_
  refine x_ineg (pc := 5) X d_Mod_lowestOf_5  ?_
  refine x_dup2 (pc := 6) X d_Mod_lowestOf_6 rfl rfl ?_
  refine x_iald (pc := 7) X d_Mod_lowestOf_7 1 rfl (Nat.le_of_ble_eq_true rfl) rfl h (fun h => ?_)
  refine x_iconst (pc := 8) X d_Mod_lowestOf_8  ?_
  refine x_iadd (pc := 9) X d_Mod_lowestOf_9  ?_
  refine x_iast (pc := 10) (w2 := (w_Mod cI cB a0 a1 a2 a3 a4 a5 a6 a7 a8 a9 a10 a11 a12 a13 a14 a15 m_stepsMade m_stepsMost m_taped m_reading m_statements m_telling m_hasImage m_isKeeping m_cursor m_rowMany m_lots (uf m_refused (-x1) ((m_refused (-x1)) + 1)) m_bytes m_owner m_block m_written m_waits m_kinds m_tape m_sort m_sortAt m_told m_kept m_was m_ends m_row)) X d_Mod_lowestOf_10 1 rfl (Nat.le_of_ble_eq_true rfl) rfl rfl h (fun h => ?_)
  refine x_ldc2 (pc := 11) X d_Mod_lowestOf_11 cw_Mod_56 cg_Mod_56 ?_
  refine x_iload_n (pc := 14) X d_Mod_lowestOf_14 1 rfl rfl ?_
  refine x_i2l (pc := 15) X d_Mod_lowestOf_15 h (fun h => ?_)
  refine x_lsub (pc := 16) X d_Mod_lowestOf_16  ?_
  cases h
  exact x_lret (pc := 17) X hR d_Mod_lowestOf_17
theorem d_Mod_lost_0 : decode b_Mod_lost 0 = .ok (.iload_n 1, 1) := by decide +kernel
theorem d_Mod_lost_1 : decode b_Mod_lost 1 = .ok (.invokestatic 230, 3) := by decide +kernel
theorem d_Mod_lost_4 : decode b_Mod_lost 4 = .ok (.ifCond .ne 7, 3) := by decide +kernel
theorem d_Mod_lost_7 : decode b_Mod_lost 7 = .ok (.iconst (-1), 1) := by decide +kernel
theorem d_Mod_lost_8 : decode b_Mod_lost 8 = .ok (.goto 18, 3) := by decide +kernel
theorem d_Mod_lost_11 : decode b_Mod_lost 11 = .ok (.iload_n 2, 1) := by decide +kernel
theorem d_Mod_lost_12 : decode b_Mod_lost 12 = .ok (.iconst 0, 1) := by decide +kernel
theorem d_Mod_lost_13 : decode b_Mod_lost 13 = .ok (.iconst 1, 1) := by decide +kernel
theorem d_Mod_lost_14 : decode b_Mod_lost 14 = .ok (.invokestatic 58, 3) := by decide +kernel
theorem d_Mod_lost_17 : decode b_Mod_lost 17 = .ok (.ifCond .ne 8, 3) := by decide +kernel
theorem d_Mod_lost_20 : decode b_Mod_lost 20 = .ok (.bipush (-2), 2) := by decide +kernel
theorem d_Mod_lost_22 : decode b_Mod_lost 22 = .ok (.goto 4, 3) := by decide +kernel
theorem d_Mod_lost_25 : decode b_Mod_lost 25 = .ok (.iconst 0, 1) := by decide +kernel
theorem d_Mod_lost_26 : decode b_Mod_lost 26 = .ok (.istore_n 3, 1) := by decide +kernel
theorem d_Mod_lost_27 : decode b_Mod_lost 27 = .ok (.iload_n 3, 1) := by decide +kernel
theorem d_Mod_lost_28 : decode b_Mod_lost 28 = .ok (.ifCond .eq 9, 3) := by decide +kernel
theorem d_Mod_lost_31 : decode b_Mod_lost 31 = .ok (.aload_n 0, 1) := by decide +kernel
theorem d_Mod_lost_32 : decode b_Mod_lost 32 = .ok (.iload_n 3, 1) := by decide +kernel
theorem d_Mod_lost_33 : decode b_Mod_lost 33 = .ok (.invokevirtual 338, 3) := by decide +kernel
theorem d_Mod_lost_36 : decode b_Mod_lost 36 = .ok (.lreturn, 1) := by decide +kernel
theorem d_Mod_lost_37 : decode b_Mod_lost 37 = .ok (.aload_n 0, 1) := by decide +kernel
theorem d_Mod_lost_38 : decode b_Mod_lost 38 = .ok (.iload_n 1, 1) := by decide +kernel
theorem d_Mod_lost_39 : decode b_Mod_lost 39 = .ok (.invokevirtual 309, 3) := by decide +kernel
theorem d_Mod_lost_42 : decode b_Mod_lost 42 = .ok (.istore 4, 2) := by decide +kernel
theorem d_Mod_lost_44 : decode b_Mod_lost 44 = .ok (.lconst 0, 1) := by decide +kernel
theorem d_Mod_lost_45 : decode b_Mod_lost 45 = .ok (.lstore 5, 2) := by decide +kernel
theorem d_Mod_lost_47 : decode b_Mod_lost 47 = .ok (.iconst 0, 1) := by decide +kernel
theorem d_Mod_lost_48 : decode b_Mod_lost 48 = .ok (.istore 7, 2) := by decide +kernel
theorem d_Mod_lost_50 : decode b_Mod_lost 50 = .ok (.iload 7, 2) := by decide +kernel
theorem d_Mod_lost_52 : decode b_Mod_lost 52 = .ok (.iload 4, 2) := by decide +kernel
theorem d_Mod_lost_54 : decode b_Mod_lost 54 = .ok (.if_icmp .gt 23, 3) := by decide +kernel
theorem d_Mod_lost_57 : decode b_Mod_lost 57 = .ok (.lload 5, 2) := by decide +kernel
theorem d_Mod_lost_59 : decode b_Mod_lost 59 = .ok (.aload_n 0, 1) := by decide +kernel
theorem d_Mod_lost_60 : decode b_Mod_lost 60 = .ok (.iload_n 1, 1) := by decide +kernel
theorem d_Mod_lost_61 : decode b_Mod_lost 61 = .ok (.iload 7, 2) := by decide +kernel
theorem d_Mod_lost_63 : decode b_Mod_lost 63 = .ok (.iconst 0, 1) := by decide +kernel
theorem d_Mod_lost_64 : decode b_Mod_lost 64 = .ok (.invokevirtual 315, 3) := by decide +kernel
theorem d_Mod_lost_67 : decode b_Mod_lost 67 = .ok (.i2l, 1) := by decide +kernel
theorem d_Mod_lost_68 : decode b_Mod_lost 68 = .ok (.ladd, 1) := by decide +kernel
theorem d_Mod_lost_69 : decode b_Mod_lost 69 = .ok (.lstore 5, 2) := by decide +kernel
theorem d_Mod_lost_71 : decode b_Mod_lost 71 = .ok (.iinc 7 1, 3) := by decide +kernel
theorem d_Mod_lost_74 : decode b_Mod_lost 74 = .ok (.goto (-24), 3) := by decide +kernel
theorem d_Mod_lost_77 : decode b_Mod_lost 77 = .ok (.lload 5, 2) := by decide +kernel
theorem d_Mod_lost_79 : decode b_Mod_lost 79 = .ok (.iload 4, 2) := by decide +kernel
theorem d_Mod_lost_81 : decode b_Mod_lost 81 = .ok (.iconst 1, 1) := by decide +kernel
theorem d_Mod_lost_82 : decode b_Mod_lost 82 = .ok (.iadd, 1) := by decide +kernel
theorem d_Mod_lost_83 : decode b_Mod_lost 83 = .ok (.i2l, 1) := by decide +kernel
theorem d_Mod_lost_84 : decode b_Mod_lost 84 = .ok (.iload_n 2, 1) := by decide +kernel
theorem d_Mod_lost_85 : decode b_Mod_lost 85 = .ok (.invokestatic 342, 3) := by decide +kernel
theorem d_Mod_lost_88 : decode b_Mod_lost 88 = .ok (.lreturn, 1) := by decide +kernel
def m_Mod_lost_50 : Nat → Int → Int → Int → Int → Int → Int → Int → Int → Int → (Int → Int) → (Int → Int) → (Int → Int) → (Int → Int) → (Int → Int) → (Int → Int) → (Int → Int) → (Int → Int) → (Int → Int) → Option (Int × Int × Int × Int × Int × (Int → Int) × (Int → Int) × (Int → Int) × (Int → Int) × (Int → Int) × (Int → Int) × (Int → Int) × (Int → Int) × (Int → Int))
  | 0, _, _, _, _, _, _, _, _, _, _, _, _, _, _, _, _, _, _ => none
  | fuel + 1, v1, v2, v4, v5, v7, m_stepsMade, m_stepsMost, m_isKeeping, m_cursor, m_refused, m_bytes, m_owner, m_block, m_written, m_waits, m_kinds, m_kept, m_was =>
  cle v7 v4 (bnd (m_Mod_losesBy v1 v7 0 m_stepsMade m_stepsMost m_isKeeping m_cursor m_bytes m_owner m_block m_written m_waits m_kinds m_kept m_was) (fun r24 => gd (zr r24.1) (m_Mod_lost_50 fuel v1 v2 v4 (v5 + r24.1) (v7 + 1) r24.2.1 r24.2.2.1 r24.2.2.2.1 r24.2.2.2.2.1 m_refused r24.2.2.2.2.2.1 r24.2.2.2.2.2.2.1 r24.2.2.2.2.2.2.2.1 r24.2.2.2.2.2.2.2.2.1 r24.2.2.2.2.2.2.2.2.2.1 r24.2.2.2.2.2.2.2.2.2.2.1 r24.2.2.2.2.2.2.2.2.2.2.2.1 r24.2.2.2.2.2.2.2.2.2.2.2.2))) (gd (zr (v4 + 1)) (bnd (m_Mod_partOf v5 (v4 + 1) v2) (fun r22 => some (r22, m_stepsMade, m_stepsMost, m_isKeeping, m_cursor, m_refused, m_bytes, m_owner, m_block, m_written, m_waits, m_kinds, m_kept, m_was))))
def m_Mod_lost (x1 : Int) (x2 : Int) (m_stepsMade : Int) (m_stepsMost : Int) (m_isKeeping : Int) (m_cursor : Int) (m_refused : Int → Int) (m_bytes : Int → Int) (m_owner : Int → Int) (m_block : Int → Int) (m_written : Int → Int) (m_waits : Int → Int) (m_kinds : Int → Int) (m_kept : Int → Int) (m_was : Int → Int) : Option (Int × Int × Int × Int × Int × (Int → Int) × (Int → Int) × (Int → Int) × (Int → Int) × (Int → Int) × (Int → Int) × (Int → Int) × (Int → Int) × (Int → Int)) :=
  bnd (m_Mod_isFile x1) (fun r1 => jn (fun (z4 : Int) (z5 : Int) (z6 : Int) (c7 : Int) (c8 : Int) (c9 : Int) (c10 : Int) (c11 : Int → Int) (c12 : Int → Int) (c13 : Int → Int) (c14 : Int → Int) (c15 : Int → Int) (c16 : Int → Int) (c17 : Int → Int) (c18 : Int → Int) (c19 : Int → Int) => ceq z6 0 (bnd (m_Mod_stepsOf z4 c7 c8 c9 c10 c12 c13 c14 c15 c16 c17 c18) (fun r20 => m_Mod_lost_50 5000 z4 z5 r20.1 0 0 r20.2.1 r20.2.2.1 r20.2.2.2.1 r20.2.2.2.2.1 c11 r20.2.2.2.2.2.1 r20.2.2.2.2.2.2.1 r20.2.2.2.2.2.2.2.1 r20.2.2.2.2.2.2.2.2.1 r20.2.2.2.2.2.2.2.2.2.1 r20.2.2.2.2.2.2.2.2.2.2.1 r20.2.2.2.2.2.2.2.2.2.2.2 c19)) (bnd (m_Mod_lowestOf z6 c11) (fun r26 => some (r26.1, c7, c8, c9, c10, r26.2, c12, c13, c14, c15, c16, c17, c18, c19)))) (fun j3 => ceq r1 0 (j3 x1 x2 (-1) m_stepsMade m_stepsMost m_isKeeping m_cursor m_refused m_bytes m_owner m_block m_written m_waits m_kinds m_kept m_was) (bnd (m_Mod_isIn x2 0 1) (fun r30 => ceq r30 0 (j3 x1 x2 (-2) m_stepsMade m_stepsMost m_isKeeping m_cursor m_refused m_bytes m_owner m_block m_written m_waits m_kinds m_kept m_was) (j3 x1 x2 0 m_stepsMade m_stepsMost m_isKeeping m_cursor m_refused m_bytes m_owner m_block m_written m_waits m_kinds m_kept m_was)))))
set_option maxHeartbeats 4000000 in
set_option maxRecDepth 100000 in
theorem l_Mod_lost_50 {G : GT} {l : Launch} {D : va_G} {cI cB : ClassId} {a0 a1 a2 a3 a4 a5 a6 a7 a8 a9 a10 a11 a12 a13 a14 a15 : Nat} {m_taped : Int} {m_reading : Int} {m_statements : Int} {m_telling : Int} {m_hasImage : Int} {m_rowMany : Int} {m_lots : Int} {m_tape : Int → Int} {m_sort : Int → Int} {m_sortAt : Int → Int} {m_told : Int → Int} {m_ends : Int → Int} {m_row : Int → Int} (X : Cx G l D cI cB b_Mod_lost y_Mod_lost.cls 8 { frames := 8, cells := 0, slots := 0, locals := 191 }) : ∀ (fuel : Nat) (v1 : Int) (v2 : Int) (v4 : Int) (v5 : Int) (v7 : Int) (m_stepsMade : Int) (m_stepsMost : Int) (m_isKeeping : Int) (m_cursor : Int) (m_refused : Int → Int) (m_bytes : Int → Int) (m_owner : Int → Int) (m_block : Int → Int) (m_written : Int → Int) (m_waits : Int → Int) (m_kinds : Int → Int) (m_kept : Int → Int) (m_was : Int → Int) (o : Int × Int × Int × Int × Int × (Int → Int) × (Int → Int) × (Int → Int) × (Int → Int) × (Int → Int) × (Int → Int) × (Int → Int) × (Int → Int) × (Int → Int)), m_Mod_lost_50 fuel v1 v2 v4 v5 v7 m_stepsMade m_stepsMost m_isKeeping m_cursor m_refused m_bytes m_owner m_block m_written m_waits m_kinds m_kept m_was = some o → Rt G (some .long) (some (.long (zl o.1))) (w_Mod cI cB a0 a1 a2 a3 a4 a5 a6 a7 a8 a9 a10 a11 a12 a13 a14 a15 o.2.1 o.2.2.1 m_taped m_reading m_statements m_telling m_hasImage o.2.2.2.1 o.2.2.2.2.1 m_rowMany m_lots o.2.2.2.2.2.1 o.2.2.2.2.2.2.1 o.2.2.2.2.2.2.2.1 o.2.2.2.2.2.2.2.2.1 o.2.2.2.2.2.2.2.2.2.1 o.2.2.2.2.2.2.2.2.2.2.1 o.2.2.2.2.2.2.2.2.2.2.2.1 m_tape m_sort m_sortAt m_told o.2.2.2.2.2.2.2.2.2.2.2.2.1 o.2.2.2.2.2.2.2.2.2.2.2.2.2 m_ends m_row) → Wx G 0 0 50 [(0, .ref a0), (1, .int (zi v1)), (2, .int (zi v2)), (4, .int (zi v4)), (5, .long (zl v5)), (7, .int (zi v7))] [] (w_Mod cI cB a0 a1 a2 a3 a4 a5 a6 a7 a8 a9 a10 a11 a12 a13 a14 a15 m_stepsMade m_stepsMost m_taped m_reading m_statements m_telling m_hasImage m_isKeeping m_cursor m_rowMany m_lots m_refused m_bytes m_owner m_block m_written m_waits m_kinds m_tape m_sort m_sortAt m_told m_kept m_was m_ends m_row) := by
  intro fuel
  induction fuel with
  | zero =>
    intro v1 v2 v4 v5 v7 m_stepsMade m_stepsMost m_isKeeping m_cursor m_refused m_bytes m_owner m_block m_written m_waits m_kinds m_kept m_was o h
    exact absurd h (by simp [m_Mod_lost_50])
  | succ fuel ih =>
    intro v1 v2 v4 v5 v7 m_stepsMade m_stepsMost m_isKeeping m_cursor m_refused m_bytes m_owner m_block m_written m_waits m_kinds m_kept m_was o h hR
    rw [m_Mod_lost_50] at h
    refine x_iload (pc := 50) X d_Mod_lost_50 5 rfl ?_
    refine x_iload (pc := 52) X d_Mod_lost_52 3 rfl ?_
    refine x_icmpgt (pc := 54) (tgt := 77) X d_Mod_lost_54 rfl h (fun h => ?_) (fun h => ?_)
    · skip
      refine x_lload (pc := 77) X d_Mod_lost_77 4 rfl ?_
      refine x_iload (pc := 79) X d_Mod_lost_79 3 rfl ?_
      refine x_iconst (pc := 81) X d_Mod_lost_81  ?_
      refine x_iadd (pc := 82) X d_Mod_lost_82  ?_
      refine x_i2l (pc := 83) X d_Mod_lost_83 h (fun h => ?_)
      refine x_iload_n (pc := 84) X d_Mod_lost_84 2 rfl rfl ?_
      obtain ⟨r22, h23, h⟩ := bnd_e h
      refine x_callS (pc := 85) (As := [.long (zl v5), .long (zl (v4 + 1)), .int (zi v2)]) (rest := []) (w2 := (w_Mod cI cB a0 a1 a2 a3 a4 a5 a6 a7 a8 a9 a10 a11 a12 a13 a14 a15 m_stepsMade m_stepsMost m_taped m_reading m_statements m_telling m_hasImage m_isKeeping m_cursor m_rowMany m_lots m_refused m_bytes m_owner m_block m_written m_waits m_kinds m_tape m_sort m_sortAt m_told m_kept m_was m_ends m_row)) X d_Mod_lost_85 lk_Mod_342 mv_Mod_partOf (c_Mod_partOf l D cI cB v5 (v4 + 1) v2 h23) ⟨(Nat.le_of_ble_eq_true rfl), (Nat.le_of_ble_eq_true rfl), (Nat.le_of_ble_eq_true rfl), (Nat.le_of_ble_eq_true rfl)⟩ [] rfl rfl rfl (Up.same rfl) rfl rfl (Nat.le_of_ble_eq_true rfl) ?_
      cases h
      exact x_lret (pc := 88) X hR d_Mod_lost_88
    · skip
      refine x_lload (pc := 57) X d_Mod_lost_57 4 rfl ?_
      refine x_aload_n (pc := 59) X d_Mod_lost_59 0 rfl rfl ?_
      refine x_iload_n (pc := 60) X d_Mod_lost_60 1 rfl rfl ?_
      refine x_iload (pc := 61) X d_Mod_lost_61 5 rfl ?_
      refine x_iconst (pc := 63) X d_Mod_lost_63  ?_
      obtain ⟨r24, h25, h⟩ := bnd_e h
      refine x_callV (pc := 64) (As := [.int (zi v1), .int (zi v7), .int (zi 0)]) (rest := [.long (zl v5)]) (w2 := (w_Mod cI cB a0 a1 a2 a3 a4 a5 a6 a7 a8 a9 a10 a11 a12 a13 a14 a15 r24.2.1 r24.2.2.1 m_taped m_reading m_statements m_telling m_hasImage r24.2.2.2.1 r24.2.2.2.2.1 m_rowMany m_lots m_refused r24.2.2.2.2.2.1 r24.2.2.2.2.2.2.1 r24.2.2.2.2.2.2.2.1 r24.2.2.2.2.2.2.2.2.1 r24.2.2.2.2.2.2.2.2.2.1 r24.2.2.2.2.2.2.2.2.2.2.1 m_tape m_sort m_sortAt m_told r24.2.2.2.2.2.2.2.2.2.2.2.1 r24.2.2.2.2.2.2.2.2.2.2.2.2 m_ends m_row)) X d_Mod_lost_64 lk_Mod_315 mv_Mod_losesBy (c_Mod_losesBy l D cI cB a0 a1 a2 a3 a4 a5 a6 a7 a8 a9 a10 a11 a12 a13 a14 a15 m_stepsMade m_stepsMost m_taped m_reading m_statements m_telling m_hasImage m_isKeeping m_cursor m_rowMany m_lots m_refused m_bytes m_owner m_block m_written m_waits m_kinds m_tape m_sort m_sortAt m_told m_kept m_was m_ends m_row v1 v7 0 h25) ⟨(Nat.le_of_ble_eq_true rfl), (Nat.le_of_ble_eq_true rfl), (Nat.le_of_ble_eq_true rfl), (Nat.le_of_ble_eq_true rfl)⟩ 0 rfl rfl [0, 1, 2, 3, 4, 5, 6, 7, 8, 9, 10, 11, 12, 13, 14, 15] rfl rfl rfl (Up.of [] [] rfl rfl rfl 16 rfl (by decide +kernel)) rfl rfl (Nat.le_of_ble_eq_true rfl) ?_
      refine x_i2l (pc := 67) X d_Mod_lost_67 h (fun h => ?_)
      refine x_ladd (pc := 68) X d_Mod_lost_68  ?_
      refine x_lstore (pc := 69) (ls2 := [(5, .long (zl (v5 + r24.1))), (0, .ref a0), (1, .int (zi v1)), (2, .int (zi v2)), (4, .int (zi v4)), (7, .int (zi v7))]) X d_Mod_lost_69 (Nat.le_of_ble_eq_true rfl) rfl ?_
      refine x_iinc (pc := 71) (ls2 := [(7, .int (zi (v7 + 1))), (5, .long (zl (v5 + r24.1))), (0, .ref a0), (1, .int (zi v1)), (2, .int (zi v2)), (4, .int (zi v4))]) X d_Mod_lost_71 5 (Nat.le_of_ble_eq_true rfl) rfl rfl ?_
      refine x_goto (pc := 74) (tgt := 50) X d_Mod_lost_74 rfl ?_
      refine x_ls (ls2 := [(0, .ref a0), (1, .int (zi v1)), (2, .int (zi v2)), (4, .int (zi v4)), (5, .long (zl (v5 + r24.1))), (7, .int (zi (v7 + 1)))]) [2, 3, 4, 5, 1, 0] rfl ?_
      exact ih v1 v2 v4 (v5 + r24.1) (v7 + 1) r24.2.1 r24.2.2.1 r24.2.2.2.1 r24.2.2.2.2.1 m_refused r24.2.2.2.2.2.1 r24.2.2.2.2.2.2.1 r24.2.2.2.2.2.2.2.1 r24.2.2.2.2.2.2.2.2.1 r24.2.2.2.2.2.2.2.2.2.1 r24.2.2.2.2.2.2.2.2.2.2.1 r24.2.2.2.2.2.2.2.2.2.2.2.1 r24.2.2.2.2.2.2.2.2.2.2.2.2 o h hR
set_option maxHeartbeats 4000000 in
set_option maxRecDepth 100000 in
theorem c_Mod_lost (l : Launch) (D : va_G) (cI cB : ClassId) (a0 a1 a2 a3 a4 a5 a6 a7 a8 a9 a10 a11 a12 a13 a14 a15 : Nat) (m_stepsMade : Int) (m_stepsMost : Int) (m_taped : Int) (m_reading : Int) (m_statements : Int) (m_telling : Int) (m_hasImage : Int) (m_isKeeping : Int) (m_cursor : Int) (m_rowMany : Int) (m_lots : Int) (m_refused : Int → Int) (m_bytes : Int → Int) (m_owner : Int → Int) (m_block : Int → Int) (m_written : Int → Int) (m_waits : Int → Int) (m_kinds : Int → Int) (m_tape : Int → Int) (m_sort : Int → Int) (m_sortAt : Int → Int) (m_told : Int → Int) (m_kept : Int → Int) (m_was : Int → Int) (m_ends : Int → Int) (m_row : Int → Int) (x1 : Int) (x2 : Int) {o : Int × Int × Int × Int × Int × (Int → Int) × (Int → Int) × (Int → Int) × (Int → Int) × (Int → Int) × (Int → Int) × (Int → Int) × (Int → Int) × (Int → Int)} (h : m_Mod_lost x1 x2 m_stepsMade m_stepsMost m_isKeeping m_cursor m_refused m_bytes m_owner m_block m_written m_waits m_kinds m_kept m_was = some o) : Ct l D cI cB y_Mod_lost b_Mod_lost 8 (some .long) { frames := 8, cells := 0, slots := 0, locals := 191 } [.ref a0, .int (zi x1), .int (zi x2)] (w_Mod cI cB a0 a1 a2 a3 a4 a5 a6 a7 a8 a9 a10 a11 a12 a13 a14 a15 m_stepsMade m_stepsMost m_taped m_reading m_statements m_telling m_hasImage m_isKeeping m_cursor m_rowMany m_lots m_refused m_bytes m_owner m_block m_written m_waits m_kinds m_tape m_sort m_sortAt m_told m_kept m_was m_ends m_row) (w_Mod cI cB a0 a1 a2 a3 a4 a5 a6 a7 a8 a9 a10 a11 a12 a13 a14 a15 o.2.1 o.2.2.1 m_taped m_reading m_statements m_telling m_hasImage o.2.2.2.1 o.2.2.2.2.1 m_rowMany m_lots o.2.2.2.2.2.1 o.2.2.2.2.2.2.1 o.2.2.2.2.2.2.2.1 o.2.2.2.2.2.2.2.2.1 o.2.2.2.2.2.2.2.2.2.1 o.2.2.2.2.2.2.2.2.2.2.1 o.2.2.2.2.2.2.2.2.2.2.2.1 m_tape m_sort m_sortAt m_told o.2.2.2.2.2.2.2.2.2.2.2.2.1 o.2.2.2.2.2.2.2.2.2.2.2.2.2 m_ends m_row) (some (.long (zl o.1))) := by
  refine Ct.start (by decide) (Nat.le_of_ble_eq_true rfl) (fun G X hR => ?_)
  refine x_ls (ls2 := [(0, .ref a0), (1, .int (zi x1)), (2, .int (zi x2))]) [0, 1, 2] rfl ?_
  unfold m_Mod_lost at h
  refine x_iload_n (pc := 0) X d_Mod_lost_0 1 rfl rfl ?_
  obtain ⟨r1, h2, h⟩ := bnd_e h
  refine x_callS (pc := 1) (As := [.int (zi x1)]) (rest := []) (w2 := (w_Mod cI cB a0 a1 a2 a3 a4 a5 a6 a7 a8 a9 a10 a11 a12 a13 a14 a15 m_stepsMade m_stepsMost m_taped m_reading m_statements m_telling m_hasImage m_isKeeping m_cursor m_rowMany m_lots m_refused m_bytes m_owner m_block m_written m_waits m_kinds m_tape m_sort m_sortAt m_told m_kept m_was m_ends m_row)) X d_Mod_lost_1 lk_Mod_230 mv_Mod_isFile (c_Mod_isFile l D cI cB x1 h2) ⟨(Nat.le_of_ble_eq_true rfl), (Nat.le_of_ble_eq_true rfl), (Nat.le_of_ble_eq_true rfl), (Nat.le_of_ble_eq_true rfl)⟩ [] rfl rfl rfl (Up.same rfl) rfl rfl (Nat.le_of_ble_eq_true rfl) ?_
  obtain ⟨j3, hj28, h⟩ := jn_e h
  have J29 : ∀ (z4 : Int) (z5 : Int) (z6 : Int) (c7 : Int) (c8 : Int) (c9 : Int) (c10 : Int) (c11 : Int → Int) (c12 : Int → Int) (c13 : Int → Int) (c14 : Int → Int) (c15 : Int → Int) (c16 : Int → Int) (c17 : Int → Int) (c18 : Int → Int) (c19 : Int → Int), j3 z4 z5 z6 c7 c8 c9 c10 c11 c12 c13 c14 c15 c16 c17 c18 c19 = some o → Wx G 0 0 26 [(0, .ref a0), (1, .int (zi z4)), (2, .int (zi z5))] [.int (zi z6)] (w_Mod cI cB a0 a1 a2 a3 a4 a5 a6 a7 a8 a9 a10 a11 a12 a13 a14 a15 c7 c8 m_taped m_reading m_statements m_telling m_hasImage c9 c10 m_rowMany m_lots c11 c12 c13 c14 c15 c16 c17 m_tape m_sort m_sortAt m_told c18 c19 m_ends m_row) := by
    intro z4 z5 z6 c7 c8 c9 c10 c11 c12 c13 c14 c15 c16 c17 c18 c19 h
    rw [hj28] at h
    (try dsimp only at h)
    refine x_istore_n (pc := 26) (ls2 := [(3, .int (zi z6)), (0, .ref a0), (1, .int (zi z4)), (2, .int (zi z5))]) X d_Mod_lost_26 rfl (Nat.le_of_ble_eq_true rfl) rfl ?_
    refine x_iload_n (pc := 27) X d_Mod_lost_27 0 rfl rfl ?_
    refine x_ifeq (pc := 28) (tgt := 37) X d_Mod_lost_28 rfl h (fun h => ?_) (fun h => ?_)
    · skip
      refine x_aload_n (pc := 37) X d_Mod_lost_37 1 rfl rfl ?_
      refine x_iload_n (pc := 38) X d_Mod_lost_38 2 rfl rfl ?_
      obtain ⟨r20, h21, h⟩ := bnd_e h
      refine x_callV (pc := 39) (As := [.int (zi z4)]) (rest := []) (w2 := (w_Mod cI cB a0 a1 a2 a3 a4 a5 a6 a7 a8 a9 a10 a11 a12 a13 a14 a15 r20.2.1 r20.2.2.1 m_taped m_reading m_statements m_telling m_hasImage r20.2.2.2.1 r20.2.2.2.2.1 m_rowMany m_lots c11 r20.2.2.2.2.2.1 r20.2.2.2.2.2.2.1 r20.2.2.2.2.2.2.2.1 r20.2.2.2.2.2.2.2.2.1 r20.2.2.2.2.2.2.2.2.2.1 r20.2.2.2.2.2.2.2.2.2.2.1 m_tape m_sort m_sortAt m_told r20.2.2.2.2.2.2.2.2.2.2.2 c19 m_ends m_row)) X d_Mod_lost_39 lk_Mod_309 mv_Mod_stepsOf (c_Mod_stepsOf l D cI cB a0 a1 a2 a3 a4 a5 a6 a7 a8 a9 a10 a11 a12 a13 a14 a15 c7 c8 m_taped m_reading m_statements m_telling m_hasImage c9 c10 m_rowMany m_lots c11 c12 c13 c14 c15 c16 c17 m_tape m_sort m_sortAt m_told c18 c19 m_ends m_row z4 h21) ⟨(Nat.le_of_ble_eq_true rfl), (Nat.le_of_ble_eq_true rfl), (Nat.le_of_ble_eq_true rfl), (Nat.le_of_ble_eq_true rfl)⟩ 0 rfl rfl [0, 1, 2, 3, 4, 5, 6, 7, 8, 9, 10, 11, 12, 13, 14, 15] rfl rfl rfl (Up.of [] [] rfl rfl rfl 16 rfl (by decide +kernel)) rfl rfl (Nat.le_of_ble_eq_true rfl) ?_
      refine x_istore (pc := 42) (ls2 := [(4, .int (zi r20.1)), (3, .int (zi z6)), (0, .ref a0), (1, .int (zi z4)), (2, .int (zi z5))]) X d_Mod_lost_42 (Nat.le_of_ble_eq_true rfl) rfl ?_
      refine x_lconst (pc := 44) (x := 0) X d_Mod_lost_44 rfl ?_
      refine x_lstore (pc := 45) (ls2 := [(5, .long (zl 0)), (4, .int (zi r20.1)), (3, .int (zi z6)), (0, .ref a0), (1, .int (zi z4)), (2, .int (zi z5))]) X d_Mod_lost_45 (Nat.le_of_ble_eq_true rfl) rfl ?_
      refine x_iconst (pc := 47) X d_Mod_lost_47  ?_
      refine x_istore (pc := 48) (ls2 := [(7, .int (zi 0)), (5, .long (zl 0)), (4, .int (zi r20.1)), (3, .int (zi z6)), (0, .ref a0), (1, .int (zi z4)), (2, .int (zi z5))]) X d_Mod_lost_48 (Nat.le_of_ble_eq_true rfl) rfl ?_
      refine x_ls (ls2 := [(0, .ref a0), (1, .int (zi z4)), (2, .int (zi z5)), (4, .int (zi r20.1)), (5, .long (zl 0)), (7, .int (zi 0))]) [4, 5, 6, 2, 1, 0] rfl ?_
      exact l_Mod_lost_50 X 5000 z4 z5 r20.1 0 0 r20.2.1 r20.2.2.1 r20.2.2.2.1 r20.2.2.2.2.1 c11 r20.2.2.2.2.2.1 r20.2.2.2.2.2.2.1 r20.2.2.2.2.2.2.2.1 r20.2.2.2.2.2.2.2.2.1 r20.2.2.2.2.2.2.2.2.2.1 r20.2.2.2.2.2.2.2.2.2.2.1 r20.2.2.2.2.2.2.2.2.2.2.2 c19 o h hR
    · skip
      refine x_aload_n (pc := 31) X d_Mod_lost_31 1 rfl rfl ?_
      refine x_iload_n (pc := 32) X d_Mod_lost_32 0 rfl rfl ?_
      obtain ⟨r26, h27, h⟩ := bnd_e h
      refine x_callV (pc := 33) (As := [.int (zi z6)]) (rest := []) (w2 := (w_Mod cI cB a0 a1 a2 a3 a4 a5 a6 a7 a8 a9 a10 a11 a12 a13 a14 a15 c7 c8 m_taped m_reading m_statements m_telling m_hasImage c9 c10 m_rowMany m_lots r26.2 c12 c13 c14 c15 c16 c17 m_tape m_sort m_sortAt m_told c18 c19 m_ends m_row)) X d_Mod_lost_33 lk_Mod_338 mv_Mod_lowestOf (c_Mod_lowestOf l D cI cB a0 a1 a2 a3 a4 a5 a6 a7 a8 a9 a10 a11 a12 a13 a14 a15 c7 c8 m_taped m_reading m_statements m_telling m_hasImage c9 c10 m_rowMany m_lots c11 c12 c13 c14 c15 c16 c17 m_tape m_sort m_sortAt m_told c18 c19 m_ends m_row z6 h27) ⟨(Nat.le_of_ble_eq_true rfl), (Nat.le_of_ble_eq_true rfl), (Nat.le_of_ble_eq_true rfl), (Nat.le_of_ble_eq_true rfl)⟩ 0 rfl rfl [0, 1, 2, 3, 4, 5, 6, 7, 8, 9, 10, 11, 12, 13, 14, 15] rfl rfl rfl (Up.of [] [] rfl rfl rfl 16 rfl (by decide +kernel)) rfl rfl (Nat.le_of_ble_eq_true rfl) ?_
      cases h
      exact x_lret (pc := 36) X hR d_Mod_lost_36
  clear hj28
  refine x_ifne (pc := 4) (tgt := 11) X d_Mod_lost_4 rfl h (fun h => ?_) (fun h => ?_)
  · skip
    refine x_iload_n (pc := 11) X d_Mod_lost_11 2 rfl rfl ?_
    refine x_iconst (pc := 12) X d_Mod_lost_12  ?_
    refine x_iconst (pc := 13) X d_Mod_lost_13  ?_
    obtain ⟨r30, h31, h⟩ := bnd_e h
    refine x_callS (pc := 14) (As := [.int (zi x2), .int (zi 0), .int (zi 1)]) (rest := []) (w2 := (w_Mod cI cB a0 a1 a2 a3 a4 a5 a6 a7 a8 a9 a10 a11 a12 a13 a14 a15 m_stepsMade m_stepsMost m_taped m_reading m_statements m_telling m_hasImage m_isKeeping m_cursor m_rowMany m_lots m_refused m_bytes m_owner m_block m_written m_waits m_kinds m_tape m_sort m_sortAt m_told m_kept m_was m_ends m_row)) X d_Mod_lost_14 lk_Mod_58 mv_Mod_isIn (c_Mod_isIn l D cI cB x2 0 1 h31) ⟨(Nat.le_of_ble_eq_true rfl), (Nat.le_of_ble_eq_true rfl), (Nat.le_of_ble_eq_true rfl), (Nat.le_of_ble_eq_true rfl)⟩ [] rfl rfl rfl (Up.same rfl) rfl rfl (Nat.le_of_ble_eq_true rfl) ?_
    refine x_ifne (pc := 17) (tgt := 25) X d_Mod_lost_17 rfl h (fun h => ?_) (fun h => ?_)
    · skip
      refine x_iconst (pc := 25) X d_Mod_lost_25  ?_
      exact J29 x1 x2 0 m_stepsMade m_stepsMost m_isKeeping m_cursor m_refused m_bytes m_owner m_block m_written m_waits m_kinds m_kept m_was h
    · skip
      refine x_bipush (pc := 20) (v := -2) X d_Mod_lost_20 rfl ?_
      refine x_goto (pc := 22) (tgt := 26) X d_Mod_lost_22 rfl ?_
      exact J29 x1 x2 (-2) m_stepsMade m_stepsMost m_isKeeping m_cursor m_refused m_bytes m_owner m_block m_written m_waits m_kinds m_kept m_was h
  · skip
    refine x_iconst (pc := 7) X d_Mod_lost_7  ?_
    refine x_goto (pc := 8) (tgt := 26) X d_Mod_lost_8 rfl ?_
    exact J29 x1 x2 (-1) m_stepsMade m_stepsMost m_isKeeping m_cursor m_refused m_bytes m_owner m_block m_written m_waits m_kinds m_kept m_was h
theorem d_Mod_isReadSo_0 : decode b_Mod_isReadSo 0 = .ok (.aload_n 0, 1) := by decide +kernel
theorem d_Mod_isReadSo_1 : decode b_Mod_isReadSo 1 = .ok (.iload_n 2, 1) := by decide +kernel
theorem d_Mod_isReadSo_2 : decode b_Mod_isReadSo 2 = .ok (.invokevirtual 282, 3) := by decide +kernel
theorem d_Mod_isReadSo_5 : decode b_Mod_isReadSo 5 = .ok (.istore 4, 2) := by decide +kernel
theorem d_Mod_isReadSo_7 : decode b_Mod_isReadSo 7 = .ok (.aload_n 0, 1) := by decide +kernel
theorem d_Mod_isReadSo_8 : decode b_Mod_isReadSo 8 = .ok (.invokevirtual 291, 3) := by decide +kernel
theorem d_Mod_isReadSo_11 : decode b_Mod_isReadSo 11 = .ok (.aload_n 0, 1) := by decide +kernel
theorem d_Mod_isReadSo_12 : decode b_Mod_isReadSo 12 = .ok (.iload_n 1, 1) := by decide +kernel
theorem d_Mod_isReadSo_13 : decode b_Mod_isReadSo 13 = .ok (.iload_n 3, 1) := by decide +kernel
theorem d_Mod_isReadSo_14 : decode b_Mod_isReadSo 14 = .ok (.invokevirtual 227, 3) := by decide +kernel
theorem d_Mod_isReadSo_17 : decode b_Mod_isReadSo 17 = .ok (.pop, 1) := by decide +kernel
theorem d_Mod_isReadSo_18 : decode b_Mod_isReadSo 18 = .ok (.aload_n 0, 1) := by decide +kernel
theorem d_Mod_isReadSo_19 : decode b_Mod_isReadSo 19 = .ok (.iload_n 2, 1) := by decide +kernel
theorem d_Mod_isReadSo_20 : decode b_Mod_isReadSo 20 = .ok (.invokevirtual 282, 3) := by decide +kernel
theorem d_Mod_isReadSo_23 : decode b_Mod_isReadSo 23 = .ok (.iload 4, 2) := by decide +kernel
theorem d_Mod_isReadSo_25 : decode b_Mod_isReadSo 25 = .ok (.if_icmp .ne 7, 3) := by decide +kernel
theorem d_Mod_isReadSo_28 : decode b_Mod_isReadSo 28 = .ok (.iconst 1, 1) := by decide +kernel
theorem d_Mod_isReadSo_29 : decode b_Mod_isReadSo 29 = .ok (.goto 4, 3) := by decide +kernel
theorem d_Mod_isReadSo_32 : decode b_Mod_isReadSo 32 = .ok (.iconst 0, 1) := by decide +kernel
theorem d_Mod_isReadSo_33 : decode b_Mod_isReadSo 33 = .ok (.istore 5, 2) := by decide +kernel
theorem d_Mod_isReadSo_35 : decode b_Mod_isReadSo 35 = .ok (.aload_n 0, 1) := by decide +kernel
theorem d_Mod_isReadSo_36 : decode b_Mod_isReadSo 36 = .ok (.invokevirtual 294, 3) := by decide +kernel
theorem d_Mod_isReadSo_39 : decode b_Mod_isReadSo 39 = .ok (.iload 5, 2) := by decide +kernel
theorem d_Mod_isReadSo_41 : decode b_Mod_isReadSo 41 = .ok (.ireturn, 1) := by decide +kernel
def m_Mod_isReadSo (x1 : Int) (x2 : Int) (x3 : Int) (m_stepsMade : Int) (m_stepsMost : Int) (m_isKeeping : Int) (m_cursor : Int) (m_bytes : Int → Int) (m_owner : Int → Int) (m_block : Int → Int) (m_written : Int → Int) (m_waits : Int → Int) (m_kinds : Int → Int) (m_kept : Int → Int) : Option (Int × Int × Int × Int × Int × (Int → Int) × (Int → Int) × (Int → Int) × (Int → Int) × (Int → Int) × (Int → Int) × (Int → Int)) :=
  bnd (m_Mod_readAt x2 m_bytes m_block m_written m_waits) (fun r1 => bnd (m_Mod_minds m_isKeeping m_cursor m_bytes m_owner m_block m_written m_waits m_kinds m_kept) (fun r3 => bnd (m_Mod_crashes x1 x3 m_stepsMade m_stepsMost r3.2.2.1 r3.2.2.2.1 r3.2.2.2.2.1 r3.2.2.2.2.2.1 r3.2.2.2.2.2.2.1 r3.2.2.2.2.2.2.2.1) (fun r5 => bnd (m_Mod_readAt x2 r5.2.2.2.1 r5.2.2.2.2.2.1 r5.2.2.2.2.2.2.1 r5.2.2.2.2.2.2.2) (fun r7 => jn (fun (z10 : Int) (c11 : Int) (c12 : Int) (c13 : Int) (c14 : Int) (c15 : Int → Int) (c16 : Int → Int) (c17 : Int → Int) (c18 : Int → Int) (c19 : Int → Int) (c20 : Int → Int) (c21 : Int → Int) => bnd (m_Mod_forgets c13 c14 c15 c16 c17 c18 c19 c20 c21) (fun r22 => gd (zb z10) (some (z10, c11, c12, r22.1, r22.2.1, r22.2.2.1, r22.2.2.2.1, r22.2.2.2.2.1, r22.2.2.2.2.2.1, r22.2.2.2.2.2.2.1, r22.2.2.2.2.2.2.2.1, r22.2.2.2.2.2.2.2.2)))) (fun j9 => ceq r7 r1 (j9 1 r5.2.1 r5.2.2.1 r3.1 r3.2.1 r5.2.2.2.1 r5.2.2.2.2.1 r5.2.2.2.2.2.1 r5.2.2.2.2.2.2.1 r5.2.2.2.2.2.2.2 r3.2.2.2.2.2.2.2.1 r3.2.2.2.2.2.2.2.2) (j9 0 r5.2.1 r5.2.2.1 r3.1 r3.2.1 r5.2.2.2.1 r5.2.2.2.2.1 r5.2.2.2.2.2.1 r5.2.2.2.2.2.2.1 r5.2.2.2.2.2.2.2 r3.2.2.2.2.2.2.2.1 r3.2.2.2.2.2.2.2.2))))))
set_option maxHeartbeats 4000000 in
set_option maxRecDepth 100000 in
theorem c_Mod_isReadSo (l : Launch) (D : va_G) (cI cB : ClassId) (a0 a1 a2 a3 a4 a5 a6 a7 a8 a9 a10 a11 a12 a13 a14 a15 : Nat) (m_stepsMade : Int) (m_stepsMost : Int) (m_taped : Int) (m_reading : Int) (m_statements : Int) (m_telling : Int) (m_hasImage : Int) (m_isKeeping : Int) (m_cursor : Int) (m_rowMany : Int) (m_lots : Int) (m_refused : Int → Int) (m_bytes : Int → Int) (m_owner : Int → Int) (m_block : Int → Int) (m_written : Int → Int) (m_waits : Int → Int) (m_kinds : Int → Int) (m_tape : Int → Int) (m_sort : Int → Int) (m_sortAt : Int → Int) (m_told : Int → Int) (m_kept : Int → Int) (m_was : Int → Int) (m_ends : Int → Int) (m_row : Int → Int) (x1 : Int) (x2 : Int) (x3 : Int) {o : Int × Int × Int × Int × Int × (Int → Int) × (Int → Int) × (Int → Int) × (Int → Int) × (Int → Int) × (Int → Int) × (Int → Int)} (h : m_Mod_isReadSo x1 x2 x3 m_stepsMade m_stepsMost m_isKeeping m_cursor m_bytes m_owner m_block m_written m_waits m_kinds m_kept = some o) : Ct l D cI cB y_Mod_isReadSo b_Mod_isReadSo 6 (some .boolean) { frames := 7, cells := 0, slots := 0, locals := 166 } [.ref a0, .int (zi x1), .int (zi x2), .int (zi x3)] (w_Mod cI cB a0 a1 a2 a3 a4 a5 a6 a7 a8 a9 a10 a11 a12 a13 a14 a15 m_stepsMade m_stepsMost m_taped m_reading m_statements m_telling m_hasImage m_isKeeping m_cursor m_rowMany m_lots m_refused m_bytes m_owner m_block m_written m_waits m_kinds m_tape m_sort m_sortAt m_told m_kept m_was m_ends m_row) (w_Mod cI cB a0 a1 a2 a3 a4 a5 a6 a7 a8 a9 a10 a11 a12 a13 a14 a15 o.2.1 o.2.2.1 m_taped m_reading m_statements m_telling m_hasImage o.2.2.2.1 o.2.2.2.2.1 m_rowMany m_lots m_refused o.2.2.2.2.2.1 o.2.2.2.2.2.2.1 o.2.2.2.2.2.2.2.1 o.2.2.2.2.2.2.2.2.1 o.2.2.2.2.2.2.2.2.2.1 o.2.2.2.2.2.2.2.2.2.2.1 m_tape m_sort m_sortAt m_told o.2.2.2.2.2.2.2.2.2.2.2 m_was m_ends m_row) (some (.int (zi o.1))) := by
  refine Ct.start (by decide) (Nat.le_of_ble_eq_true rfl) (fun G X hR => ?_)
  refine x_ls (ls2 := [(0, .ref a0), (1, .int (zi x1)), (2, .int (zi x2)), (3, .int (zi x3))]) [0, 1, 2, 3] rfl ?_
  unfold m_Mod_isReadSo at h
  refine x_aload_n (pc := 0) X d_Mod_isReadSo_0 0 rfl rfl ?_
  refine x_iload_n (pc := 1) X d_Mod_isReadSo_1 2 rfl rfl ?_
  obtain ⟨r1, h2, h⟩ := bnd_e h
  refine x_callV (pc := 2) (As := [.int (zi x2)]) (rest := []) (w2 := (w_Mod cI cB a0 a1 a2 a3 a4 a5 a6 a7 a8 a9 a10 a11 a12 a13 a14 a15 m_stepsMade m_stepsMost m_taped m_reading m_statements m_telling m_hasImage m_isKeeping m_cursor m_rowMany m_lots m_refused m_bytes m_owner m_block m_written m_waits m_kinds m_tape m_sort m_sortAt m_told m_kept m_was m_ends m_row)) X d_Mod_isReadSo_2 lk_Mod_282 mv_Mod_readAt (c_Mod_readAt l D cI cB a0 a1 a2 a3 a4 a5 a6 a7 a8 a9 a10 a11 a12 a13 a14 a15 m_stepsMade m_stepsMost m_taped m_reading m_statements m_telling m_hasImage m_isKeeping m_cursor m_rowMany m_lots m_refused m_bytes m_owner m_block m_written m_waits m_kinds m_tape m_sort m_sortAt m_told m_kept m_was m_ends m_row x2 h2) ⟨(Nat.le_of_ble_eq_true rfl), (Nat.le_of_ble_eq_true rfl), (Nat.le_of_ble_eq_true rfl), (Nat.le_of_ble_eq_true rfl)⟩ 0 rfl rfl [0, 1, 2, 3, 4, 5, 6, 7, 8, 9, 10, 11, 12, 13, 14, 15] rfl rfl rfl (Up.same rfl) rfl rfl (Nat.le_of_ble_eq_true rfl) ?_
  refine x_istore (pc := 5) (ls2 := [(4, .int (zi r1)), (0, .ref a0), (1, .int (zi x1)), (2, .int (zi x2)), (3, .int (zi x3))]) X d_Mod_isReadSo_5 (Nat.le_of_ble_eq_true rfl) rfl ?_
  refine x_aload_n (pc := 7) X d_Mod_isReadSo_7 1 rfl rfl ?_
  obtain ⟨r3, h4, h⟩ := bnd_e h
  refine x_callV (pc := 8) (As := []) (rest := []) (w2 := (w_Mod cI cB a0 a1 a2 a3 a4 a5 a6 a7 a8 a9 a10 a11 a12 a13 a14 a15 m_stepsMade m_stepsMost m_taped m_reading m_statements m_telling m_hasImage r3.1 r3.2.1 m_rowMany m_lots m_refused r3.2.2.1 r3.2.2.2.1 r3.2.2.2.2.1 r3.2.2.2.2.2.1 r3.2.2.2.2.2.2.1 r3.2.2.2.2.2.2.2.1 m_tape m_sort m_sortAt m_told r3.2.2.2.2.2.2.2.2 m_was m_ends m_row)) X d_Mod_isReadSo_8 lk_Mod_291 mv_Mod_minds (c_Mod_minds l D cI cB a0 a1 a2 a3 a4 a5 a6 a7 a8 a9 a10 a11 a12 a13 a14 a15 m_stepsMade m_stepsMost m_taped m_reading m_statements m_telling m_hasImage m_isKeeping m_cursor m_rowMany m_lots m_refused m_bytes m_owner m_block m_written m_waits m_kinds m_tape m_sort m_sortAt m_told m_kept m_was m_ends m_row h4) ⟨(Nat.le_of_ble_eq_true rfl), (Nat.le_of_ble_eq_true rfl), (Nat.le_of_ble_eq_true rfl), (Nat.le_of_ble_eq_true rfl)⟩ 0 rfl rfl [0, 1, 2, 3, 4, 5, 6, 7, 8, 9, 10, 11, 12, 13, 14, 15] rfl rfl rfl (Up.of [] [] rfl rfl rfl 16 rfl (by decide +kernel)) rfl rfl (Nat.le_of_ble_eq_true rfl) ?_
  refine x_aload_n (pc := 11) X d_Mod_isReadSo_11 1 rfl rfl ?_
  refine x_iload_n (pc := 12) X d_Mod_isReadSo_12 2 rfl rfl ?_
  refine x_iload_n (pc := 13) X d_Mod_isReadSo_13 4 rfl rfl ?_
  obtain ⟨r5, h6, h⟩ := bnd_e h
  refine x_callV (pc := 14) (As := [.int (zi x1), .int (zi x3)]) (rest := []) (w2 := (w_Mod cI cB a0 a1 a2 a3 a4 a5 a6 a7 a8 a9 a10 a11 a12 a13 a14 a15 r5.2.1 r5.2.2.1 m_taped m_reading m_statements m_telling m_hasImage r3.1 r3.2.1 m_rowMany m_lots m_refused r5.2.2.2.1 r5.2.2.2.2.1 r5.2.2.2.2.2.1 r5.2.2.2.2.2.2.1 r5.2.2.2.2.2.2.2 r3.2.2.2.2.2.2.2.1 m_tape m_sort m_sortAt m_told r3.2.2.2.2.2.2.2.2 m_was m_ends m_row)) X d_Mod_isReadSo_14 lk_Mod_227 mv_Mod_crashes (c_Mod_crashes l D cI cB a0 a1 a2 a3 a4 a5 a6 a7 a8 a9 a10 a11 a12 a13 a14 a15 m_stepsMade m_stepsMost m_taped m_reading m_statements m_telling m_hasImage r3.1 r3.2.1 m_rowMany m_lots m_refused r3.2.2.1 r3.2.2.2.1 r3.2.2.2.2.1 r3.2.2.2.2.2.1 r3.2.2.2.2.2.2.1 r3.2.2.2.2.2.2.2.1 m_tape m_sort m_sortAt m_told r3.2.2.2.2.2.2.2.2 m_was m_ends m_row x1 x3 h6) ⟨(Nat.le_of_ble_eq_true rfl), (Nat.le_of_ble_eq_true rfl), (Nat.le_of_ble_eq_true rfl), (Nat.le_of_ble_eq_true rfl)⟩ 0 rfl rfl [0, 1, 2, 3, 4, 5, 6, 7, 8, 9, 10, 11, 12, 13, 14, 15] rfl rfl rfl (Up.of [] [] rfl rfl rfl 16 rfl (by decide +kernel)) rfl rfl (Nat.le_of_ble_eq_true rfl) ?_
  refine x_pop (pc := 17) X d_Mod_isReadSo_17 rfl ?_
  refine x_aload_n (pc := 18) X d_Mod_isReadSo_18 1 rfl rfl ?_
  refine x_iload_n (pc := 19) X d_Mod_isReadSo_19 3 rfl rfl ?_
  obtain ⟨r7, h8, h⟩ := bnd_e h
  refine x_callV (pc := 20) (As := [.int (zi x2)]) (rest := []) (w2 := (w_Mod cI cB a0 a1 a2 a3 a4 a5 a6 a7 a8 a9 a10 a11 a12 a13 a14 a15 r5.2.1 r5.2.2.1 m_taped m_reading m_statements m_telling m_hasImage r3.1 r3.2.1 m_rowMany m_lots m_refused r5.2.2.2.1 r5.2.2.2.2.1 r5.2.2.2.2.2.1 r5.2.2.2.2.2.2.1 r5.2.2.2.2.2.2.2 r3.2.2.2.2.2.2.2.1 m_tape m_sort m_sortAt m_told r3.2.2.2.2.2.2.2.2 m_was m_ends m_row)) X d_Mod_isReadSo_20 lk_Mod_282 mv_Mod_readAt (c_Mod_readAt l D cI cB a0 a1 a2 a3 a4 a5 a6 a7 a8 a9 a10 a11 a12 a13 a14 a15 r5.2.1 r5.2.2.1 m_taped m_reading m_statements m_telling m_hasImage r3.1 r3.2.1 m_rowMany m_lots m_refused r5.2.2.2.1 r5.2.2.2.2.1 r5.2.2.2.2.2.1 r5.2.2.2.2.2.2.1 r5.2.2.2.2.2.2.2 r3.2.2.2.2.2.2.2.1 m_tape m_sort m_sortAt m_told r3.2.2.2.2.2.2.2.2 m_was m_ends m_row x2 h8) ⟨(Nat.le_of_ble_eq_true rfl), (Nat.le_of_ble_eq_true rfl), (Nat.le_of_ble_eq_true rfl), (Nat.le_of_ble_eq_true rfl)⟩ 0 rfl rfl [0, 1, 2, 3, 4, 5, 6, 7, 8, 9, 10, 11, 12, 13, 14, 15] rfl rfl rfl (Up.same rfl) rfl rfl (Nat.le_of_ble_eq_true rfl) ?_
  refine x_iload (pc := 23) X d_Mod_isReadSo_23 0 rfl ?_
  obtain ⟨j9, hj24, h⟩ := jn_e h
  have J25 : ∀ (z10 : Int) (c11 : Int) (c12 : Int) (c13 : Int) (c14 : Int) (c15 : Int → Int) (c16 : Int → Int) (c17 : Int → Int) (c18 : Int → Int) (c19 : Int → Int) (c20 : Int → Int) (c21 : Int → Int), j9 z10 c11 c12 c13 c14 c15 c16 c17 c18 c19 c20 c21 = some o → Wx G 0 0 33 [(0, .ref a0)] [.int (zi z10)] (w_Mod cI cB a0 a1 a2 a3 a4 a5 a6 a7 a8 a9 a10 a11 a12 a13 a14 a15 c11 c12 m_taped m_reading m_statements m_telling m_hasImage c13 c14 m_rowMany m_lots m_refused c15 c16 c17 c18 c19 c20 m_tape m_sort m_sortAt m_told c21 m_was m_ends m_row) := by
    intro z10 c11 c12 c13 c14 c15 c16 c17 c18 c19 c20 c21 h
    rw [hj24] at h
    (try dsimp only at h)
    refine x_istore (pc := 33) (ls2 := [(5, .int (zi z10)), (0, .ref a0)]) X d_Mod_isReadSo_33 (Nat.le_of_ble_eq_true rfl) rfl ?_
    refine x_aload_n (pc := 35) X d_Mod_isReadSo_35 1 rfl rfl ?_
    obtain ⟨r22, h23, h⟩ := bnd_e h
    refine x_callV (pc := 36) (As := []) (rest := []) (w2 := (w_Mod cI cB a0 a1 a2 a3 a4 a5 a6 a7 a8 a9 a10 a11 a12 a13 a14 a15 c11 c12 m_taped m_reading m_statements m_telling m_hasImage r22.1 r22.2.1 m_rowMany m_lots m_refused r22.2.2.1 r22.2.2.2.1 r22.2.2.2.2.1 r22.2.2.2.2.2.1 r22.2.2.2.2.2.2.1 r22.2.2.2.2.2.2.2.1 m_tape m_sort m_sortAt m_told r22.2.2.2.2.2.2.2.2 m_was m_ends m_row)) X d_Mod_isReadSo_36 lk_Mod_294 mv_Mod_forgets (c_Mod_forgets l D cI cB a0 a1 a2 a3 a4 a5 a6 a7 a8 a9 a10 a11 a12 a13 a14 a15 c11 c12 m_taped m_reading m_statements m_telling m_hasImage c13 c14 m_rowMany m_lots m_refused c15 c16 c17 c18 c19 c20 m_tape m_sort m_sortAt m_told c21 m_was m_ends m_row h23) ⟨(Nat.le_of_ble_eq_true rfl), (Nat.le_of_ble_eq_true rfl), (Nat.le_of_ble_eq_true rfl), (Nat.le_of_ble_eq_true rfl)⟩ 0 rfl rfl [0, 1, 2, 3, 4, 5, 6, 7, 8, 9, 10, 11, 12, 13, 14, 15] rfl rfl rfl (Up.of [] [] rfl rfl rfl 16 rfl (by decide +kernel)) rfl rfl (Nat.le_of_ble_eq_true rfl) ?_
    refine x_iload (pc := 39) X d_Mod_isReadSo_39 0 rfl ?_
    obtain ⟨hz0, h⟩ := gd_e h
    cases h
    exact x_zret (pc := 41) X hR d_Mod_isReadSo_41 hz0
  clear hj24
  refine x_icmpne (pc := 25) (tgt := 32) X d_Mod_isReadSo_25 rfl h (fun h => ?_) (fun h => ?_)
  · skip
    refine x_iconst (pc := 32) X d_Mod_isReadSo_32  ?_
    refine x_ls (ls2 := [(0, .ref a0)]) [1] rfl ?_
    exact J25 0 r5.2.1 r5.2.2.1 r3.1 r3.2.1 r5.2.2.2.1 r5.2.2.2.2.1 r5.2.2.2.2.2.1 r5.2.2.2.2.2.2.1 r5.2.2.2.2.2.2.2 r3.2.2.2.2.2.2.2.1 r3.2.2.2.2.2.2.2.2 h
  · skip
    refine x_iconst (pc := 28) X d_Mod_isReadSo_28  ?_
    refine x_goto (pc := 29) (tgt := 33) X d_Mod_isReadSo_29 rfl ?_
    refine x_ls (ls2 := [(0, .ref a0)]) [1] rfl ?_
    exact J25 1 r5.2.1 r5.2.2.1 r3.1 r3.2.1 r5.2.2.2.1 r5.2.2.2.2.1 r5.2.2.2.2.2.1 r5.2.2.2.2.2.2.1 r5.2.2.2.2.2.2.2 r3.2.2.2.2.2.2.2.1 r3.2.2.2.2.2.2.2.2 h
theorem d_Mod_sure_0 : decode b_Mod_sure 0 = .ok (.iload_n 1, 1) := by decide +kernel
theorem d_Mod_sure_1 : decode b_Mod_sure 1 = .ok (.invokestatic 230, 3) := by decide +kernel
theorem d_Mod_sure_4 : decode b_Mod_sure 4 = .ok (.ifCond .eq 10, 3) := by decide +kernel
theorem d_Mod_sure_7 : decode b_Mod_sure 7 = .ok (.iload_n 2, 1) := by decide +kernel
theorem d_Mod_sure_8 : decode b_Mod_sure 8 = .ok (.invokestatic 199, 3) := by decide +kernel
theorem d_Mod_sure_11 : decode b_Mod_sure 11 = .ok (.ifCond .ne 7, 3) := by decide +kernel
theorem d_Mod_sure_14 : decode b_Mod_sure 14 = .ok (.iconst (-1), 1) := by decide +kernel
theorem d_Mod_sure_15 : decode b_Mod_sure 15 = .ok (.goto 18, 3) := by decide +kernel
theorem d_Mod_sure_18 : decode b_Mod_sure 18 = .ok (.iload_n 3, 1) := by decide +kernel
theorem d_Mod_sure_19 : decode b_Mod_sure 19 = .ok (.iconst 0, 1) := by decide +kernel
theorem d_Mod_sure_20 : decode b_Mod_sure 20 = .ok (.iconst 1, 1) := by decide +kernel
theorem d_Mod_sure_21 : decode b_Mod_sure 21 = .ok (.invokestatic 58, 3) := by decide +kernel
theorem d_Mod_sure_24 : decode b_Mod_sure 24 = .ok (.ifCond .ne 8, 3) := by decide +kernel
theorem d_Mod_sure_27 : decode b_Mod_sure 27 = .ok (.bipush (-2), 2) := by decide +kernel
theorem d_Mod_sure_29 : decode b_Mod_sure 29 = .ok (.goto 4, 3) := by decide +kernel
theorem d_Mod_sure_32 : decode b_Mod_sure 32 = .ok (.iconst 0, 1) := by decide +kernel
theorem d_Mod_sure_33 : decode b_Mod_sure 33 = .ok (.istore 4, 2) := by decide +kernel
theorem d_Mod_sure_35 : decode b_Mod_sure 35 = .ok (.iload 4, 2) := by decide +kernel
theorem d_Mod_sure_37 : decode b_Mod_sure 37 = .ok (.ifCond .eq 10, 3) := by decide +kernel
theorem d_Mod_sure_40 : decode b_Mod_sure 40 = .ok (.aload_n 0, 1) := by decide +kernel
theorem d_Mod_sure_41 : decode b_Mod_sure 41 = .ok (.iload 4, 2) := by decide +kernel
theorem d_Mod_sure_43 : decode b_Mod_sure 43 = .ok (.invokevirtual 338, 3) := by decide +kernel
theorem d_Mod_sure_46 : decode b_Mod_sure 46 = .ok (.lreturn, 1) := by decide +kernel
theorem d_Mod_sure_47 : decode b_Mod_sure 47 = .ok (.aload_n 0, 1) := by decide +kernel
theorem d_Mod_sure_48 : decode b_Mod_sure 48 = .ok (.iload_n 1, 1) := by decide +kernel
theorem d_Mod_sure_49 : decode b_Mod_sure 49 = .ok (.invokevirtual 309, 3) := by decide +kernel
theorem d_Mod_sure_52 : decode b_Mod_sure 52 = .ok (.istore 5, 2) := by decide +kernel
theorem d_Mod_sure_54 : decode b_Mod_sure 54 = .ok (.lconst 0, 1) := by decide +kernel
theorem d_Mod_sure_55 : decode b_Mod_sure 55 = .ok (.lstore 6, 2) := by decide +kernel
theorem d_Mod_sure_57 : decode b_Mod_sure 57 = .ok (.iconst 0, 1) := by decide +kernel
theorem d_Mod_sure_58 : decode b_Mod_sure 58 = .ok (.istore 8, 2) := by decide +kernel
theorem d_Mod_sure_60 : decode b_Mod_sure 60 = .ok (.iload 8, 2) := by decide +kernel
theorem d_Mod_sure_62 : decode b_Mod_sure 62 = .ok (.iload 5, 2) := by decide +kernel
theorem d_Mod_sure_64 : decode b_Mod_sure 64 = .ok (.if_icmp .gt 35, 3) := by decide +kernel
theorem d_Mod_sure_67 : decode b_Mod_sure 67 = .ok (.lload 6, 2) := by decide +kernel
theorem d_Mod_sure_69 : decode b_Mod_sure 69 = .ok (.aload_n 0, 1) := by decide +kernel
theorem d_Mod_sure_70 : decode b_Mod_sure 70 = .ok (.iload_n 1, 1) := by decide +kernel
theorem d_Mod_sure_71 : decode b_Mod_sure 71 = .ok (.bipush 24, 2) := by decide +kernel
theorem d_Mod_sure_73 : decode b_Mod_sure 73 = .ok (.iload_n 1, 1) := by decide +kernel
theorem d_Mod_sure_74 : decode b_Mod_sure 74 = .ok (.imul, 1) := by decide +kernel
theorem d_Mod_sure_75 : decode b_Mod_sure 75 = .ok (.iload_n 2, 1) := by decide +kernel
theorem d_Mod_sure_76 : decode b_Mod_sure 76 = .ok (.iadd, 1) := by decide +kernel
theorem d_Mod_sure_77 : decode b_Mod_sure 77 = .ok (.iload 8, 2) := by decide +kernel
theorem d_Mod_sure_79 : decode b_Mod_sure 79 = .ok (.invokevirtual 346, 3) := by decide +kernel
theorem d_Mod_sure_82 : decode b_Mod_sure 82 = .ok (.ifCond .eq 7, 3) := by decide +kernel
theorem d_Mod_sure_85 : decode b_Mod_sure 85 = .ok (.lconst 1, 1) := by decide +kernel
theorem d_Mod_sure_86 : decode b_Mod_sure 86 = .ok (.goto 4, 3) := by decide +kernel
theorem d_Mod_sure_89 : decode b_Mod_sure 89 = .ok (.lconst 0, 1) := by decide +kernel
theorem d_Mod_sure_90 : decode b_Mod_sure 90 = .ok (.ladd, 1) := by decide +kernel
theorem d_Mod_sure_91 : decode b_Mod_sure 91 = .ok (.lstore 6, 2) := by decide +kernel
theorem d_Mod_sure_93 : decode b_Mod_sure 93 = .ok (.iinc 8 1, 3) := by decide +kernel
theorem d_Mod_sure_96 : decode b_Mod_sure 96 = .ok (.goto (-36), 3) := by decide +kernel
theorem d_Mod_sure_99 : decode b_Mod_sure 99 = .ok (.lload 6, 2) := by decide +kernel
theorem d_Mod_sure_101 : decode b_Mod_sure 101 = .ok (.iload 5, 2) := by decide +kernel
theorem d_Mod_sure_103 : decode b_Mod_sure 103 = .ok (.iconst 1, 1) := by decide +kernel
theorem d_Mod_sure_104 : decode b_Mod_sure 104 = .ok (.iadd, 1) := by decide +kernel
theorem d_Mod_sure_105 : decode b_Mod_sure 105 = .ok (.i2l, 1) := by decide +kernel
theorem d_Mod_sure_106 : decode b_Mod_sure 106 = .ok (.iload_n 3, 1) := by decide +kernel
theorem d_Mod_sure_107 : decode b_Mod_sure 107 = .ok (.invokestatic 342, 3) := by decide +kernel
theorem d_Mod_sure_110 : decode b_Mod_sure 110 = .ok (.lreturn, 1) := by decide +kernel
def m_Mod_sure_60 : Nat → Int → Int → Int → Int → Int → Int → Int → Int → Int → Int → (Int → Int) → (Int → Int) → (Int → Int) → (Int → Int) → (Int → Int) → (Int → Int) → (Int → Int) → (Int → Int) → Option (Int × Int × Int × Int × Int × (Int → Int) × (Int → Int) × (Int → Int) × (Int → Int) × (Int → Int) × (Int → Int) × (Int → Int) × (Int → Int))
  | 0, _, _, _, _, _, _, _, _, _, _, _, _, _, _, _, _, _, _ => none
  | fuel + 1, v1, v2, v3, v5, v6, v8, m_stepsMade, m_stepsMost, m_isKeeping, m_cursor, m_refused, m_bytes, m_owner, m_block, m_written, m_waits, m_kinds, m_kept =>
  cle v8 v5 (bnd (m_Mod_isReadSo v1 ((24 * v1) + v2) v8 m_stepsMade m_stepsMost m_isKeeping m_cursor m_bytes m_owner m_block m_written m_waits m_kinds m_kept) (fun r24 => ceq r24.1 0 (m_Mod_sure_60 fuel v1 v2 v3 v5 (v6 + 0) (v8 + 1) r24.2.1 r24.2.2.1 r24.2.2.2.1 r24.2.2.2.2.1 m_refused r24.2.2.2.2.2.1 r24.2.2.2.2.2.2.1 r24.2.2.2.2.2.2.2.1 r24.2.2.2.2.2.2.2.2.1 r24.2.2.2.2.2.2.2.2.2.1 r24.2.2.2.2.2.2.2.2.2.2.1 r24.2.2.2.2.2.2.2.2.2.2.2) (m_Mod_sure_60 fuel v1 v2 v3 v5 (v6 + 1) (v8 + 1) r24.2.1 r24.2.2.1 r24.2.2.2.1 r24.2.2.2.2.1 m_refused r24.2.2.2.2.2.1 r24.2.2.2.2.2.2.1 r24.2.2.2.2.2.2.2.1 r24.2.2.2.2.2.2.2.2.1 r24.2.2.2.2.2.2.2.2.2.1 r24.2.2.2.2.2.2.2.2.2.2.1 r24.2.2.2.2.2.2.2.2.2.2.2))) (gd (zr (v5 + 1)) (bnd (m_Mod_partOf v6 (v5 + 1) v3) (fun r22 => some (r22, m_stepsMade, m_stepsMost, m_isKeeping, m_cursor, m_refused, m_bytes, m_owner, m_block, m_written, m_waits, m_kinds, m_kept))))
def m_Mod_sure (x1 : Int) (x2 : Int) (x3 : Int) (m_stepsMade : Int) (m_stepsMost : Int) (m_isKeeping : Int) (m_cursor : Int) (m_refused : Int → Int) (m_bytes : Int → Int) (m_owner : Int → Int) (m_block : Int → Int) (m_written : Int → Int) (m_waits : Int → Int) (m_kinds : Int → Int) (m_kept : Int → Int) : Option (Int × Int × Int × Int × Int × (Int → Int) × (Int → Int) × (Int → Int) × (Int → Int) × (Int → Int) × (Int → Int) × (Int → Int) × (Int → Int)) :=
  bnd (m_Mod_isFile x1) (fun r1 => jn (fun (z4 : Int) (z5 : Int) (z6 : Int) (z7 : Int) (c8 : Int) (c9 : Int) (c10 : Int) (c11 : Int) (c12 : Int → Int) (c13 : Int → Int) (c14 : Int → Int) (c15 : Int → Int) (c16 : Int → Int) (c17 : Int → Int) (c18 : Int → Int) (c19 : Int → Int) => ceq z7 0 (bnd (m_Mod_stepsOf z4 c8 c9 c10 c11 c13 c14 c15 c16 c17 c18 c19) (fun r20 => m_Mod_sure_60 5000 z4 z5 z6 r20.1 0 0 r20.2.1 r20.2.2.1 r20.2.2.2.1 r20.2.2.2.2.1 c12 r20.2.2.2.2.2.1 r20.2.2.2.2.2.2.1 r20.2.2.2.2.2.2.2.1 r20.2.2.2.2.2.2.2.2.1 r20.2.2.2.2.2.2.2.2.2.1 r20.2.2.2.2.2.2.2.2.2.2.1 r20.2.2.2.2.2.2.2.2.2.2.2)) (bnd (m_Mod_lowestOf z7 c12) (fun r26 => some (r26.1, c8, c9, c10, c11, r26.2, c13, c14, c15, c16, c17, c18, c19)))) (fun j3 => jn (fun (z31 : Int) (z32 : Int) (z33 : Int) (c34 : Int) (c35 : Int) (c36 : Int) (c37 : Int) (c38 : Int → Int) (c39 : Int → Int) (c40 : Int → Int) (c41 : Int → Int) (c42 : Int → Int) (c43 : Int → Int) (c44 : Int → Int) (c45 : Int → Int) => j3 z31 z32 z33 (-1) c34 c35 c36 c37 c38 c39 c40 c41 c42 c43 c44 c45) (fun j30 => ceq r1 0 (j30 x1 x2 x3 m_stepsMade m_stepsMost m_isKeeping m_cursor m_refused m_bytes m_owner m_block m_written m_waits m_kinds m_kept) (bnd (m_Mod_isPage x2) (fun r48 => ceq r48 0 (j30 x1 x2 x3 m_stepsMade m_stepsMost m_isKeeping m_cursor m_refused m_bytes m_owner m_block m_written m_waits m_kinds m_kept) (bnd (m_Mod_isIn x3 0 1) (fun r50 => ceq r50 0 (j3 x1 x2 x3 (-2) m_stepsMade m_stepsMost m_isKeeping m_cursor m_refused m_bytes m_owner m_block m_written m_waits m_kinds m_kept) (j3 x1 x2 x3 0 m_stepsMade m_stepsMost m_isKeeping m_cursor m_refused m_bytes m_owner m_block m_written m_waits m_kinds m_kept))))))))
set_option maxHeartbeats 4000000 in
set_option maxRecDepth 100000 in
theorem l_Mod_sure_60 {G : GT} {l : Launch} {D : va_G} {cI cB : ClassId} {a0 a1 a2 a3 a4 a5 a6 a7 a8 a9 a10 a11 a12 a13 a14 a15 : Nat} {m_taped : Int} {m_reading : Int} {m_statements : Int} {m_telling : Int} {m_hasImage : Int} {m_rowMany : Int} {m_lots : Int} {m_tape : Int → Int} {m_sort : Int → Int} {m_sortAt : Int → Int} {m_told : Int → Int} {m_was : Int → Int} {m_ends : Int → Int} {m_row : Int → Int} (X : Cx G l D cI cB b_Mod_sure y_Mod_sure.cls 9 { frames := 8, cells := 0, slots := 0, locals := 191 }) : ∀ (fuel : Nat) (v1 : Int) (v2 : Int) (v3 : Int) (v5 : Int) (v6 : Int) (v8 : Int) (m_stepsMade : Int) (m_stepsMost : Int) (m_isKeeping : Int) (m_cursor : Int) (m_refused : Int → Int) (m_bytes : Int → Int) (m_owner : Int → Int) (m_block : Int → Int) (m_written : Int → Int) (m_waits : Int → Int) (m_kinds : Int → Int) (m_kept : Int → Int) (o : Int × Int × Int × Int × Int × (Int → Int) × (Int → Int) × (Int → Int) × (Int → Int) × (Int → Int) × (Int → Int) × (Int → Int) × (Int → Int)), m_Mod_sure_60 fuel v1 v2 v3 v5 v6 v8 m_stepsMade m_stepsMost m_isKeeping m_cursor m_refused m_bytes m_owner m_block m_written m_waits m_kinds m_kept = some o → Rt G (some .long) (some (.long (zl o.1))) (w_Mod cI cB a0 a1 a2 a3 a4 a5 a6 a7 a8 a9 a10 a11 a12 a13 a14 a15 o.2.1 o.2.2.1 m_taped m_reading m_statements m_telling m_hasImage o.2.2.2.1 o.2.2.2.2.1 m_rowMany m_lots o.2.2.2.2.2.1 o.2.2.2.2.2.2.1 o.2.2.2.2.2.2.2.1 o.2.2.2.2.2.2.2.2.1 o.2.2.2.2.2.2.2.2.2.1 o.2.2.2.2.2.2.2.2.2.2.1 o.2.2.2.2.2.2.2.2.2.2.2.1 m_tape m_sort m_sortAt m_told o.2.2.2.2.2.2.2.2.2.2.2.2 m_was m_ends m_row) → Wx G 0 0 60 [(0, .ref a0), (1, .int (zi v1)), (2, .int (zi v2)), (3, .int (zi v3)), (5, .int (zi v5)), (6, .long (zl v6)), (8, .int (zi v8))] [] (w_Mod cI cB a0 a1 a2 a3 a4 a5 a6 a7 a8 a9 a10 a11 a12 a13 a14 a15 m_stepsMade m_stepsMost m_taped m_reading m_statements m_telling m_hasImage m_isKeeping m_cursor m_rowMany m_lots m_refused m_bytes m_owner m_block m_written m_waits m_kinds m_tape m_sort m_sortAt m_told m_kept m_was m_ends m_row) := by
  intro fuel
  induction fuel with
  | zero =>
    intro v1 v2 v3 v5 v6 v8 m_stepsMade m_stepsMost m_isKeeping m_cursor m_refused m_bytes m_owner m_block m_written m_waits m_kinds m_kept o h
    exact absurd h (by simp [m_Mod_sure_60])
  | succ fuel ih =>
    intro v1 v2 v3 v5 v6 v8 m_stepsMade m_stepsMost m_isKeeping m_cursor m_refused m_bytes m_owner m_block m_written m_waits m_kinds m_kept o h hR
    rw [m_Mod_sure_60] at h
    refine x_iload (pc := 60) X d_Mod_sure_60 6 rfl ?_
    refine x_iload (pc := 62) X d_Mod_sure_62 4 rfl ?_
    refine x_icmpgt (pc := 64) (tgt := 99) X d_Mod_sure_64 rfl h (fun h => ?_) (fun h => ?_)
    · skip
      refine x_lload (pc := 99) X d_Mod_sure_99 5 rfl ?_
      refine x_iload (pc := 101) X d_Mod_sure_101 4 rfl ?_
      refine x_iconst (pc := 103) X d_Mod_sure_103  ?_
      refine x_iadd (pc := 104) X d_Mod_sure_104  ?_
      refine x_i2l (pc := 105) X d_Mod_sure_105 h (fun h => ?_)
      refine x_iload_n (pc := 106) X d_Mod_sure_106 3 rfl rfl ?_
      obtain ⟨r22, h23, h⟩ := bnd_e h
      refine x_callS (pc := 107) (As := [.long (zl v6), .long (zl (v5 + 1)), .int (zi v3)]) (rest := []) (w2 := (w_Mod cI cB a0 a1 a2 a3 a4 a5 a6 a7 a8 a9 a10 a11 a12 a13 a14 a15 m_stepsMade m_stepsMost m_taped m_reading m_statements m_telling m_hasImage m_isKeeping m_cursor m_rowMany m_lots m_refused m_bytes m_owner m_block m_written m_waits m_kinds m_tape m_sort m_sortAt m_told m_kept m_was m_ends m_row)) X d_Mod_sure_107 lk_Mod_342 mv_Mod_partOf (c_Mod_partOf l D cI cB v6 (v5 + 1) v3 h23) ⟨(Nat.le_of_ble_eq_true rfl), (Nat.le_of_ble_eq_true rfl), (Nat.le_of_ble_eq_true rfl), (Nat.le_of_ble_eq_true rfl)⟩ [] rfl rfl rfl (Up.same rfl) rfl rfl (Nat.le_of_ble_eq_true rfl) ?_
      cases h
      exact x_lret (pc := 110) X hR d_Mod_sure_110
    · skip
      refine x_lload (pc := 67) X d_Mod_sure_67 5 rfl ?_
      refine x_aload_n (pc := 69) X d_Mod_sure_69 0 rfl rfl ?_
      refine x_iload_n (pc := 70) X d_Mod_sure_70 1 rfl rfl ?_
      refine x_bipush (pc := 71) (v := 24) X d_Mod_sure_71 rfl ?_
      refine x_iload_n (pc := 73) X d_Mod_sure_73 1 rfl rfl ?_
      refine x_imul (pc := 74) X d_Mod_sure_74  ?_
      refine x_iload_n (pc := 75) X d_Mod_sure_75 2 rfl rfl ?_
      refine x_iadd (pc := 76) X d_Mod_sure_76  ?_
      refine x_iload (pc := 77) X d_Mod_sure_77 6 rfl ?_
      obtain ⟨r24, h25, h⟩ := bnd_e h
      refine x_callV (pc := 79) (As := [.int (zi v1), .int (zi ((24 * v1) + v2)), .int (zi v8)]) (rest := [.long (zl v6)]) (w2 := (w_Mod cI cB a0 a1 a2 a3 a4 a5 a6 a7 a8 a9 a10 a11 a12 a13 a14 a15 r24.2.1 r24.2.2.1 m_taped m_reading m_statements m_telling m_hasImage r24.2.2.2.1 r24.2.2.2.2.1 m_rowMany m_lots m_refused r24.2.2.2.2.2.1 r24.2.2.2.2.2.2.1 r24.2.2.2.2.2.2.2.1 r24.2.2.2.2.2.2.2.2.1 r24.2.2.2.2.2.2.2.2.2.1 r24.2.2.2.2.2.2.2.2.2.2.1 m_tape m_sort m_sortAt m_told r24.2.2.2.2.2.2.2.2.2.2.2 m_was m_ends m_row)) X d_Mod_sure_79 lk_Mod_346 mv_Mod_isReadSo (c_Mod_isReadSo l D cI cB a0 a1 a2 a3 a4 a5 a6 a7 a8 a9 a10 a11 a12 a13 a14 a15 m_stepsMade m_stepsMost m_taped m_reading m_statements m_telling m_hasImage m_isKeeping m_cursor m_rowMany m_lots m_refused m_bytes m_owner m_block m_written m_waits m_kinds m_tape m_sort m_sortAt m_told m_kept m_was m_ends m_row v1 ((24 * v1) + v2) v8 h25) ⟨(Nat.le_of_ble_eq_true rfl), (Nat.le_of_ble_eq_true rfl), (Nat.le_of_ble_eq_true rfl), (Nat.le_of_ble_eq_true rfl)⟩ 0 rfl rfl [0, 1, 2, 3, 4, 5, 6, 7, 8, 9, 10, 11, 12, 13, 14, 15] rfl rfl rfl (Up.of [] [] rfl rfl rfl 16 rfl (by decide +kernel)) rfl rfl (Nat.le_of_ble_eq_true rfl) ?_
      refine x_ifeq (pc := 82) (tgt := 89) X d_Mod_sure_82 rfl h (fun h => ?_) (fun h => ?_)
      · skip
        refine x_lconst (pc := 89) (x := 0) X d_Mod_sure_89 rfl ?_
        refine x_ladd (pc := 90) X d_Mod_sure_90  ?_
        refine x_lstore (pc := 91) (ls2 := [(6, .long (zl (v6 + 0))), (0, .ref a0), (1, .int (zi v1)), (2, .int (zi v2)), (3, .int (zi v3)), (5, .int (zi v5)), (8, .int (zi v8))]) X d_Mod_sure_91 (Nat.le_of_ble_eq_true rfl) rfl ?_
        refine x_iinc (pc := 93) (ls2 := [(8, .int (zi (v8 + 1))), (6, .long (zl (v6 + 0))), (0, .ref a0), (1, .int (zi v1)), (2, .int (zi v2)), (3, .int (zi v3)), (5, .int (zi v5))]) X d_Mod_sure_93 6 (Nat.le_of_ble_eq_true rfl) rfl rfl ?_
        refine x_goto (pc := 96) (tgt := 60) X d_Mod_sure_96 rfl ?_
        refine x_ls (ls2 := [(0, .ref a0), (1, .int (zi v1)), (2, .int (zi v2)), (3, .int (zi v3)), (5, .int (zi v5)), (6, .long (zl (v6 + 0))), (8, .int (zi (v8 + 1)))]) [2, 3, 4, 5, 6, 1, 0] rfl ?_
        exact ih v1 v2 v3 v5 (v6 + 0) (v8 + 1) r24.2.1 r24.2.2.1 r24.2.2.2.1 r24.2.2.2.2.1 m_refused r24.2.2.2.2.2.1 r24.2.2.2.2.2.2.1 r24.2.2.2.2.2.2.2.1 r24.2.2.2.2.2.2.2.2.1 r24.2.2.2.2.2.2.2.2.2.1 r24.2.2.2.2.2.2.2.2.2.2.1 r24.2.2.2.2.2.2.2.2.2.2.2 o h hR
      · skip
        refine x_lconst (pc := 85) (x := 1) X d_Mod_sure_85 rfl ?_
        refine x_goto (pc := 86) (tgt := 90) X d_Mod_sure_86 rfl ?_
        refine x_ladd (pc := 90) X d_Mod_sure_90  ?_
        refine x_lstore (pc := 91) (ls2 := [(6, .long (zl (v6 + 1))), (0, .ref a0), (1, .int (zi v1)), (2, .int (zi v2)), (3, .int (zi v3)), (5, .int (zi v5)), (8, .int (zi v8))]) X d_Mod_sure_91 (Nat.le_of_ble_eq_true rfl) rfl ?_
        refine x_iinc (pc := 93) (ls2 := [(8, .int (zi (v8 + 1))), (6, .long (zl (v6 + 1))), (0, .ref a0), (1, .int (zi v1)), (2, .int (zi v2)), (3, .int (zi v3)), (5, .int (zi v5))]) X d_Mod_sure_93 6 (Nat.le_of_ble_eq_true rfl) rfl rfl ?_
        refine x_goto (pc := 96) (tgt := 60) X d_Mod_sure_96 rfl ?_
        refine x_ls (ls2 := [(0, .ref a0), (1, .int (zi v1)), (2, .int (zi v2)), (3, .int (zi v3)), (5, .int (zi v5)), (6, .long (zl (v6 + 1))), (8, .int (zi (v8 + 1)))]) [2, 3, 4, 5, 6, 1, 0] rfl ?_
        exact ih v1 v2 v3 v5 (v6 + 1) (v8 + 1) r24.2.1 r24.2.2.1 r24.2.2.2.1 r24.2.2.2.2.1 m_refused r24.2.2.2.2.2.1 r24.2.2.2.2.2.2.1 r24.2.2.2.2.2.2.2.1 r24.2.2.2.2.2.2.2.2.1 r24.2.2.2.2.2.2.2.2.2.1 r24.2.2.2.2.2.2.2.2.2.2.1 r24.2.2.2.2.2.2.2.2.2.2.2 o h hR
set_option maxHeartbeats 4000000 in
set_option maxRecDepth 100000 in
theorem c_Mod_sure (l : Launch) (D : va_G) (cI cB : ClassId) (a0 a1 a2 a3 a4 a5 a6 a7 a8 a9 a10 a11 a12 a13 a14 a15 : Nat) (m_stepsMade : Int) (m_stepsMost : Int) (m_taped : Int) (m_reading : Int) (m_statements : Int) (m_telling : Int) (m_hasImage : Int) (m_isKeeping : Int) (m_cursor : Int) (m_rowMany : Int) (m_lots : Int) (m_refused : Int → Int) (m_bytes : Int → Int) (m_owner : Int → Int) (m_block : Int → Int) (m_written : Int → Int) (m_waits : Int → Int) (m_kinds : Int → Int) (m_tape : Int → Int) (m_sort : Int → Int) (m_sortAt : Int → Int) (m_told : Int → Int) (m_kept : Int → Int) (m_was : Int → Int) (m_ends : Int → Int) (m_row : Int → Int) (x1 : Int) (x2 : Int) (x3 : Int) {o : Int × Int × Int × Int × Int × (Int → Int) × (Int → Int) × (Int → Int) × (Int → Int) × (Int → Int) × (Int → Int) × (Int → Int) × (Int → Int)} (h : m_Mod_sure x1 x2 x3 m_stepsMade m_stepsMost m_isKeeping m_cursor m_refused m_bytes m_owner m_block m_written m_waits m_kinds m_kept = some o) : Ct l D cI cB y_Mod_sure b_Mod_sure 9 (some .long) { frames := 8, cells := 0, slots := 0, locals := 191 } [.ref a0, .int (zi x1), .int (zi x2), .int (zi x3)] (w_Mod cI cB a0 a1 a2 a3 a4 a5 a6 a7 a8 a9 a10 a11 a12 a13 a14 a15 m_stepsMade m_stepsMost m_taped m_reading m_statements m_telling m_hasImage m_isKeeping m_cursor m_rowMany m_lots m_refused m_bytes m_owner m_block m_written m_waits m_kinds m_tape m_sort m_sortAt m_told m_kept m_was m_ends m_row) (w_Mod cI cB a0 a1 a2 a3 a4 a5 a6 a7 a8 a9 a10 a11 a12 a13 a14 a15 o.2.1 o.2.2.1 m_taped m_reading m_statements m_telling m_hasImage o.2.2.2.1 o.2.2.2.2.1 m_rowMany m_lots o.2.2.2.2.2.1 o.2.2.2.2.2.2.1 o.2.2.2.2.2.2.2.1 o.2.2.2.2.2.2.2.2.1 o.2.2.2.2.2.2.2.2.2.1 o.2.2.2.2.2.2.2.2.2.2.1 o.2.2.2.2.2.2.2.2.2.2.2.1 m_tape m_sort m_sortAt m_told o.2.2.2.2.2.2.2.2.2.2.2.2 m_was m_ends m_row) (some (.long (zl o.1))) := by
  refine Ct.start (by decide) (Nat.le_of_ble_eq_true rfl) (fun G X hR => ?_)
  refine x_ls (ls2 := [(0, .ref a0), (1, .int (zi x1)), (2, .int (zi x2)), (3, .int (zi x3))]) [0, 1, 2, 3] rfl ?_
  unfold m_Mod_sure at h
  refine x_iload_n (pc := 0) X d_Mod_sure_0 1 rfl rfl ?_
  obtain ⟨r1, h2, h⟩ := bnd_e h
  refine x_callS (pc := 1) (As := [.int (zi x1)]) (rest := []) (w2 := (w_Mod cI cB a0 a1 a2 a3 a4 a5 a6 a7 a8 a9 a10 a11 a12 a13 a14 a15 m_stepsMade m_stepsMost m_taped m_reading m_statements m_telling m_hasImage m_isKeeping m_cursor m_rowMany m_lots m_refused m_bytes m_owner m_block m_written m_waits m_kinds m_tape m_sort m_sortAt m_told m_kept m_was m_ends m_row)) X d_Mod_sure_1 lk_Mod_230 mv_Mod_isFile (c_Mod_isFile l D cI cB x1 h2) ⟨(Nat.le_of_ble_eq_true rfl), (Nat.le_of_ble_eq_true rfl), (Nat.le_of_ble_eq_true rfl), (Nat.le_of_ble_eq_true rfl)⟩ [] rfl rfl rfl (Up.same rfl) rfl rfl (Nat.le_of_ble_eq_true rfl) ?_
  obtain ⟨j3, hj28, h⟩ := jn_e h
  have J29 : ∀ (z4 : Int) (z5 : Int) (z6 : Int) (z7 : Int) (c8 : Int) (c9 : Int) (c10 : Int) (c11 : Int) (c12 : Int → Int) (c13 : Int → Int) (c14 : Int → Int) (c15 : Int → Int) (c16 : Int → Int) (c17 : Int → Int) (c18 : Int → Int) (c19 : Int → Int), j3 z4 z5 z6 z7 c8 c9 c10 c11 c12 c13 c14 c15 c16 c17 c18 c19 = some o → Wx G 0 0 33 [(0, .ref a0), (1, .int (zi z4)), (2, .int (zi z5)), (3, .int (zi z6))] [.int (zi z7)] (w_Mod cI cB a0 a1 a2 a3 a4 a5 a6 a7 a8 a9 a10 a11 a12 a13 a14 a15 c8 c9 m_taped m_reading m_statements m_telling m_hasImage c10 c11 m_rowMany m_lots c12 c13 c14 c15 c16 c17 c18 m_tape m_sort m_sortAt m_told c19 m_was m_ends m_row) := by
    intro z4 z5 z6 z7 c8 c9 c10 c11 c12 c13 c14 c15 c16 c17 c18 c19 h
    rw [hj28] at h
    (try dsimp only at h)
    refine x_istore (pc := 33) (ls2 := [(4, .int (zi z7)), (0, .ref a0), (1, .int (zi z4)), (2, .int (zi z5)), (3, .int (zi z6))]) X d_Mod_sure_33 (Nat.le_of_ble_eq_true rfl) rfl ?_
    refine x_iload (pc := 35) X d_Mod_sure_35 0 rfl ?_
    refine x_ifeq (pc := 37) (tgt := 47) X d_Mod_sure_37 rfl h (fun h => ?_) (fun h => ?_)
    · skip
      refine x_aload_n (pc := 47) X d_Mod_sure_47 1 rfl rfl ?_
      refine x_iload_n (pc := 48) X d_Mod_sure_48 2 rfl rfl ?_
      obtain ⟨r20, h21, h⟩ := bnd_e h
      refine x_callV (pc := 49) (As := [.int (zi z4)]) (rest := []) (w2 := (w_Mod cI cB a0 a1 a2 a3 a4 a5 a6 a7 a8 a9 a10 a11 a12 a13 a14 a15 r20.2.1 r20.2.2.1 m_taped m_reading m_statements m_telling m_hasImage r20.2.2.2.1 r20.2.2.2.2.1 m_rowMany m_lots c12 r20.2.2.2.2.2.1 r20.2.2.2.2.2.2.1 r20.2.2.2.2.2.2.2.1 r20.2.2.2.2.2.2.2.2.1 r20.2.2.2.2.2.2.2.2.2.1 r20.2.2.2.2.2.2.2.2.2.2.1 m_tape m_sort m_sortAt m_told r20.2.2.2.2.2.2.2.2.2.2.2 m_was m_ends m_row)) X d_Mod_sure_49 lk_Mod_309 mv_Mod_stepsOf (c_Mod_stepsOf l D cI cB a0 a1 a2 a3 a4 a5 a6 a7 a8 a9 a10 a11 a12 a13 a14 a15 c8 c9 m_taped m_reading m_statements m_telling m_hasImage c10 c11 m_rowMany m_lots c12 c13 c14 c15 c16 c17 c18 m_tape m_sort m_sortAt m_told c19 m_was m_ends m_row z4 h21) ⟨(Nat.le_of_ble_eq_true rfl), (Nat.le_of_ble_eq_true rfl), (Nat.le_of_ble_eq_true rfl), (Nat.le_of_ble_eq_true rfl)⟩ 0 rfl rfl [0, 1, 2, 3, 4, 5, 6, 7, 8, 9, 10, 11, 12, 13, 14, 15] rfl rfl rfl (Up.of [] [] rfl rfl rfl 16 rfl (by decide +kernel)) rfl rfl (Nat.le_of_ble_eq_true rfl) ?_
      refine x_istore (pc := 52) (ls2 := [(5, .int (zi r20.1)), (4, .int (zi z7)), (0, .ref a0), (1, .int (zi z4)), (2, .int (zi z5)), (3, .int (zi z6))]) X d_Mod_sure_52 (Nat.le_of_ble_eq_true rfl) rfl ?_
      refine x_lconst (pc := 54) (x := 0) X d_Mod_sure_54 rfl ?_
      refine x_lstore (pc := 55) (ls2 := [(6, .long (zl 0)), (5, .int (zi r20.1)), (4, .int (zi z7)), (0, .ref a0), (1, .int (zi z4)), (2, .int (zi z5)), (3, .int (zi z6))]) X d_Mod_sure_55 (Nat.le_of_ble_eq_true rfl) rfl ?_
      refine x_iconst (pc := 57) X d_Mod_sure_57  ?_
      refine x_istore (pc := 58) (ls2 := [(8, .int (zi 0)), (6, .long (zl 0)), (5, .int (zi r20.1)), (4, .int (zi z7)), (0, .ref a0), (1, .int (zi z4)), (2, .int (zi z5)), (3, .int (zi z6))]) X d_Mod_sure_58 (Nat.le_of_ble_eq_true rfl) rfl ?_
      refine x_ls (ls2 := [(0, .ref a0), (1, .int (zi z4)), (2, .int (zi z5)), (3, .int (zi z6)), (5, .int (zi r20.1)), (6, .long (zl 0)), (8, .int (zi 0))]) [4, 5, 6, 7, 2, 1, 0] rfl ?_
      exact l_Mod_sure_60 X 5000 z4 z5 z6 r20.1 0 0 r20.2.1 r20.2.2.1 r20.2.2.2.1 r20.2.2.2.2.1 c12 r20.2.2.2.2.2.1 r20.2.2.2.2.2.2.1 r20.2.2.2.2.2.2.2.1 r20.2.2.2.2.2.2.2.2.1 r20.2.2.2.2.2.2.2.2.2.1 r20.2.2.2.2.2.2.2.2.2.2.1 r20.2.2.2.2.2.2.2.2.2.2.2 o h hR
    · skip
      refine x_aload_n (pc := 40) X d_Mod_sure_40 1 rfl rfl ?_
      refine x_iload (pc := 41) X d_Mod_sure_41 0 rfl ?_
      obtain ⟨r26, h27, h⟩ := bnd_e h
      refine x_callV (pc := 43) (As := [.int (zi z7)]) (rest := []) (w2 := (w_Mod cI cB a0 a1 a2 a3 a4 a5 a6 a7 a8 a9 a10 a11 a12 a13 a14 a15 c8 c9 m_taped m_reading m_statements m_telling m_hasImage c10 c11 m_rowMany m_lots r26.2 c13 c14 c15 c16 c17 c18 m_tape m_sort m_sortAt m_told c19 m_was m_ends m_row)) X d_Mod_sure_43 lk_Mod_338 mv_Mod_lowestOf (c_Mod_lowestOf l D cI cB a0 a1 a2 a3 a4 a5 a6 a7 a8 a9 a10 a11 a12 a13 a14 a15 c8 c9 m_taped m_reading m_statements m_telling m_hasImage c10 c11 m_rowMany m_lots c12 c13 c14 c15 c16 c17 c18 m_tape m_sort m_sortAt m_told c19 m_was m_ends m_row z7 h27) ⟨(Nat.le_of_ble_eq_true rfl), (Nat.le_of_ble_eq_true rfl), (Nat.le_of_ble_eq_true rfl), (Nat.le_of_ble_eq_true rfl)⟩ 0 rfl rfl [0, 1, 2, 3, 4, 5, 6, 7, 8, 9, 10, 11, 12, 13, 14, 15] rfl rfl rfl (Up.of [] [] rfl rfl rfl 16 rfl (by decide +kernel)) rfl rfl (Nat.le_of_ble_eq_true rfl) ?_
      cases h
      exact x_lret (pc := 46) X hR d_Mod_sure_46
  clear hj28
  obtain ⟨j30, hj46, h⟩ := jn_e h
  have J47 : ∀ (z31 : Int) (z32 : Int) (z33 : Int) (c34 : Int) (c35 : Int) (c36 : Int) (c37 : Int) (c38 : Int → Int) (c39 : Int → Int) (c40 : Int → Int) (c41 : Int → Int) (c42 : Int → Int) (c43 : Int → Int) (c44 : Int → Int) (c45 : Int → Int), j30 z31 z32 z33 c34 c35 c36 c37 c38 c39 c40 c41 c42 c43 c44 c45 = some o → Wx G 0 0 14 [(0, .ref a0), (1, .int (zi z31)), (2, .int (zi z32)), (3, .int (zi z33))] [] (w_Mod cI cB a0 a1 a2 a3 a4 a5 a6 a7 a8 a9 a10 a11 a12 a13 a14 a15 c34 c35 m_taped m_reading m_statements m_telling m_hasImage c36 c37 m_rowMany m_lots c38 c39 c40 c41 c42 c43 c44 m_tape m_sort m_sortAt m_told c45 m_was m_ends m_row) := by
    intro z31 z32 z33 c34 c35 c36 c37 c38 c39 c40 c41 c42 c43 c44 c45 h
    rw [hj46] at h
    (try dsimp only at h)
    refine x_iconst (pc := 14) X d_Mod_sure_14  ?_
    refine x_goto (pc := 15) (tgt := 33) X d_Mod_sure_15 rfl ?_
    exact J29 z31 z32 z33 (-1) c34 c35 c36 c37 c38 c39 c40 c41 c42 c43 c44 c45 h
  clear hj46
  refine x_ifeq (pc := 4) (tgt := 14) X d_Mod_sure_4 rfl h (fun h => ?_) (fun h => ?_)
  · skip
    exact J47 x1 x2 x3 m_stepsMade m_stepsMost m_isKeeping m_cursor m_refused m_bytes m_owner m_block m_written m_waits m_kinds m_kept h
  · skip
    refine x_iload_n (pc := 7) X d_Mod_sure_7 2 rfl rfl ?_
    obtain ⟨r48, h49, h⟩ := bnd_e h
    refine x_callS (pc := 8) (As := [.int (zi x2)]) (rest := []) (w2 := (w_Mod cI cB a0 a1 a2 a3 a4 a5 a6 a7 a8 a9 a10 a11 a12 a13 a14 a15 m_stepsMade m_stepsMost m_taped m_reading m_statements m_telling m_hasImage m_isKeeping m_cursor m_rowMany m_lots m_refused m_bytes m_owner m_block m_written m_waits m_kinds m_tape m_sort m_sortAt m_told m_kept m_was m_ends m_row)) X d_Mod_sure_8 lk_Mod_199 mv_Mod_isPage (c_Mod_isPage l D cI cB x2 h49) ⟨(Nat.le_of_ble_eq_true rfl), (Nat.le_of_ble_eq_true rfl), (Nat.le_of_ble_eq_true rfl), (Nat.le_of_ble_eq_true rfl)⟩ [] rfl rfl rfl (Up.same rfl) rfl rfl (Nat.le_of_ble_eq_true rfl) ?_
    refine x_ifne (pc := 11) (tgt := 18) X d_Mod_sure_11 rfl h (fun h => ?_) (fun h => ?_)
    · skip
      refine x_iload_n (pc := 18) X d_Mod_sure_18 3 rfl rfl ?_
      refine x_iconst (pc := 19) X d_Mod_sure_19  ?_
      refine x_iconst (pc := 20) X d_Mod_sure_20  ?_
      obtain ⟨r50, h51, h⟩ := bnd_e h
      refine x_callS (pc := 21) (As := [.int (zi x3), .int (zi 0), .int (zi 1)]) (rest := []) (w2 := (w_Mod cI cB a0 a1 a2 a3 a4 a5 a6 a7 a8 a9 a10 a11 a12 a13 a14 a15 m_stepsMade m_stepsMost m_taped m_reading m_statements m_telling m_hasImage m_isKeeping m_cursor m_rowMany m_lots m_refused m_bytes m_owner m_block m_written m_waits m_kinds m_tape m_sort m_sortAt m_told m_kept m_was m_ends m_row)) X d_Mod_sure_21 lk_Mod_58 mv_Mod_isIn (c_Mod_isIn l D cI cB x3 0 1 h51) ⟨(Nat.le_of_ble_eq_true rfl), (Nat.le_of_ble_eq_true rfl), (Nat.le_of_ble_eq_true rfl), (Nat.le_of_ble_eq_true rfl)⟩ [] rfl rfl rfl (Up.same rfl) rfl rfl (Nat.le_of_ble_eq_true rfl) ?_
      refine x_ifne (pc := 24) (tgt := 32) X d_Mod_sure_24 rfl h (fun h => ?_) (fun h => ?_)
      · skip
        refine x_iconst (pc := 32) X d_Mod_sure_32  ?_
        exact J29 x1 x2 x3 0 m_stepsMade m_stepsMost m_isKeeping m_cursor m_refused m_bytes m_owner m_block m_written m_waits m_kinds m_kept h
      · skip
        refine x_bipush (pc := 27) (v := -2) X d_Mod_sure_27 rfl ?_
        refine x_goto (pc := 29) (tgt := 33) X d_Mod_sure_29 rfl ?_
        exact J29 x1 x2 x3 (-2) m_stepsMade m_stepsMost m_isKeeping m_cursor m_refused m_bytes m_owner m_block m_written m_waits m_kinds m_kept h
    · skip
      exact J47 x1 x2 x3 m_stepsMade m_stepsMost m_isKeeping m_cursor m_refused m_bytes m_owner m_block m_written m_waits m_kinds m_kept h
theorem d_Mod_mean_0 : decode b_Mod_mean 0 = .ok (.iload_n 1, 1) := by decide +kernel
theorem d_Mod_mean_1 : decode b_Mod_mean 1 = .ok (.iconst 0, 1) := by decide +kernel
theorem d_Mod_mean_2 : decode b_Mod_mean 2 = .ok (.iconst 1, 1) := by decide +kernel
theorem d_Mod_mean_3 : decode b_Mod_mean 3 = .ok (.invokestatic 58, 3) := by decide +kernel
theorem d_Mod_mean_6 : decode b_Mod_mean 6 = .ok (.ifCond .ne 10, 3) := by decide +kernel
theorem d_Mod_mean_9 : decode b_Mod_mean 9 = .ok (.aload_n 0, 1) := by decide +kernel
theorem d_Mod_mean_10 : decode b_Mod_mean 10 = .ok (.bipush (-2), 2) := by decide +kernel
theorem d_Mod_mean_12 : decode b_Mod_mean 12 = .ok (.invokevirtual 338, 3) := by decide +kernel
theorem d_Mod_mean_15 : decode b_Mod_mean 15 = .ok (.lreturn, 1) := by decide +kernel
theorem d_Mod_mean_16 : decode b_Mod_mean 16 = .ok (.iconst 0, 1) := by decide +kernel
theorem d_Mod_mean_17 : decode b_Mod_mean 17 = .ok (.istore_n 2, 1) := by decide +kernel
theorem d_Mod_mean_18 : decode b_Mod_mean 18 = .ok (.iconst 0, 1) := by decide +kernel
theorem d_Mod_mean_19 : decode b_Mod_mean 19 = .ok (.istore_n 3, 1) := by decide +kernel
theorem d_Mod_mean_20 : decode b_Mod_mean 20 = .ok (.iload_n 3, 1) := by decide +kernel
theorem d_Mod_mean_21 : decode b_Mod_mean 21 = .ok (.iconst 4, 1) := by decide +kernel
theorem d_Mod_mean_22 : decode b_Mod_mean 22 = .ok (.if_icmp .ge 17, 3) := by decide +kernel
theorem d_Mod_mean_25 : decode b_Mod_mean 25 = .ok (.iload_n 2, 1) := by decide +kernel
theorem d_Mod_mean_26 : decode b_Mod_mean 26 = .ok (.aload_n 0, 1) := by decide +kernel
theorem d_Mod_mean_27 : decode b_Mod_mean 27 = .ok (.iload_n 3, 1) := by decide +kernel
theorem d_Mod_mean_28 : decode b_Mod_mean 28 = .ok (.invokevirtual 156, 3) := by decide +kernel
theorem d_Mod_mean_31 : decode b_Mod_mean 31 = .ok (.iadd, 1) := by decide +kernel
theorem d_Mod_mean_32 : decode b_Mod_mean 32 = .ok (.istore_n 2, 1) := by decide +kernel
theorem d_Mod_mean_33 : decode b_Mod_mean 33 = .ok (.iinc 3 1, 3) := by decide +kernel
theorem d_Mod_mean_36 : decode b_Mod_mean 36 = .ok (.goto (-16), 3) := by decide +kernel
theorem d_Mod_mean_39 : decode b_Mod_mean 39 = .ok (.iload_n 2, 1) := by decide +kernel
theorem d_Mod_mean_40 : decode b_Mod_mean 40 = .ok (.ifCond .ne 8, 3) := by decide +kernel
theorem d_Mod_mean_43 : decode b_Mod_mean 43 = .ok (.iload_n 1, 1) := by decide +kernel
theorem d_Mod_mean_44 : decode b_Mod_mean 44 = .ok (.i2l, 1) := by decide +kernel
theorem d_Mod_mean_45 : decode b_Mod_mean 45 = .ok (.goto 14, 3) := by decide +kernel
theorem d_Mod_mean_48 : decode b_Mod_mean 48 = .ok (.iload_n 2, 1) := by decide +kernel
theorem d_Mod_mean_49 : decode b_Mod_mean 49 = .ok (.i2l, 1) := by decide +kernel
theorem d_Mod_mean_50 : decode b_Mod_mean 50 = .ok (.aload_n 0, 1) := by decide +kernel
theorem d_Mod_mean_51 : decode b_Mod_mean 51 = .ok (.invokevirtual 300, 3) := by decide +kernel
theorem d_Mod_mean_54 : decode b_Mod_mean 54 = .ok (.i2l, 1) := by decide +kernel
theorem d_Mod_mean_55 : decode b_Mod_mean 55 = .ok (.iload_n 1, 1) := by decide +kernel
theorem d_Mod_mean_56 : decode b_Mod_mean 56 = .ok (.invokestatic 342, 3) := by decide +kernel
theorem d_Mod_mean_59 : decode b_Mod_mean 59 = .ok (.lreturn, 1) := by decide +kernel
def m_Mod_mean_20 : Nat → Int → Int → Int → (Int → Int) → (Int → Int) → (Int → Int) → Option (Int × (Int → Int))
  | 0, _, _, _, _, _, _ => none
  | fuel + 1, v1, v2, v3, m_refused, m_block, m_written =>
  clt v3 4 (bnd (m_Mod_placedOf v3 m_block) (fun r7 => m_Mod_mean_20 fuel v1 (v2 + r7) (v3 + 1) m_refused m_block m_written)) (ceq v2 0 (gd (zr v1) (some (v1, m_refused))) (gd (zr v2) (bnd (m_Mod_allExtents m_block m_written) (fun r3 => gd (zr r3) (bnd (m_Mod_partOf v2 r3 v1) (fun r5 => some (r5, m_refused)))))))
def m_Mod_mean (x1 : Int) (m_refused : Int → Int) (m_block : Int → Int) (m_written : Int → Int) : Option (Int × (Int → Int)) :=
  bnd (m_Mod_isIn x1 0 1) (fun r1 => ceq r1 0 (bnd (m_Mod_lowestOf (-2) m_refused) (fun r9 => some (r9.1, r9.2))) (m_Mod_mean_20 5000 x1 0 0 m_refused m_block m_written))
set_option maxHeartbeats 4000000 in
set_option maxRecDepth 100000 in
theorem l_Mod_mean_20 {G : GT} {l : Launch} {D : va_G} {cI cB : ClassId} {a0 a1 a2 a3 a4 a5 a6 a7 a8 a9 a10 a11 a12 a13 a14 a15 : Nat} {m_stepsMade : Int} {m_stepsMost : Int} {m_taped : Int} {m_reading : Int} {m_statements : Int} {m_telling : Int} {m_hasImage : Int} {m_isKeeping : Int} {m_cursor : Int} {m_rowMany : Int} {m_lots : Int} {m_bytes : Int → Int} {m_owner : Int → Int} {m_waits : Int → Int} {m_kinds : Int → Int} {m_tape : Int → Int} {m_sort : Int → Int} {m_sortAt : Int → Int} {m_told : Int → Int} {m_kept : Int → Int} {m_was : Int → Int} {m_ends : Int → Int} {m_row : Int → Int} (X : Cx G l D cI cB b_Mod_mean y_Mod_mean.cls 4 { frames := 4, cells := 0, slots := 0, locals := 87 }) : ∀ (fuel : Nat) (v1 : Int) (v2 : Int) (v3 : Int) (m_refused : Int → Int) (m_block : Int → Int) (m_written : Int → Int) (o : Int × (Int → Int)), m_Mod_mean_20 fuel v1 v2 v3 m_refused m_block m_written = some o → Rt G (some .long) (some (.long (zl o.1))) (w_Mod cI cB a0 a1 a2 a3 a4 a5 a6 a7 a8 a9 a10 a11 a12 a13 a14 a15 m_stepsMade m_stepsMost m_taped m_reading m_statements m_telling m_hasImage m_isKeeping m_cursor m_rowMany m_lots o.2 m_bytes m_owner m_block m_written m_waits m_kinds m_tape m_sort m_sortAt m_told m_kept m_was m_ends m_row) → Wx G 0 0 20 [(0, .ref a0), (1, .int (zi v1)), (2, .int (zi v2)), (3, .int (zi v3))] [] (w_Mod cI cB a0 a1 a2 a3 a4 a5 a6 a7 a8 a9 a10 a11 a12 a13 a14 a15 m_stepsMade m_stepsMost m_taped m_reading m_statements m_telling m_hasImage m_isKeeping m_cursor m_rowMany m_lots m_refused m_bytes m_owner m_block m_written m_waits m_kinds m_tape m_sort m_sortAt m_told m_kept m_was m_ends m_row) := by
  intro fuel
  induction fuel with
  | zero =>
    intro v1 v2 v3 m_refused m_block m_written o h
    exact absurd h (by simp [m_Mod_mean_20])
  | succ fuel ih =>
    intro v1 v2 v3 m_refused m_block m_written o h hR
    rw [m_Mod_mean_20] at h
    refine x_iload_n (pc := 20) X d_Mod_mean_20 3 rfl rfl ?_
    refine x_iconst (pc := 21) X d_Mod_mean_21  ?_
    refine x_icmpge (pc := 22) (tgt := 39) X d_Mod_mean_22 rfl h (fun h => ?_) (fun h => ?_)
    · skip
      refine x_iload_n (pc := 39) X d_Mod_mean_39 2 rfl rfl ?_
      refine x_ifne (pc := 40) (tgt := 48) X d_Mod_mean_40 rfl h (fun h => ?_) (fun h => ?_)
      · skip
        refine x_iload_n (pc := 48) X d_Mod_mean_48 2 rfl rfl ?_
        refine x_i2l (pc := 49) X d_Mod_mean_49 h (fun h => ?_)
        refine x_aload_n (pc := 50) X d_Mod_mean_50 0 rfl rfl ?_
        obtain ⟨r3, h4, h⟩ := bnd_e h
        refine x_callV (pc := 51) (As := []) (rest := [.long (zl v2)]) (w2 := (w_Mod cI cB a0 a1 a2 a3 a4 a5 a6 a7 a8 a9 a10 a11 a12 a13 a14 a15 m_stepsMade m_stepsMost m_taped m_reading m_statements m_telling m_hasImage m_isKeeping m_cursor m_rowMany m_lots m_refused m_bytes m_owner m_block m_written m_waits m_kinds m_tape m_sort m_sortAt m_told m_kept m_was m_ends m_row)) X d_Mod_mean_51 lk_Mod_300 mv_Mod_allExtents (c_Mod_allExtents l D cI cB a0 a1 a2 a3 a4 a5 a6 a7 a8 a9 a10 a11 a12 a13 a14 a15 m_stepsMade m_stepsMost m_taped m_reading m_statements m_telling m_hasImage m_isKeeping m_cursor m_rowMany m_lots m_refused m_bytes m_owner m_block m_written m_waits m_kinds m_tape m_sort m_sortAt m_told m_kept m_was m_ends m_row h4) ⟨(Nat.le_of_ble_eq_true rfl), (Nat.le_of_ble_eq_true rfl), (Nat.le_of_ble_eq_true rfl), (Nat.le_of_ble_eq_true rfl)⟩ 0 rfl rfl [0, 1, 2, 3, 4, 5, 6, 7, 8, 9, 10, 11, 12, 13, 14, 15] rfl rfl rfl (Up.same rfl) rfl rfl (Nat.le_of_ble_eq_true rfl) ?_
        refine x_i2l (pc := 54) X d_Mod_mean_54 h (fun h => ?_)
        refine x_iload_n (pc := 55) X d_Mod_mean_55 1 rfl rfl ?_
        obtain ⟨r5, h6, h⟩ := bnd_e h
        refine x_callS (pc := 56) (As := [.long (zl v2), .long (zl r3), .int (zi v1)]) (rest := []) (w2 := (w_Mod cI cB a0 a1 a2 a3 a4 a5 a6 a7 a8 a9 a10 a11 a12 a13 a14 a15 m_stepsMade m_stepsMost m_taped m_reading m_statements m_telling m_hasImage m_isKeeping m_cursor m_rowMany m_lots m_refused m_bytes m_owner m_block m_written m_waits m_kinds m_tape m_sort m_sortAt m_told m_kept m_was m_ends m_row)) X d_Mod_mean_56 lk_Mod_342 mv_Mod_partOf (c_Mod_partOf l D cI cB v2 r3 v1 h6) ⟨(Nat.le_of_ble_eq_true rfl), (Nat.le_of_ble_eq_true rfl), (Nat.le_of_ble_eq_true rfl), (Nat.le_of_ble_eq_true rfl)⟩ [] rfl rfl rfl (Up.same rfl) rfl rfl (Nat.le_of_ble_eq_true rfl) ?_
        cases h
        exact x_lret (pc := 59) X hR d_Mod_mean_59
      · skip
        refine x_iload_n (pc := 43) X d_Mod_mean_43 1 rfl rfl ?_
        refine x_i2l (pc := 44) X d_Mod_mean_44 h (fun h => ?_)
        refine x_goto (pc := 45) (tgt := 59) X d_Mod_mean_45 rfl ?_
        cases h
        exact x_lret (pc := 59) X hR d_Mod_mean_59
    · skip
      refine x_iload_n (pc := 25) X d_Mod_mean_25 2 rfl rfl ?_
      refine x_aload_n (pc := 26) X d_Mod_mean_26 0 rfl rfl ?_
      refine x_iload_n (pc := 27) X d_Mod_mean_27 3 rfl rfl ?_
      obtain ⟨r7, h8, h⟩ := bnd_e h
      refine x_callV (pc := 28) (As := [.int (zi v3)]) (rest := [.int (zi v2)]) (w2 := (w_Mod cI cB a0 a1 a2 a3 a4 a5 a6 a7 a8 a9 a10 a11 a12 a13 a14 a15 m_stepsMade m_stepsMost m_taped m_reading m_statements m_telling m_hasImage m_isKeeping m_cursor m_rowMany m_lots m_refused m_bytes m_owner m_block m_written m_waits m_kinds m_tape m_sort m_sortAt m_told m_kept m_was m_ends m_row)) X d_Mod_mean_28 lk_Mod_156 mv_Mod_placedOf (c_Mod_placedOf l D cI cB a0 a1 a2 a3 a4 a5 a6 a7 a8 a9 a10 a11 a12 a13 a14 a15 m_stepsMade m_stepsMost m_taped m_reading m_statements m_telling m_hasImage m_isKeeping m_cursor m_rowMany m_lots m_refused m_bytes m_owner m_block m_written m_waits m_kinds m_tape m_sort m_sortAt m_told m_kept m_was m_ends m_row v3 h8) ⟨(Nat.le_of_ble_eq_true rfl), (Nat.le_of_ble_eq_true rfl), (Nat.le_of_ble_eq_true rfl), (Nat.le_of_ble_eq_true rfl)⟩ 0 rfl rfl [0, 1, 2, 3, 4, 5, 6, 7, 8, 9, 10, 11, 12, 13, 14, 15] rfl rfl rfl (Up.same rfl) rfl rfl (Nat.le_of_ble_eq_true rfl) ?_
      refine x_iadd (pc := 31) X d_Mod_mean_31  ?_
      refine x_istore_n (pc := 32) (ls2 := [(2, .int (zi (v2 + r7))), (0, .ref a0), (1, .int (zi v1)), (3, .int (zi v3))]) X d_Mod_mean_32 rfl (Nat.le_of_ble_eq_true rfl) rfl ?_
      refine x_iinc (pc := 33) (ls2 := [(3, .int (zi (v3 + 1))), (2, .int (zi (v2 + r7))), (0, .ref a0), (1, .int (zi v1))]) X d_Mod_mean_33 3 (Nat.le_of_ble_eq_true rfl) rfl rfl ?_
      refine x_goto (pc := 36) (tgt := 20) X d_Mod_mean_36 rfl ?_
      refine x_ls (ls2 := [(0, .ref a0), (1, .int (zi v1)), (2, .int (zi (v2 + r7))), (3, .int (zi (v3 + 1)))]) [2, 3, 1, 0] rfl ?_
      exact ih v1 (v2 + r7) (v3 + 1) m_refused m_block m_written o h hR
set_option maxHeartbeats 4000000 in
set_option maxRecDepth 100000 in
theorem c_Mod_mean (l : Launch) (D : va_G) (cI cB : ClassId) (a0 a1 a2 a3 a4 a5 a6 a7 a8 a9 a10 a11 a12 a13 a14 a15 : Nat) (m_stepsMade : Int) (m_stepsMost : Int) (m_taped : Int) (m_reading : Int) (m_statements : Int) (m_telling : Int) (m_hasImage : Int) (m_isKeeping : Int) (m_cursor : Int) (m_rowMany : Int) (m_lots : Int) (m_refused : Int → Int) (m_bytes : Int → Int) (m_owner : Int → Int) (m_block : Int → Int) (m_written : Int → Int) (m_waits : Int → Int) (m_kinds : Int → Int) (m_tape : Int → Int) (m_sort : Int → Int) (m_sortAt : Int → Int) (m_told : Int → Int) (m_kept : Int → Int) (m_was : Int → Int) (m_ends : Int → Int) (m_row : Int → Int) (x1 : Int) {o : Int × (Int → Int)} (h : m_Mod_mean x1 m_refused m_block m_written = some o) : Ct l D cI cB y_Mod_mean b_Mod_mean 4 (some .long) { frames := 4, cells := 0, slots := 0, locals := 87 } [.ref a0, .int (zi x1)] (w_Mod cI cB a0 a1 a2 a3 a4 a5 a6 a7 a8 a9 a10 a11 a12 a13 a14 a15 m_stepsMade m_stepsMost m_taped m_reading m_statements m_telling m_hasImage m_isKeeping m_cursor m_rowMany m_lots m_refused m_bytes m_owner m_block m_written m_waits m_kinds m_tape m_sort m_sortAt m_told m_kept m_was m_ends m_row) (w_Mod cI cB a0 a1 a2 a3 a4 a5 a6 a7 a8 a9 a10 a11 a12 a13 a14 a15 m_stepsMade m_stepsMost m_taped m_reading m_statements m_telling m_hasImage m_isKeeping m_cursor m_rowMany m_lots o.2 m_bytes m_owner m_block m_written m_waits m_kinds m_tape m_sort m_sortAt m_told m_kept m_was m_ends m_row) (some (.long (zl o.1))) := by
  refine Ct.start (by decide) (Nat.le_of_ble_eq_true rfl) (fun G X hR => ?_)
  refine x_ls (ls2 := [(0, .ref a0), (1, .int (zi x1))]) [0, 1] rfl ?_
  unfold m_Mod_mean at h
  refine x_iload_n (pc := 0) X d_Mod_mean_0 1 rfl rfl ?_
  refine x_iconst (pc := 1) X d_Mod_mean_1  ?_
  refine x_iconst (pc := 2) X d_Mod_mean_2  ?_
  obtain ⟨r1, h2, h⟩ := bnd_e h
  refine x_callS (pc := 3) (As := [.int (zi x1), .int (zi 0), .int (zi 1)]) (rest := []) (w2 := (w_Mod cI cB a0 a1 a2 a3 a4 a5 a6 a7 a8 a9 a10 a11 a12 a13 a14 a15 m_stepsMade m_stepsMost m_taped m_reading m_statements m_telling m_hasImage m_isKeeping m_cursor m_rowMany m_lots m_refused m_bytes m_owner m_block m_written m_waits m_kinds m_tape m_sort m_sortAt m_told m_kept m_was m_ends m_row)) X d_Mod_mean_3 lk_Mod_58 mv_Mod_isIn (c_Mod_isIn l D cI cB x1 0 1 h2) ⟨(Nat.le_of_ble_eq_true rfl), (Nat.le_of_ble_eq_true rfl), (Nat.le_of_ble_eq_true rfl), (Nat.le_of_ble_eq_true rfl)⟩ [] rfl rfl rfl (Up.same rfl) rfl rfl (Nat.le_of_ble_eq_true rfl) ?_
  refine x_ifne (pc := 6) (tgt := 16) X d_Mod_mean_6 rfl h (fun h => ?_) (fun h => ?_)
  · skip
    refine x_iconst (pc := 16) X d_Mod_mean_16  ?_
    refine x_istore_n (pc := 17) (ls2 := [(2, .int (zi 0)), (0, .ref a0), (1, .int (zi x1))]) X d_Mod_mean_17 rfl (Nat.le_of_ble_eq_true rfl) rfl ?_
    refine x_iconst (pc := 18) X d_Mod_mean_18  ?_
    refine x_istore_n (pc := 19) (ls2 := [(3, .int (zi 0)), (2, .int (zi 0)), (0, .ref a0), (1, .int (zi x1))]) X d_Mod_mean_19 rfl (Nat.le_of_ble_eq_true rfl) rfl ?_
    refine x_ls (ls2 := [(0, .ref a0), (1, .int (zi x1)), (2, .int (zi 0)), (3, .int (zi 0))]) [2, 3, 1, 0] rfl ?_
    exact l_Mod_mean_20 X 5000 x1 0 0 m_refused m_block m_written o h hR
  · skip
    refine x_aload_n (pc := 9) X d_Mod_mean_9 0 rfl rfl ?_
    refine x_bipush (pc := 10) (v := -2) X d_Mod_mean_10 rfl ?_
    obtain ⟨r9, h10, h⟩ := bnd_e h
    refine x_callV (pc := 12) (As := [.int (zi (-2))]) (rest := []) (w2 := (w_Mod cI cB a0 a1 a2 a3 a4 a5 a6 a7 a8 a9 a10 a11 a12 a13 a14 a15 m_stepsMade m_stepsMost m_taped m_reading m_statements m_telling m_hasImage m_isKeeping m_cursor m_rowMany m_lots r9.2 m_bytes m_owner m_block m_written m_waits m_kinds m_tape m_sort m_sortAt m_told m_kept m_was m_ends m_row)) X d_Mod_mean_12 lk_Mod_338 mv_Mod_lowestOf (c_Mod_lowestOf l D cI cB a0 a1 a2 a3 a4 a5 a6 a7 a8 a9 a10 a11 a12 a13 a14 a15 m_stepsMade m_stepsMost m_taped m_reading m_statements m_telling m_hasImage m_isKeeping m_cursor m_rowMany m_lots m_refused m_bytes m_owner m_block m_written m_waits m_kinds m_tape m_sort m_sortAt m_told m_kept m_was m_ends m_row (-2) h10) ⟨(Nat.le_of_ble_eq_true rfl), (Nat.le_of_ble_eq_true rfl), (Nat.le_of_ble_eq_true rfl), (Nat.le_of_ble_eq_true rfl)⟩ 0 rfl rfl [0, 1, 2, 3, 4, 5, 6, 7, 8, 9, 10, 11, 12, 13, 14, 15] rfl rfl rfl (Up.of [] [] rfl rfl rfl 16 rfl (by decide +kernel)) rfl rfl (Nat.le_of_ble_eq_true rfl) ?_
    cases h
    exact x_lret (pc := 15) X hR d_Mod_mean_15
theorem d_Mod_isPlacedSo_0 : decode b_Mod_isPlacedSo 0 = .ok (.iconst 0, 1) := by decide +kernel
theorem d_Mod_isPlacedSo_1 : decode b_Mod_isPlacedSo 1 = .ok (.istore_n 2, 1) := by decide +kernel
theorem d_Mod_isPlacedSo_2 : decode b_Mod_isPlacedSo 2 = .ok (.bipush 24, 2) := by decide +kernel
theorem d_Mod_isPlacedSo_4 : decode b_Mod_isPlacedSo 4 = .ok (.iload_n 1, 1) := by decide +kernel
theorem d_Mod_isPlacedSo_5 : decode b_Mod_isPlacedSo 5 = .ok (.imul, 1) := by decide +kernel
theorem d_Mod_isPlacedSo_6 : decode b_Mod_isPlacedSo 6 = .ok (.istore_n 3, 1) := by decide +kernel
theorem d_Mod_isPlacedSo_7 : decode b_Mod_isPlacedSo 7 = .ok (.iload_n 3, 1) := by decide +kernel
theorem d_Mod_isPlacedSo_8 : decode b_Mod_isPlacedSo 8 = .ok (.bipush 24, 2) := by decide +kernel
theorem d_Mod_isPlacedSo_10 : decode b_Mod_isPlacedSo 10 = .ok (.iload_n 1, 1) := by decide +kernel
theorem d_Mod_isPlacedSo_11 : decode b_Mod_isPlacedSo 11 = .ok (.imul, 1) := by decide +kernel
theorem d_Mod_isPlacedSo_12 : decode b_Mod_isPlacedSo 12 = .ok (.bipush 24, 2) := by decide +kernel
theorem d_Mod_isPlacedSo_14 : decode b_Mod_isPlacedSo 14 = .ok (.iadd, 1) := by decide +kernel
theorem d_Mod_isPlacedSo_15 : decode b_Mod_isPlacedSo 15 = .ok (.if_icmp .ge 49, 3) := by decide +kernel
theorem d_Mod_isPlacedSo_18 : decode b_Mod_isPlacedSo 18 = .ok (.aload_n 0, 1) := by decide +kernel
theorem d_Mod_isPlacedSo_19 : decode b_Mod_isPlacedSo 19 = .ok (.getfield 46, 3) := by decide +kernel
theorem d_Mod_isPlacedSo_22 : decode b_Mod_isPlacedSo 22 = .ok (.iload_n 3, 1) := by decide +kernel
theorem d_Mod_isPlacedSo_23 : decode b_Mod_isPlacedSo 23 = .ok (.iaload, 1) := by decide +kernel
theorem d_Mod_isPlacedSo_24 : decode b_Mod_isPlacedSo 24 = .ok (.ifCond .eq 34, 3) := by decide +kernel
theorem d_Mod_isPlacedSo_27 : decode b_Mod_isPlacedSo 27 = .ok (.iload_n 2, 1) := by decide +kernel
theorem d_Mod_isPlacedSo_28 : decode b_Mod_isPlacedSo 28 = .ok (.aload_n 0, 1) := by decide +kernel
theorem d_Mod_isPlacedSo_29 : decode b_Mod_isPlacedSo 29 = .ok (.getfield 349, 3) := by decide +kernel
theorem d_Mod_isPlacedSo_32 : decode b_Mod_isPlacedSo 32 = .ok (.if_icmp .ne 6, 3) := by decide +kernel
theorem d_Mod_isPlacedSo_35 : decode b_Mod_isPlacedSo 35 = .ok (.goto 23, 3) := by decide +kernel
theorem d_Mod_isPlacedSo_38 : decode b_Mod_isPlacedSo 38 = .ok (.aload_n 0, 1) := by decide +kernel
theorem d_Mod_isPlacedSo_39 : decode b_Mod_isPlacedSo 39 = .ok (.getfield 19, 3) := by decide +kernel
theorem d_Mod_isPlacedSo_42 : decode b_Mod_isPlacedSo 42 = .ok (.iload_n 3, 1) := by decide +kernel
theorem d_Mod_isPlacedSo_43 : decode b_Mod_isPlacedSo 43 = .ok (.iaload, 1) := by decide +kernel
theorem d_Mod_isPlacedSo_44 : decode b_Mod_isPlacedSo 44 = .ok (.aload_n 0, 1) := by decide +kernel
theorem d_Mod_isPlacedSo_45 : decode b_Mod_isPlacedSo 45 = .ok (.getfield 52, 3) := by decide +kernel
theorem d_Mod_isPlacedSo_48 : decode b_Mod_isPlacedSo 48 = .ok (.iload_n 2, 1) := by decide +kernel
theorem d_Mod_isPlacedSo_49 : decode b_Mod_isPlacedSo 49 = .ok (.iaload, 1) := by decide +kernel
theorem d_Mod_isPlacedSo_50 : decode b_Mod_isPlacedSo 50 = .ok (.if_icmp .eq 5, 3) := by decide +kernel
theorem d_Mod_isPlacedSo_53 : decode b_Mod_isPlacedSo 53 = .ok (.iconst 0, 1) := by decide +kernel
theorem d_Mod_isPlacedSo_54 : decode b_Mod_isPlacedSo 54 = .ok (.ireturn, 1) := by decide +kernel
theorem d_Mod_isPlacedSo_55 : decode b_Mod_isPlacedSo 55 = .ok (.iinc 2 1, 3) := by decide +kernel
theorem d_Mod_isPlacedSo_58 : decode b_Mod_isPlacedSo 58 = .ok (.iinc 3 1, 3) := by decide +kernel
theorem d_Mod_isPlacedSo_61 : decode b_Mod_isPlacedSo 61 = .ok (.goto (-54), 3) := by decide +kernel
theorem d_Mod_isPlacedSo_64 : decode b_Mod_isPlacedSo 64 = .ok (.iconst 1, 1) := by decide +kernel
theorem d_Mod_isPlacedSo_65 : decode b_Mod_isPlacedSo 65 = .ok (.ireturn, 1) := by decide +kernel
def m_Mod_isPlacedSo_7 : Nat → Int → Int → Int → Int → (Int → Int) → (Int → Int) → (Int → Int) → Option (Int)
  | 0, _, _, _, _, _, _, _ => none
  | fuel + 1, v1, v2, v3, m_rowMany, m_block, m_was, m_row =>
  clt v3 ((24 * v1) + 24) (gd (zx v3 96) (ceq (m_was v3) 0 (m_Mod_isPlacedSo_7 fuel v1 v2 (v3 + 1) m_rowMany m_block m_was m_row) (ceq v2 m_rowMany (m_Mod_isPlacedSo_7 fuel v1 v2 (v3 + 1) m_rowMany m_block m_was m_row) (gd (zx v3 96) (gd (zx v2 32) (ceq (m_block v3) (m_row v2) (m_Mod_isPlacedSo_7 fuel v1 (v2 + 1) (v3 + 1) m_rowMany m_block m_was m_row) (some (0)))))))) (some (1))
def m_Mod_isPlacedSo (x1 : Int) (m_rowMany : Int) (m_block : Int → Int) (m_was : Int → Int) (m_row : Int → Int) : Option (Int) :=
  m_Mod_isPlacedSo_7 5000 x1 0 (24 * x1) m_rowMany m_block m_was m_row
set_option maxHeartbeats 4000000 in
set_option maxRecDepth 100000 in
theorem l_Mod_isPlacedSo_7 {G : GT} {l : Launch} {D : va_G} {cI cB : ClassId} {a0 a1 a2 a3 a4 a5 a6 a7 a8 a9 a10 a11 a12 a13 a14 a15 : Nat} {m_stepsMade : Int} {m_stepsMost : Int} {m_taped : Int} {m_reading : Int} {m_statements : Int} {m_telling : Int} {m_hasImage : Int} {m_isKeeping : Int} {m_cursor : Int} {m_lots : Int} {m_refused : Int → Int} {m_bytes : Int → Int} {m_owner : Int → Int} {m_written : Int → Int} {m_waits : Int → Int} {m_kinds : Int → Int} {m_tape : Int → Int} {m_sort : Int → Int} {m_sortAt : Int → Int} {m_told : Int → Int} {m_kept : Int → Int} {m_ends : Int → Int} (X : Cx G l D cI cB b_Mod_isPlacedSo y_Mod_isPlacedSo.cls 4 { frames := 0, cells := 0, slots := 0, locals := 0 }) : ∀ (fuel : Nat) (v1 : Int) (v2 : Int) (v3 : Int) (m_rowMany : Int) (m_block : Int → Int) (m_was : Int → Int) (m_row : Int → Int) (o : Int), m_Mod_isPlacedSo_7 fuel v1 v2 v3 m_rowMany m_block m_was m_row = some o → Rt G (some .boolean) (some (.int (zi o))) (w_Mod cI cB a0 a1 a2 a3 a4 a5 a6 a7 a8 a9 a10 a11 a12 a13 a14 a15 m_stepsMade m_stepsMost m_taped m_reading m_statements m_telling m_hasImage m_isKeeping m_cursor m_rowMany m_lots m_refused m_bytes m_owner m_block m_written m_waits m_kinds m_tape m_sort m_sortAt m_told m_kept m_was m_ends m_row) → Wx G 0 0 7 [(0, .ref a0), (1, .int (zi v1)), (2, .int (zi v2)), (3, .int (zi v3))] [] (w_Mod cI cB a0 a1 a2 a3 a4 a5 a6 a7 a8 a9 a10 a11 a12 a13 a14 a15 m_stepsMade m_stepsMost m_taped m_reading m_statements m_telling m_hasImage m_isKeeping m_cursor m_rowMany m_lots m_refused m_bytes m_owner m_block m_written m_waits m_kinds m_tape m_sort m_sortAt m_told m_kept m_was m_ends m_row) := by
  intro fuel
  induction fuel with
  | zero =>
    intro v1 v2 v3 m_rowMany m_block m_was m_row o h
    exact absurd h (by simp [m_Mod_isPlacedSo_7])
  | succ fuel ih =>
    intro v1 v2 v3 m_rowMany m_block m_was m_row o h hR
    rw [m_Mod_isPlacedSo_7] at h
    refine x_iload_n (pc := 7) X d_Mod_isPlacedSo_7 3 rfl rfl ?_
    refine x_bipush (pc := 8) (v := 24) X d_Mod_isPlacedSo_8 rfl ?_
    refine x_iload_n (pc := 10) X d_Mod_isPlacedSo_10 1 rfl rfl ?_
    refine x_imul (pc := 11) X d_Mod_isPlacedSo_11  ?_
    refine x_bipush (pc := 12) (v := 24) X d_Mod_isPlacedSo_12 rfl ?_
    refine x_iadd (pc := 14) X d_Mod_isPlacedSo_14  ?_
    refine x_icmpge (pc := 15) (tgt := 64) X d_Mod_isPlacedSo_15 rfl h (fun h => ?_) (fun h => ?_)
    · skip
      refine x_iconst (pc := 64) X d_Mod_isPlacedSo_64  ?_
      cases h
      exact x_zret (pc := 65) X hR d_Mod_isPlacedSo_65 (Or.inr rfl)
    · skip
      refine x_aload_n (pc := 18) X d_Mod_isPlacedSo_18 0 rfl rfl ?_
      refine x_get (pc := 19) X d_Mod_isPlacedSo_19 0 rfl fl_Mod_46 rfl ?_
      refine x_iload_n (pc := 22) X d_Mod_isPlacedSo_22 3 rfl rfl ?_
      refine x_iald (pc := 23) X d_Mod_isPlacedSo_23 13 rfl (Nat.le_of_ble_eq_true rfl) rfl h (fun h => ?_)
      refine x_ifeq (pc := 24) (tgt := 58) X d_Mod_isPlacedSo_24 rfl h (fun h => ?_) (fun h => ?_)
      · skip
        refine x_iinc (pc := 58) (ls2 := [(3, .int (zi (v3 + 1))), (0, .ref a0), (1, .int (zi v1)), (2, .int (zi v2))]) X d_Mod_isPlacedSo_58 3 (Nat.le_of_ble_eq_true rfl) rfl rfl ?_
        refine x_goto (pc := 61) (tgt := 7) X d_Mod_isPlacedSo_61 rfl ?_
        refine x_ls (ls2 := [(0, .ref a0), (1, .int (zi v1)), (2, .int (zi v2)), (3, .int (zi (v3 + 1)))]) [1, 2, 3, 0] rfl ?_
        exact ih v1 v2 (v3 + 1) m_rowMany m_block m_was m_row o h hR
      · skip
        refine x_iload_n (pc := 27) X d_Mod_isPlacedSo_27 2 rfl rfl ?_
        refine x_aload_n (pc := 28) X d_Mod_isPlacedSo_28 0 rfl rfl ?_
        refine x_get (pc := 29) X d_Mod_isPlacedSo_29 0 rfl fl_Mod_349 rfl ?_
        refine x_icmpne (pc := 32) (tgt := 38) X d_Mod_isPlacedSo_32 rfl h (fun h => ?_) (fun h => ?_)
        · skip
          refine x_aload_n (pc := 38) X d_Mod_isPlacedSo_38 0 rfl rfl ?_
          refine x_get (pc := 39) X d_Mod_isPlacedSo_39 0 rfl fl_Mod_19 rfl ?_
          refine x_iload_n (pc := 42) X d_Mod_isPlacedSo_42 3 rfl rfl ?_
          refine x_iald (pc := 43) X d_Mod_isPlacedSo_43 4 rfl (Nat.le_of_ble_eq_true rfl) rfl h (fun h => ?_)
          refine x_aload_n (pc := 44) X d_Mod_isPlacedSo_44 0 rfl rfl ?_
          refine x_get (pc := 45) X d_Mod_isPlacedSo_45 0 rfl fl_Mod_52 rfl ?_
          refine x_iload_n (pc := 48) X d_Mod_isPlacedSo_48 2 rfl rfl ?_
          refine x_iald (pc := 49) X d_Mod_isPlacedSo_49 15 rfl (Nat.le_of_ble_eq_true rfl) rfl h (fun h => ?_)
          refine x_icmpeq (pc := 50) (tgt := 55) X d_Mod_isPlacedSo_50 rfl h (fun h => ?_) (fun h => ?_)
          · skip
            refine x_iinc (pc := 55) (ls2 := [(2, .int (zi (v2 + 1))), (0, .ref a0), (1, .int (zi v1)), (3, .int (zi v3))]) X d_Mod_isPlacedSo_55 2 (Nat.le_of_ble_eq_true rfl) rfl rfl ?_
            refine x_iinc (pc := 58) (ls2 := [(3, .int (zi (v3 + 1))), (2, .int (zi (v2 + 1))), (0, .ref a0), (1, .int (zi v1))]) X d_Mod_isPlacedSo_58 3 (Nat.le_of_ble_eq_true rfl) rfl rfl ?_
            refine x_goto (pc := 61) (tgt := 7) X d_Mod_isPlacedSo_61 rfl ?_
            refine x_ls (ls2 := [(0, .ref a0), (1, .int (zi v1)), (2, .int (zi (v2 + 1))), (3, .int (zi (v3 + 1)))]) [2, 3, 1, 0] rfl ?_
            exact ih v1 (v2 + 1) (v3 + 1) m_rowMany m_block m_was m_row o h hR
          · skip
            refine x_iconst (pc := 53) X d_Mod_isPlacedSo_53  ?_
            cases h
            exact x_zret (pc := 54) X hR d_Mod_isPlacedSo_54 (Or.inl rfl)
        · skip
          refine x_goto (pc := 35) (tgt := 58) X d_Mod_isPlacedSo_35 rfl ?_
          refine x_iinc (pc := 58) (ls2 := [(3, .int (zi (v3 + 1))), (0, .ref a0), (1, .int (zi v1)), (2, .int (zi v2))]) X d_Mod_isPlacedSo_58 3 (Nat.le_of_ble_eq_true rfl) rfl rfl ?_
          refine x_goto (pc := 61) (tgt := 7) X d_Mod_isPlacedSo_61 rfl ?_
          refine x_ls (ls2 := [(0, .ref a0), (1, .int (zi v1)), (2, .int (zi v2)), (3, .int (zi (v3 + 1)))]) [1, 2, 3, 0] rfl ?_
          exact ih v1 v2 (v3 + 1) m_rowMany m_block m_was m_row o h hR
set_option maxHeartbeats 4000000 in
set_option maxRecDepth 100000 in
theorem c_Mod_isPlacedSo (l : Launch) (D : va_G) (cI cB : ClassId) (a0 a1 a2 a3 a4 a5 a6 a7 a8 a9 a10 a11 a12 a13 a14 a15 : Nat) (m_stepsMade : Int) (m_stepsMost : Int) (m_taped : Int) (m_reading : Int) (m_statements : Int) (m_telling : Int) (m_hasImage : Int) (m_isKeeping : Int) (m_cursor : Int) (m_rowMany : Int) (m_lots : Int) (m_refused : Int → Int) (m_bytes : Int → Int) (m_owner : Int → Int) (m_block : Int → Int) (m_written : Int → Int) (m_waits : Int → Int) (m_kinds : Int → Int) (m_tape : Int → Int) (m_sort : Int → Int) (m_sortAt : Int → Int) (m_told : Int → Int) (m_kept : Int → Int) (m_was : Int → Int) (m_ends : Int → Int) (m_row : Int → Int) (x1 : Int) {o : Int} (h : m_Mod_isPlacedSo x1 m_rowMany m_block m_was m_row = some o) : Ct l D cI cB y_Mod_isPlacedSo b_Mod_isPlacedSo 4 (some .boolean) { frames := 0, cells := 0, slots := 0, locals := 0 } [.ref a0, .int (zi x1)] (w_Mod cI cB a0 a1 a2 a3 a4 a5 a6 a7 a8 a9 a10 a11 a12 a13 a14 a15 m_stepsMade m_stepsMost m_taped m_reading m_statements m_telling m_hasImage m_isKeeping m_cursor m_rowMany m_lots m_refused m_bytes m_owner m_block m_written m_waits m_kinds m_tape m_sort m_sortAt m_told m_kept m_was m_ends m_row) (w_Mod cI cB a0 a1 a2 a3 a4 a5 a6 a7 a8 a9 a10 a11 a12 a13 a14 a15 m_stepsMade m_stepsMost m_taped m_reading m_statements m_telling m_hasImage m_isKeeping m_cursor m_rowMany m_lots m_refused m_bytes m_owner m_block m_written m_waits m_kinds m_tape m_sort m_sortAt m_told m_kept m_was m_ends m_row) (some (.int (zi o))) := by
  refine Ct.start (by decide) (Nat.le_of_ble_eq_true rfl) (fun G X hR => ?_)
  refine x_ls (ls2 := [(0, .ref a0), (1, .int (zi x1))]) [0, 1] rfl ?_
  unfold m_Mod_isPlacedSo at h
  refine x_iconst (pc := 0) X d_Mod_isPlacedSo_0  ?_
  refine x_istore_n (pc := 1) (ls2 := [(2, .int (zi 0)), (0, .ref a0), (1, .int (zi x1))]) X d_Mod_isPlacedSo_1 rfl (Nat.le_of_ble_eq_true rfl) rfl ?_
  refine x_bipush (pc := 2) (v := 24) X d_Mod_isPlacedSo_2 rfl ?_
  refine x_iload_n (pc := 4) X d_Mod_isPlacedSo_4 2 rfl rfl ?_
  refine x_imul (pc := 5) X d_Mod_isPlacedSo_5  ?_
  refine x_istore_n (pc := 6) (ls2 := [(3, .int (zi (24 * x1))), (2, .int (zi 0)), (0, .ref a0), (1, .int (zi x1))]) X d_Mod_isPlacedSo_6 rfl (Nat.le_of_ble_eq_true rfl) rfl ?_
  refine x_ls (ls2 := [(0, .ref a0), (1, .int (zi x1)), (2, .int (zi 0)), (3, .int (zi (24 * x1)))]) [2, 3, 1, 0] rfl ?_
  exact l_Mod_isPlacedSo_7 X 5000 x1 0 (24 * x1) m_rowMany m_block m_was m_row o h hR
theorem d_Mod_which_0 : decode b_Mod_which 0 = .ok (.iload_n 1, 1) := by decide +kernel
theorem d_Mod_which_1 : decode b_Mod_which 1 = .ok (.invokestatic 230, 3) := by decide +kernel
theorem d_Mod_which_4 : decode b_Mod_which 4 = .ok (.ifCond .ne 9, 3) := by decide +kernel
theorem d_Mod_which_7 : decode b_Mod_which 7 = .ok (.aload_n 0, 1) := by decide +kernel
theorem d_Mod_which_8 : decode b_Mod_which 8 = .ok (.iconst (-1), 1) := by decide +kernel
theorem d_Mod_which_9 : decode b_Mod_which 9 = .ok (.invokevirtual 172, 3) := by decide +kernel
theorem d_Mod_which_12 : decode b_Mod_which 12 = .ok (.ireturn, 1) := by decide +kernel
theorem d_Mod_which_13 : decode b_Mod_which 13 = .ok (.aload_n 0, 1) := by decide +kernel
theorem d_Mod_which_14 : decode b_Mod_which 14 = .ok (.getfield 349, 3) := by decide +kernel
theorem d_Mod_which_17 : decode b_Mod_which 17 = .ok (.aload_n 0, 1) := by decide +kernel
theorem d_Mod_which_18 : decode b_Mod_which 18 = .ok (.iload_n 1, 1) := by decide +kernel
theorem d_Mod_which_19 : decode b_Mod_which 19 = .ok (.iconst 1, 1) := by decide +kernel
theorem d_Mod_which_20 : decode b_Mod_which 20 = .ok (.invokevirtual 272, 3) := by decide +kernel
theorem d_Mod_which_23 : decode b_Mod_which 23 = .ok (.if_icmp .le 10, 3) := by decide +kernel
theorem d_Mod_which_26 : decode b_Mod_which 26 = .ok (.aload_n 0, 1) := by decide +kernel
theorem d_Mod_which_27 : decode b_Mod_which 27 = .ok (.bipush (-3), 2) := by decide +kernel
theorem d_Mod_which_29 : decode b_Mod_which 29 = .ok (.invokevirtual 172, 3) := by decide +kernel
theorem d_Mod_which_32 : decode b_Mod_which 32 = .ok (.ireturn, 1) := by decide +kernel
theorem d_Mod_which_33 : decode b_Mod_which 33 = .ok (.iconst 0, 1) := by decide +kernel
theorem d_Mod_which_34 : decode b_Mod_which 34 = .ok (.istore_n 2, 1) := by decide +kernel
theorem d_Mod_which_35 : decode b_Mod_which 35 = .ok (.iload_n 2, 1) := by decide +kernel
theorem d_Mod_which_36 : decode b_Mod_which 36 = .ok (.bipush 96, 2) := by decide +kernel
theorem d_Mod_which_38 : decode b_Mod_which 38 = .ok (.if_icmp .ge 28, 3) := by decide +kernel
theorem d_Mod_which_41 : decode b_Mod_which 41 = .ok (.aload_n 0, 1) := by decide +kernel
theorem d_Mod_which_42 : decode b_Mod_which 42 = .ok (.getfield 46, 3) := by decide +kernel
theorem d_Mod_which_45 : decode b_Mod_which 45 = .ok (.iload_n 2, 1) := by decide +kernel
theorem d_Mod_which_46 : decode b_Mod_which 46 = .ok (.aload_n 0, 1) := by decide +kernel
theorem d_Mod_which_47 : decode b_Mod_which 47 = .ok (.iload_n 2, 1) := by decide +kernel
theorem d_Mod_which_48 : decode b_Mod_which 48 = .ok (.invokevirtual 69, 3) := by decide +kernel
theorem d_Mod_which_51 : decode b_Mod_which 51 = .ok (.ifCond .eq 7, 3) := by decide +kernel
theorem d_Mod_which_54 : decode b_Mod_which 54 = .ok (.iconst 1, 1) := by decide +kernel
theorem d_Mod_which_55 : decode b_Mod_which 55 = .ok (.goto 4, 3) := by decide +kernel
theorem d_Mod_which_58 : decode b_Mod_which 58 = .ok (.iconst 0, 1) := by decide +kernel
theorem d_Mod_which_59 : decode b_Mod_which 59 = .ok (.iastore, 1) := by decide +kernel
theorem d_Mod_which_60 : decode b_Mod_which 60 = .ok (.iinc 2 1, 3) := by decide +kernel
theorem d_Mod_which_63 : decode b_Mod_which 63 = .ok (.goto (-28), 3) := by decide +kernel
theorem d_Mod_which_66 : decode b_Mod_which 66 = .ok (.aload_n 0, 1) := by decide +kernel
theorem d_Mod_which_67 : decode b_Mod_which 67 = .ok (.getfield 28, 3) := by decide +kernel
theorem d_Mod_which_70 : decode b_Mod_which 70 = .ok (.iload_n 1, 1) := by decide +kernel
theorem d_Mod_which_71 : decode b_Mod_which 71 = .ok (.iaload, 1) := by decide +kernel
theorem d_Mod_which_72 : decode b_Mod_which 72 = .ok (.istore_n 2, 1) := by decide +kernel
theorem d_Mod_which_73 : decode b_Mod_which 73 = .ok (.iconst 0, 1) := by decide +kernel
theorem d_Mod_which_74 : decode b_Mod_which 74 = .ok (.istore_n 3, 1) := by decide +kernel
theorem d_Mod_which_75 : decode b_Mod_which 75 = .ok (.iconst 0, 1) := by decide +kernel
theorem d_Mod_which_76 : decode b_Mod_which 76 = .ok (.istore 4, 2) := by decide +kernel
theorem d_Mod_which_78 : decode b_Mod_which 78 = .ok (.iload 4, 2) := by decide +kernel
theorem d_Mod_which_80 : decode b_Mod_which 80 = .ok (.bipush 6, 2) := by decide +kernel
theorem d_Mod_which_82 : decode b_Mod_which 82 = .ok (.if_icmp .ge 52, 3) := by decide +kernel
theorem d_Mod_which_85 : decode b_Mod_which 85 = .ok (.aload_n 0, 1) := by decide +kernel
theorem d_Mod_which_86 : decode b_Mod_which 86 = .ok (.getfield 28, 3) := by decide +kernel
theorem d_Mod_which_89 : decode b_Mod_which 89 = .ok (.iload_n 1, 1) := by decide +kernel
theorem d_Mod_which_90 : decode b_Mod_which 90 = .ok (.iload 4, 2) := by decide +kernel
theorem d_Mod_which_92 : decode b_Mod_which 92 = .ok (.iastore, 1) := by decide +kernel
theorem d_Mod_which_93 : decode b_Mod_which 93 = .ok (.aload_n 0, 1) := by decide +kernel
theorem d_Mod_which_94 : decode b_Mod_which 94 = .ok (.invokevirtual 291, 3) := by decide +kernel
theorem d_Mod_which_97 : decode b_Mod_which 97 = .ok (.aload_n 0, 1) := by decide +kernel
theorem d_Mod_which_98 : decode b_Mod_which 98 = .ok (.iload_n 1, 1) := by decide +kernel
theorem d_Mod_which_99 : decode b_Mod_which 99 = .ok (.ldc 165, 2) := by decide +kernel
theorem d_Mod_which_101 : decode b_Mod_which 101 = .ok (.invokevirtual 150, 3) := by decide +kernel
theorem d_Mod_which_104 : decode b_Mod_which 104 = .ok (.pop, 1) := by decide +kernel
theorem d_Mod_which_105 : decode b_Mod_which 105 = .ok (.iload_n 3, 1) := by decide +kernel
theorem d_Mod_which_106 : decode b_Mod_which 106 = .ok (.aload_n 0, 1) := by decide +kernel
theorem d_Mod_which_107 : decode b_Mod_which 107 = .ok (.iload_n 1, 1) := by decide +kernel
theorem d_Mod_which_108 : decode b_Mod_which 108 = .ok (.invokevirtual 352, 3) := by decide +kernel
theorem d_Mod_which_111 : decode b_Mod_which 111 = .ok (.ifCond .eq 10, 3) := by decide +kernel
theorem d_Mod_which_114 : decode b_Mod_which 114 = .ok (.iconst 1, 1) := by decide +kernel
theorem d_Mod_which_115 : decode b_Mod_which 115 = .ok (.iload 4, 2) := by decide +kernel
theorem d_Mod_which_117 : decode b_Mod_which 117 = .ok (.ishl, 1) := by decide +kernel
theorem d_Mod_which_118 : decode b_Mod_which 118 = .ok (.goto 4, 3) := by decide +kernel
theorem d_Mod_which_121 : decode b_Mod_which 121 = .ok (.iconst 0, 1) := by decide +kernel
theorem d_Mod_which_122 : decode b_Mod_which 122 = .ok (.ior, 1) := by decide +kernel
theorem d_Mod_which_123 : decode b_Mod_which 123 = .ok (.istore_n 3, 1) := by decide +kernel
theorem d_Mod_which_124 : decode b_Mod_which 124 = .ok (.aload_n 0, 1) := by decide +kernel
theorem d_Mod_which_125 : decode b_Mod_which 125 = .ok (.invokevirtual 294, 3) := by decide +kernel
theorem d_Mod_which_128 : decode b_Mod_which 128 = .ok (.iinc 4 1, 3) := by decide +kernel
theorem d_Mod_which_131 : decode b_Mod_which 131 = .ok (.goto (-53), 3) := by decide +kernel
theorem d_Mod_which_134 : decode b_Mod_which 134 = .ok (.aload_n 0, 1) := by decide +kernel
theorem d_Mod_which_135 : decode b_Mod_which 135 = .ok (.getfield 28, 3) := by decide +kernel
theorem d_Mod_which_138 : decode b_Mod_which 138 = .ok (.iload_n 1, 1) := by decide +kernel
theorem d_Mod_which_139 : decode b_Mod_which 139 = .ok (.iload_n 2, 1) := by decide +kernel
theorem d_Mod_which_140 : decode b_Mod_which 140 = .ok (.iastore, 1) := by decide +kernel
theorem d_Mod_which_141 : decode b_Mod_which 141 = .ok (.iload_n 3, 1) := by decide +kernel
theorem d_Mod_which_142 : decode b_Mod_which 142 = .ok (.ireturn, 1) := by decide +kernel
def m_Mod_which_78 : Nat → Int → Int → Int → Int → Int → Int → Int → Int → Int → (Int → Int) → (Int → Int) → (Int → Int) → (Int → Int) → (Int → Int) → (Int → Int) → (Int → Int) → (Int → Int) → (Int → Int) → (Int → Int) → Option (Int × Int × Int × Int × Int × (Int → Int) × (Int → Int) × (Int → Int) × (Int → Int) × (Int → Int) × (Int → Int) × (Int → Int) × (Int → Int) × (Int → Int))
  | 0, _, _, _, _, _, _, _, _, _, _, _, _, _, _, _, _, _, _, _ => none
  | fuel + 1, v1, v2, v3, v4, m_stepsMade, m_stepsMost, m_isKeeping, m_cursor, m_rowMany, m_refused, m_bytes, m_owner, m_block, m_written, m_waits, m_kinds, m_kept, m_was, m_row =>
  clt v4 6 (gd (zx v1 4) (bnd (m_Mod_minds m_isKeeping m_cursor m_bytes m_owner m_block m_written m_waits (uf m_kinds v1 v4) m_kept) (fun r5 => bnd (m_Mod_flushes v1 1000000 m_stepsMade m_stepsMost r5.2.2.1 r5.2.2.2.1 r5.2.2.2.2.1 r5.2.2.2.2.2.1 r5.2.2.2.2.2.2.1 r5.2.2.2.2.2.2.2.1) (fun r7 => bnd (m_Mod_isPlacedSo v1 m_rowMany r7.2.2.2.2.2.1 m_was m_row) (fun r9 => jn (fun (z12 : Int) (z13 : Int) (z14 : Int) (z15 : Int) (z16 : Int) (c17 : Int) (c18 : Int) (c19 : Int) (c20 : Int) (c21 : Int → Int) (c22 : Int → Int) (c23 : Int → Int) (c24 : Int → Int) (c25 : Int → Int) (c26 : Int → Int) (c27 : Int → Int) (c28 : Int → Int) (c29 : Int → Int) => bnd (m_Mod_forgets c19 c20 c22 c23 c24 c25 c26 c27 c28) (fun r30 => m_Mod_which_78 fuel z12 z13 (z_or z15 z16) (z14 + 1) c17 c18 r30.1 r30.2.1 m_rowMany c21 r30.2.2.1 r30.2.2.2.1 r30.2.2.2.2.1 r30.2.2.2.2.2.1 r30.2.2.2.2.2.2.1 r30.2.2.2.2.2.2.2.1 r30.2.2.2.2.2.2.2.2 c29 m_row)) (fun j11 => ceq r9 0 (j11 v1 v2 v4 v3 0 r7.2.1 r7.2.2.1 r5.1 r5.2.1 m_refused r7.2.2.2.1 r7.2.2.2.2.1 r7.2.2.2.2.2.1 r7.2.2.2.2.2.2.1 r7.2.2.2.2.2.2.2 r5.2.2.2.2.2.2.2.1 r5.2.2.2.2.2.2.2.2 m_was) (j11 v1 v2 v4 v3 (z_shl 1 v4) r7.2.1 r7.2.2.1 r5.1 r5.2.1 m_refused r7.2.2.2.1 r7.2.2.2.2.1 r7.2.2.2.2.2.1 r7.2.2.2.2.2.2.1 r7.2.2.2.2.2.2.2 r5.2.2.2.2.2.2.2.1 r5.2.2.2.2.2.2.2.2 m_was))))))) (gd (zx v1 4) (some (v3, m_stepsMade, m_stepsMost, m_isKeeping, m_cursor, m_refused, m_bytes, m_owner, m_block, m_written, m_waits, (uf m_kinds v1 v2), m_kept, m_was)))
def m_Mod_which_35 : Nat → Int → Int → Int → Int → Int → Int → Int → (Int → Int) → (Int → Int) → (Int → Int) → (Int → Int) → (Int → Int) → (Int → Int) → (Int → Int) → (Int → Int) → (Int → Int) → (Int → Int) → Option (Int × Int × Int × Int × Int × (Int → Int) × (Int → Int) × (Int → Int) × (Int → Int) × (Int → Int) × (Int → Int) × (Int → Int) × (Int → Int) × (Int → Int))
  | 0, _, _, _, _, _, _, _, _, _, _, _, _, _, _, _, _, _ => none
  | fuel + 1, v1, v2, m_stepsMade, m_stepsMost, m_isKeeping, m_cursor, m_rowMany, m_refused, m_bytes, m_owner, m_block, m_written, m_waits, m_kinds, m_kept, m_was, m_row =>
  clt v2 96 (bnd (m_Mod_isToPlace v2 m_block m_waits) (fun r34 => ceq r34 0 (gd (zx v2 96) (m_Mod_which_35 fuel v1 (v2 + 1) m_stepsMade m_stepsMost m_isKeeping m_cursor m_rowMany m_refused m_bytes m_owner m_block m_written m_waits m_kinds m_kept (uf m_was v2 0) m_row)) (gd (zx v2 96) (m_Mod_which_35 fuel v1 (v2 + 1) m_stepsMade m_stepsMost m_isKeeping m_cursor m_rowMany m_refused m_bytes m_owner m_block m_written m_waits m_kinds m_kept (uf m_was v2 1) m_row)))) (gd (zx v1 4) (m_Mod_which_78 5000 v1 (m_kinds v1) 0 0 m_stepsMade m_stepsMost m_isKeeping m_cursor m_rowMany m_refused m_bytes m_owner m_block m_written m_waits m_kinds m_kept m_was m_row))
def m_Mod_which (x1 : Int) (m_stepsMade : Int) (m_stepsMost : Int) (m_isKeeping : Int) (m_cursor : Int) (m_rowMany : Int) (m_refused : Int → Int) (m_bytes : Int → Int) (m_owner : Int → Int) (m_block : Int → Int) (m_written : Int → Int) (m_waits : Int → Int) (m_kinds : Int → Int) (m_kept : Int → Int) (m_was : Int → Int) (m_row : Int → Int) : Option (Int × Int × Int × Int × Int × (Int → Int) × (Int → Int) × (Int → Int) × (Int → Int) × (Int → Int) × (Int → Int) × (Int → Int) × (Int → Int) × (Int → Int)) :=
  bnd (m_Mod_isFile x1) (fun r1 => ceq r1 0 (bnd (m_Mod_no (-1) m_refused) (fun r38 => some (r38.1, m_stepsMade, m_stepsMost, m_isKeeping, m_cursor, r38.2, m_bytes, m_owner, m_block, m_written, m_waits, m_kinds, m_kept, m_was))) (bnd (m_Mod_waitingOf x1 1 m_block m_waits) (fun r3 => cle m_rowMany r3 (m_Mod_which_35 5000 x1 0 m_stepsMade m_stepsMost m_isKeeping m_cursor m_rowMany m_refused m_bytes m_owner m_block m_written m_waits m_kinds m_kept m_was m_row) (bnd (m_Mod_no (-3) m_refused) (fun r36 => some (r36.1, m_stepsMade, m_stepsMost, m_isKeeping, m_cursor, r36.2, m_bytes, m_owner, m_block, m_written, m_waits, m_kinds, m_kept, m_was))))))
set_option maxHeartbeats 4000000 in
set_option maxRecDepth 100000 in
theorem l_Mod_which_78 {G : GT} {l : Launch} {D : va_G} {cI cB : ClassId} {a0 a1 a2 a3 a4 a5 a6 a7 a8 a9 a10 a11 a12 a13 a14 a15 : Nat} {m_taped : Int} {m_reading : Int} {m_statements : Int} {m_telling : Int} {m_hasImage : Int} {m_lots : Int} {m_tape : Int → Int} {m_sort : Int → Int} {m_sortAt : Int → Int} {m_told : Int → Int} {m_ends : Int → Int} (X : Cx G l D cI cB b_Mod_which y_Mod_which.cls 5 { frames := 6, cells := 0, slots := 0, locals := 142 }) : ∀ (fuel : Nat) (v1 : Int) (v2 : Int) (v3 : Int) (v4 : Int) (m_stepsMade : Int) (m_stepsMost : Int) (m_isKeeping : Int) (m_cursor : Int) (m_rowMany : Int) (m_refused : Int → Int) (m_bytes : Int → Int) (m_owner : Int → Int) (m_block : Int → Int) (m_written : Int → Int) (m_waits : Int → Int) (m_kinds : Int → Int) (m_kept : Int → Int) (m_was : Int → Int) (m_row : Int → Int) (o : Int × Int × Int × Int × Int × (Int → Int) × (Int → Int) × (Int → Int) × (Int → Int) × (Int → Int) × (Int → Int) × (Int → Int) × (Int → Int) × (Int → Int)), m_Mod_which_78 fuel v1 v2 v3 v4 m_stepsMade m_stepsMost m_isKeeping m_cursor m_rowMany m_refused m_bytes m_owner m_block m_written m_waits m_kinds m_kept m_was m_row = some o → Rt G (some .int) (some (.int (zi o.1))) (w_Mod cI cB a0 a1 a2 a3 a4 a5 a6 a7 a8 a9 a10 a11 a12 a13 a14 a15 o.2.1 o.2.2.1 m_taped m_reading m_statements m_telling m_hasImage o.2.2.2.1 o.2.2.2.2.1 m_rowMany m_lots o.2.2.2.2.2.1 o.2.2.2.2.2.2.1 o.2.2.2.2.2.2.2.1 o.2.2.2.2.2.2.2.2.1 o.2.2.2.2.2.2.2.2.2.1 o.2.2.2.2.2.2.2.2.2.2.1 o.2.2.2.2.2.2.2.2.2.2.2.1 m_tape m_sort m_sortAt m_told o.2.2.2.2.2.2.2.2.2.2.2.2.1 o.2.2.2.2.2.2.2.2.2.2.2.2.2 m_ends m_row) → Wx G 0 0 78 [(0, .ref a0), (1, .int (zi v1)), (2, .int (zi v2)), (3, .int (zi v3)), (4, .int (zi v4))] [] (w_Mod cI cB a0 a1 a2 a3 a4 a5 a6 a7 a8 a9 a10 a11 a12 a13 a14 a15 m_stepsMade m_stepsMost m_taped m_reading m_statements m_telling m_hasImage m_isKeeping m_cursor m_rowMany m_lots m_refused m_bytes m_owner m_block m_written m_waits m_kinds m_tape m_sort m_sortAt m_told m_kept m_was m_ends m_row) := by
  intro fuel
  induction fuel with
  | zero =>
    intro v1 v2 v3 v4 m_stepsMade m_stepsMost m_isKeeping m_cursor m_rowMany m_refused m_bytes m_owner m_block m_written m_waits m_kinds m_kept m_was m_row o h
    exact absurd h (by simp [m_Mod_which_78])
  | succ fuel ih =>
    intro v1 v2 v3 v4 m_stepsMade m_stepsMost m_isKeeping m_cursor m_rowMany m_refused m_bytes m_owner m_block m_written m_waits m_kinds m_kept m_was m_row o h hR
    rw [m_Mod_which_78] at h
    refine x_iload (pc := 78) X d_Mod_which_78 4 rfl ?_
    refine x_bipush (pc := 80) (v := 6) X d_Mod_which_80 rfl ?_
    refine x_icmpge (pc := 82) (tgt := 134) X d_Mod_which_82 rfl h (fun h => ?_) (fun h => ?_)
    · skip
      refine x_aload_n (pc := 134) X d_Mod_which_134 0 rfl rfl ?_
      refine x_get (pc := 135) X d_Mod_which_135 0 rfl fl_Mod_28 rfl ?_
      refine x_iload_n (pc := 138) X d_Mod_which_138 1 rfl rfl ?_
      refine x_iload_n (pc := 139) X d_Mod_which_139 2 rfl rfl ?_
      refine x_iast (pc := 140) (w2 := (w_Mod cI cB a0 a1 a2 a3 a4 a5 a6 a7 a8 a9 a10 a11 a12 a13 a14 a15 m_stepsMade m_stepsMost m_taped m_reading m_statements m_telling m_hasImage m_isKeeping m_cursor m_rowMany m_lots m_refused m_bytes m_owner m_block m_written m_waits (uf m_kinds v1 v2) m_tape m_sort m_sortAt m_told m_kept m_was m_ends m_row)) X d_Mod_which_140 7 rfl (Nat.le_of_ble_eq_true rfl) rfl rfl h (fun h => ?_)
      refine x_iload_n (pc := 141) X d_Mod_which_141 3 rfl rfl ?_
      cases h
      exact x_iret (pc := 142) X hR d_Mod_which_142
    · skip
      refine x_aload_n (pc := 85) X d_Mod_which_85 0 rfl rfl ?_
      refine x_get (pc := 86) X d_Mod_which_86 0 rfl fl_Mod_28 rfl ?_
      refine x_iload_n (pc := 89) X d_Mod_which_89 1 rfl rfl ?_
      refine x_iload (pc := 90) X d_Mod_which_90 4 rfl ?_
      refine x_iast (pc := 92) (w2 := (w_Mod cI cB a0 a1 a2 a3 a4 a5 a6 a7 a8 a9 a10 a11 a12 a13 a14 a15 m_stepsMade m_stepsMost m_taped m_reading m_statements m_telling m_hasImage m_isKeeping m_cursor m_rowMany m_lots m_refused m_bytes m_owner m_block m_written m_waits (uf m_kinds v1 v4) m_tape m_sort m_sortAt m_told m_kept m_was m_ends m_row)) X d_Mod_which_92 7 rfl (Nat.le_of_ble_eq_true rfl) rfl rfl h (fun h => ?_)
      refine x_aload_n (pc := 93) X d_Mod_which_93 0 rfl rfl ?_
      obtain ⟨r5, h6, h⟩ := bnd_e h
      refine x_callV (pc := 94) (As := []) (rest := []) (w2 := (w_Mod cI cB a0 a1 a2 a3 a4 a5 a6 a7 a8 a9 a10 a11 a12 a13 a14 a15 m_stepsMade m_stepsMost m_taped m_reading m_statements m_telling m_hasImage r5.1 r5.2.1 m_rowMany m_lots m_refused r5.2.2.1 r5.2.2.2.1 r5.2.2.2.2.1 r5.2.2.2.2.2.1 r5.2.2.2.2.2.2.1 r5.2.2.2.2.2.2.2.1 m_tape m_sort m_sortAt m_told r5.2.2.2.2.2.2.2.2 m_was m_ends m_row)) X d_Mod_which_94 lk_Mod_291 mv_Mod_minds (c_Mod_minds l D cI cB a0 a1 a2 a3 a4 a5 a6 a7 a8 a9 a10 a11 a12 a13 a14 a15 m_stepsMade m_stepsMost m_taped m_reading m_statements m_telling m_hasImage m_isKeeping m_cursor m_rowMany m_lots m_refused m_bytes m_owner m_block m_written m_waits (uf m_kinds v1 v4) m_tape m_sort m_sortAt m_told m_kept m_was m_ends m_row h6) ⟨(Nat.le_of_ble_eq_true rfl), (Nat.le_of_ble_eq_true rfl), (Nat.le_of_ble_eq_true rfl), (Nat.le_of_ble_eq_true rfl)⟩ 0 rfl rfl [0, 1, 2, 3, 4, 5, 6, 7, 8, 9, 10, 11, 12, 13, 14, 15] rfl rfl rfl (Up.of [] [] rfl rfl rfl 16 rfl (by decide +kernel)) rfl rfl (Nat.le_of_ble_eq_true rfl) ?_
      refine x_aload_n (pc := 97) X d_Mod_which_97 0 rfl rfl ?_
      refine x_iload_n (pc := 98) X d_Mod_which_98 1 rfl rfl ?_
      refine x_ldc (pc := 99) X d_Mod_which_99 cw_Mod_165 cg_Mod_165 ?_
      obtain ⟨r7, h8, h⟩ := bnd_e h
      refine x_callV (pc := 101) (As := [.int (zi v1), .int (zi 1000000)]) (rest := []) (w2 := (w_Mod cI cB a0 a1 a2 a3 a4 a5 a6 a7 a8 a9 a10 a11 a12 a13 a14 a15 r7.2.1 r7.2.2.1 m_taped m_reading m_statements m_telling m_hasImage r5.1 r5.2.1 m_rowMany m_lots m_refused r7.2.2.2.1 r7.2.2.2.2.1 r7.2.2.2.2.2.1 r7.2.2.2.2.2.2.1 r7.2.2.2.2.2.2.2 r5.2.2.2.2.2.2.2.1 m_tape m_sort m_sortAt m_told r5.2.2.2.2.2.2.2.2 m_was m_ends m_row)) X d_Mod_which_101 lk_Mod_150 mv_Mod_flushes (c_Mod_flushes l D cI cB a0 a1 a2 a3 a4 a5 a6 a7 a8 a9 a10 a11 a12 a13 a14 a15 m_stepsMade m_stepsMost m_taped m_reading m_statements m_telling m_hasImage r5.1 r5.2.1 m_rowMany m_lots m_refused r5.2.2.1 r5.2.2.2.1 r5.2.2.2.2.1 r5.2.2.2.2.2.1 r5.2.2.2.2.2.2.1 r5.2.2.2.2.2.2.2.1 m_tape m_sort m_sortAt m_told r5.2.2.2.2.2.2.2.2 m_was m_ends m_row v1 1000000 h8) ⟨(Nat.le_of_ble_eq_true rfl), (Nat.le_of_ble_eq_true rfl), (Nat.le_of_ble_eq_true rfl), (Nat.le_of_ble_eq_true rfl)⟩ 0 rfl rfl [0, 1, 2, 3, 4, 5, 6, 7, 8, 9, 10, 11, 12, 13, 14, 15] rfl rfl rfl (Up.of [] [] rfl rfl rfl 16 rfl (by decide +kernel)) rfl rfl (Nat.le_of_ble_eq_true rfl) ?_
      refine x_pop (pc := 104) X d_Mod_which_104 rfl ?_
      refine x_iload_n (pc := 105) X d_Mod_which_105 3 rfl rfl ?_
      refine x_aload_n (pc := 106) X d_Mod_which_106 0 rfl rfl ?_
      refine x_iload_n (pc := 107) X d_Mod_which_107 1 rfl rfl ?_
      obtain ⟨r9, h10, h⟩ := bnd_e h
      refine x_callV (pc := 108) (As := [.int (zi v1)]) (rest := [.int (zi v3)]) (w2 := (w_Mod cI cB a0 a1 a2 a3 a4 a5 a6 a7 a8 a9 a10 a11 a12 a13 a14 a15 r7.2.1 r7.2.2.1 m_taped m_reading m_statements m_telling m_hasImage r5.1 r5.2.1 m_rowMany m_lots m_refused r7.2.2.2.1 r7.2.2.2.2.1 r7.2.2.2.2.2.1 r7.2.2.2.2.2.2.1 r7.2.2.2.2.2.2.2 r5.2.2.2.2.2.2.2.1 m_tape m_sort m_sortAt m_told r5.2.2.2.2.2.2.2.2 m_was m_ends m_row)) X d_Mod_which_108 lk_Mod_352 mv_Mod_isPlacedSo (c_Mod_isPlacedSo l D cI cB a0 a1 a2 a3 a4 a5 a6 a7 a8 a9 a10 a11 a12 a13 a14 a15 r7.2.1 r7.2.2.1 m_taped m_reading m_statements m_telling m_hasImage r5.1 r5.2.1 m_rowMany m_lots m_refused r7.2.2.2.1 r7.2.2.2.2.1 r7.2.2.2.2.2.1 r7.2.2.2.2.2.2.1 r7.2.2.2.2.2.2.2 r5.2.2.2.2.2.2.2.1 m_tape m_sort m_sortAt m_told r5.2.2.2.2.2.2.2.2 m_was m_ends m_row v1 h10) ⟨(Nat.le_of_ble_eq_true rfl), (Nat.le_of_ble_eq_true rfl), (Nat.le_of_ble_eq_true rfl), (Nat.le_of_ble_eq_true rfl)⟩ 0 rfl rfl [0, 1, 2, 3, 4, 5, 6, 7, 8, 9, 10, 11, 12, 13, 14, 15] rfl rfl rfl (Up.same rfl) rfl rfl (Nat.le_of_ble_eq_true rfl) ?_
      obtain ⟨j11, hj32, h⟩ := jn_e h
      have J33 : ∀ (z12 : Int) (z13 : Int) (z14 : Int) (z15 : Int) (z16 : Int) (c17 : Int) (c18 : Int) (c19 : Int) (c20 : Int) (c21 : Int → Int) (c22 : Int → Int) (c23 : Int → Int) (c24 : Int → Int) (c25 : Int → Int) (c26 : Int → Int) (c27 : Int → Int) (c28 : Int → Int) (c29 : Int → Int), j11 z12 z13 z14 z15 z16 c17 c18 c19 c20 c21 c22 c23 c24 c25 c26 c27 c28 c29 = some o → Wx G 0 0 122 [(0, .ref a0), (1, .int (zi z12)), (2, .int (zi z13)), (4, .int (zi z14))] [.int (zi z16), .int (zi z15)] (w_Mod cI cB a0 a1 a2 a3 a4 a5 a6 a7 a8 a9 a10 a11 a12 a13 a14 a15 c17 c18 m_taped m_reading m_statements m_telling m_hasImage c19 c20 m_rowMany m_lots c21 c22 c23 c24 c25 c26 c27 m_tape m_sort m_sortAt m_told c28 c29 m_ends m_row) := by
        intro z12 z13 z14 z15 z16 c17 c18 c19 c20 c21 c22 c23 c24 c25 c26 c27 c28 c29 h
        rw [hj32] at h
        (try dsimp only at h)
        refine x_ior (pc := 122) X d_Mod_which_122  ?_
        refine x_istore_n (pc := 123) (ls2 := [(3, .int (zi (z_or z15 z16))), (0, .ref a0), (1, .int (zi z12)), (2, .int (zi z13)), (4, .int (zi z14))]) X d_Mod_which_123 rfl (Nat.le_of_ble_eq_true rfl) rfl ?_
        refine x_aload_n (pc := 124) X d_Mod_which_124 1 rfl rfl ?_
        obtain ⟨r30, h31, h⟩ := bnd_e h
        refine x_callV (pc := 125) (As := []) (rest := []) (w2 := (w_Mod cI cB a0 a1 a2 a3 a4 a5 a6 a7 a8 a9 a10 a11 a12 a13 a14 a15 c17 c18 m_taped m_reading m_statements m_telling m_hasImage r30.1 r30.2.1 m_rowMany m_lots c21 r30.2.2.1 r30.2.2.2.1 r30.2.2.2.2.1 r30.2.2.2.2.2.1 r30.2.2.2.2.2.2.1 r30.2.2.2.2.2.2.2.1 m_tape m_sort m_sortAt m_told r30.2.2.2.2.2.2.2.2 c29 m_ends m_row)) X d_Mod_which_125 lk_Mod_294 mv_Mod_forgets (c_Mod_forgets l D cI cB a0 a1 a2 a3 a4 a5 a6 a7 a8 a9 a10 a11 a12 a13 a14 a15 c17 c18 m_taped m_reading m_statements m_telling m_hasImage c19 c20 m_rowMany m_lots c21 c22 c23 c24 c25 c26 c27 m_tape m_sort m_sortAt m_told c28 c29 m_ends m_row h31) ⟨(Nat.le_of_ble_eq_true rfl), (Nat.le_of_ble_eq_true rfl), (Nat.le_of_ble_eq_true rfl), (Nat.le_of_ble_eq_true rfl)⟩ 0 rfl rfl [0, 1, 2, 3, 4, 5, 6, 7, 8, 9, 10, 11, 12, 13, 14, 15] rfl rfl rfl (Up.of [] [] rfl rfl rfl 16 rfl (by decide +kernel)) rfl rfl (Nat.le_of_ble_eq_true rfl) ?_
        refine x_iinc (pc := 128) (ls2 := [(4, .int (zi (z14 + 1))), (3, .int (zi (z_or z15 z16))), (0, .ref a0), (1, .int (zi z12)), (2, .int (zi z13))]) X d_Mod_which_128 4 (Nat.le_of_ble_eq_true rfl) rfl rfl ?_
        refine x_goto (pc := 131) (tgt := 78) X d_Mod_which_131 rfl ?_
        refine x_ls (ls2 := [(0, .ref a0), (1, .int (zi z12)), (2, .int (zi z13)), (3, .int (zi (z_or z15 z16))), (4, .int (zi (z14 + 1)))]) [2, 3, 4, 1, 0] rfl ?_
        exact ih z12 z13 (z_or z15 z16) (z14 + 1) c17 c18 r30.1 r30.2.1 m_rowMany c21 r30.2.2.1 r30.2.2.2.1 r30.2.2.2.2.1 r30.2.2.2.2.2.1 r30.2.2.2.2.2.2.1 r30.2.2.2.2.2.2.2.1 r30.2.2.2.2.2.2.2.2 c29 m_row o h hR
      clear hj32
      refine x_ifeq (pc := 111) (tgt := 121) X d_Mod_which_111 rfl h (fun h => ?_) (fun h => ?_)
      · skip
        refine x_iconst (pc := 121) X d_Mod_which_121  ?_
        refine x_ls (ls2 := [(0, .ref a0), (1, .int (zi v1)), (2, .int (zi v2)), (4, .int (zi v4))]) [0, 1, 2, 4] rfl ?_
        exact J33 v1 v2 v4 v3 0 r7.2.1 r7.2.2.1 r5.1 r5.2.1 m_refused r7.2.2.2.1 r7.2.2.2.2.1 r7.2.2.2.2.2.1 r7.2.2.2.2.2.2.1 r7.2.2.2.2.2.2.2 r5.2.2.2.2.2.2.2.1 r5.2.2.2.2.2.2.2.2 m_was h
      · skip
        refine x_iconst (pc := 114) X d_Mod_which_114  ?_
        refine x_iload (pc := 115) X d_Mod_which_115 4 rfl ?_
        refine x_ishl (pc := 117) X d_Mod_which_117  ?_
        refine x_goto (pc := 118) (tgt := 122) X d_Mod_which_118 rfl ?_
        refine x_ls (ls2 := [(0, .ref a0), (1, .int (zi v1)), (2, .int (zi v2)), (4, .int (zi v4))]) [0, 1, 2, 4] rfl ?_
        exact J33 v1 v2 v4 v3 (z_shl 1 v4) r7.2.1 r7.2.2.1 r5.1 r5.2.1 m_refused r7.2.2.2.1 r7.2.2.2.2.1 r7.2.2.2.2.2.1 r7.2.2.2.2.2.2.1 r7.2.2.2.2.2.2.2 r5.2.2.2.2.2.2.2.1 r5.2.2.2.2.2.2.2.2 m_was h
set_option maxHeartbeats 4000000 in
set_option maxRecDepth 100000 in
theorem l_Mod_which_35 {G : GT} {l : Launch} {D : va_G} {cI cB : ClassId} {a0 a1 a2 a3 a4 a5 a6 a7 a8 a9 a10 a11 a12 a13 a14 a15 : Nat} {m_taped : Int} {m_reading : Int} {m_statements : Int} {m_telling : Int} {m_hasImage : Int} {m_lots : Int} {m_tape : Int → Int} {m_sort : Int → Int} {m_sortAt : Int → Int} {m_told : Int → Int} {m_ends : Int → Int} (X : Cx G l D cI cB b_Mod_which y_Mod_which.cls 5 { frames := 6, cells := 0, slots := 0, locals := 142 }) : ∀ (fuel : Nat) (v1 : Int) (v2 : Int) (m_stepsMade : Int) (m_stepsMost : Int) (m_isKeeping : Int) (m_cursor : Int) (m_rowMany : Int) (m_refused : Int → Int) (m_bytes : Int → Int) (m_owner : Int → Int) (m_block : Int → Int) (m_written : Int → Int) (m_waits : Int → Int) (m_kinds : Int → Int) (m_kept : Int → Int) (m_was : Int → Int) (m_row : Int → Int) (o : Int × Int × Int × Int × Int × (Int → Int) × (Int → Int) × (Int → Int) × (Int → Int) × (Int → Int) × (Int → Int) × (Int → Int) × (Int → Int) × (Int → Int)), m_Mod_which_35 fuel v1 v2 m_stepsMade m_stepsMost m_isKeeping m_cursor m_rowMany m_refused m_bytes m_owner m_block m_written m_waits m_kinds m_kept m_was m_row = some o → Rt G (some .int) (some (.int (zi o.1))) (w_Mod cI cB a0 a1 a2 a3 a4 a5 a6 a7 a8 a9 a10 a11 a12 a13 a14 a15 o.2.1 o.2.2.1 m_taped m_reading m_statements m_telling m_hasImage o.2.2.2.1 o.2.2.2.2.1 m_rowMany m_lots o.2.2.2.2.2.1 o.2.2.2.2.2.2.1 o.2.2.2.2.2.2.2.1 o.2.2.2.2.2.2.2.2.1 o.2.2.2.2.2.2.2.2.2.1 o.2.2.2.2.2.2.2.2.2.2.1 o.2.2.2.2.2.2.2.2.2.2.2.1 m_tape m_sort m_sortAt m_told o.2.2.2.2.2.2.2.2.2.2.2.2.1 o.2.2.2.2.2.2.2.2.2.2.2.2.2 m_ends m_row) → Wx G 0 0 35 [(0, .ref a0), (1, .int (zi v1)), (2, .int (zi v2))] [] (w_Mod cI cB a0 a1 a2 a3 a4 a5 a6 a7 a8 a9 a10 a11 a12 a13 a14 a15 m_stepsMade m_stepsMost m_taped m_reading m_statements m_telling m_hasImage m_isKeeping m_cursor m_rowMany m_lots m_refused m_bytes m_owner m_block m_written m_waits m_kinds m_tape m_sort m_sortAt m_told m_kept m_was m_ends m_row) := by
  intro fuel
  induction fuel with
  | zero =>
    intro v1 v2 m_stepsMade m_stepsMost m_isKeeping m_cursor m_rowMany m_refused m_bytes m_owner m_block m_written m_waits m_kinds m_kept m_was m_row o h
    exact absurd h (by simp [m_Mod_which_35])
  | succ fuel ih =>
    intro v1 v2 m_stepsMade m_stepsMost m_isKeeping m_cursor m_rowMany m_refused m_bytes m_owner m_block m_written m_waits m_kinds m_kept m_was m_row o h hR
    rw [m_Mod_which_35] at h
    refine x_iload_n (pc := 35) X d_Mod_which_35 2 rfl rfl ?_
    refine x_bipush (pc := 36) (v := 96) X d_Mod_which_36 rfl ?_
    refine x_icmpge (pc := 38) (tgt := 66) X d_Mod_which_38 rfl h (fun h => ?_) (fun h => ?_)
    · skip
      refine x_aload_n (pc := 66) X d_Mod_which_66 0 rfl rfl ?_
      refine x_get (pc := 67) X d_Mod_which_67 0 rfl fl_Mod_28 rfl ?_
      refine x_iload_n (pc := 70) X d_Mod_which_70 1 rfl rfl ?_
      refine x_iald (pc := 71) X d_Mod_which_71 7 rfl (Nat.le_of_ble_eq_true rfl) rfl h (fun h => ?_)
      refine x_istore_n (pc := 72) (ls2 := [(2, .int (zi (m_kinds v1))), (0, .ref a0), (1, .int (zi v1))]) X d_Mod_which_72 rfl (Nat.le_of_ble_eq_true rfl) rfl ?_
      refine x_iconst (pc := 73) X d_Mod_which_73  ?_
      refine x_istore_n (pc := 74) (ls2 := [(3, .int (zi 0)), (2, .int (zi (m_kinds v1))), (0, .ref a0), (1, .int (zi v1))]) X d_Mod_which_74 rfl (Nat.le_of_ble_eq_true rfl) rfl ?_
      refine x_iconst (pc := 75) X d_Mod_which_75  ?_
      refine x_istore (pc := 76) (ls2 := [(4, .int (zi 0)), (3, .int (zi 0)), (2, .int (zi (m_kinds v1))), (0, .ref a0), (1, .int (zi v1))]) X d_Mod_which_76 (Nat.le_of_ble_eq_true rfl) rfl ?_
      refine x_ls (ls2 := [(0, .ref a0), (1, .int (zi v1)), (2, .int (zi (m_kinds v1))), (3, .int (zi 0)), (4, .int (zi 0))]) [3, 4, 2, 1, 0] rfl ?_
      exact l_Mod_which_78 X 5000 v1 (m_kinds v1) 0 0 m_stepsMade m_stepsMost m_isKeeping m_cursor m_rowMany m_refused m_bytes m_owner m_block m_written m_waits m_kinds m_kept m_was m_row o h hR
    · skip
      refine x_aload_n (pc := 41) X d_Mod_which_41 0 rfl rfl ?_
      refine x_get (pc := 42) X d_Mod_which_42 0 rfl fl_Mod_46 rfl ?_
      refine x_iload_n (pc := 45) X d_Mod_which_45 2 rfl rfl ?_
      refine x_aload_n (pc := 46) X d_Mod_which_46 0 rfl rfl ?_
      refine x_iload_n (pc := 47) X d_Mod_which_47 2 rfl rfl ?_
      obtain ⟨r34, h35, h⟩ := bnd_e h
      refine x_callV (pc := 48) (As := [.int (zi v2)]) (rest := [.int (zi v2), .ref a13]) (w2 := (w_Mod cI cB a0 a1 a2 a3 a4 a5 a6 a7 a8 a9 a10 a11 a12 a13 a14 a15 m_stepsMade m_stepsMost m_taped m_reading m_statements m_telling m_hasImage m_isKeeping m_cursor m_rowMany m_lots m_refused m_bytes m_owner m_block m_written m_waits m_kinds m_tape m_sort m_sortAt m_told m_kept m_was m_ends m_row)) X d_Mod_which_48 lk_Mod_69 mv_Mod_isToPlace (c_Mod_isToPlace l D cI cB a0 a1 a2 a3 a4 a5 a6 a7 a8 a9 a10 a11 a12 a13 a14 a15 m_stepsMade m_stepsMost m_taped m_reading m_statements m_telling m_hasImage m_isKeeping m_cursor m_rowMany m_lots m_refused m_bytes m_owner m_block m_written m_waits m_kinds m_tape m_sort m_sortAt m_told m_kept m_was m_ends m_row v2 h35) ⟨(Nat.le_of_ble_eq_true rfl), (Nat.le_of_ble_eq_true rfl), (Nat.le_of_ble_eq_true rfl), (Nat.le_of_ble_eq_true rfl)⟩ 0 rfl rfl [0, 1, 2, 3, 4, 5, 6, 7, 8, 9, 10, 11, 12, 13, 14, 15] rfl rfl rfl (Up.same rfl) rfl rfl (Nat.le_of_ble_eq_true rfl) ?_
      refine x_ifeq (pc := 51) (tgt := 58) X d_Mod_which_51 rfl h (fun h => ?_) (fun h => ?_)
      · skip
        refine x_iconst (pc := 58) X d_Mod_which_58  ?_
        refine x_iast (pc := 59) (w2 := (w_Mod cI cB a0 a1 a2 a3 a4 a5 a6 a7 a8 a9 a10 a11 a12 a13 a14 a15 m_stepsMade m_stepsMost m_taped m_reading m_statements m_telling m_hasImage m_isKeeping m_cursor m_rowMany m_lots m_refused m_bytes m_owner m_block m_written m_waits m_kinds m_tape m_sort m_sortAt m_told m_kept (uf m_was v2 0) m_ends m_row)) X d_Mod_which_59 13 rfl (Nat.le_of_ble_eq_true rfl) rfl rfl h (fun h => ?_)
        refine x_iinc (pc := 60) (ls2 := [(2, .int (zi (v2 + 1))), (0, .ref a0), (1, .int (zi v1))]) X d_Mod_which_60 2 (Nat.le_of_ble_eq_true rfl) rfl rfl ?_
        refine x_goto (pc := 63) (tgt := 35) X d_Mod_which_63 rfl ?_
        refine x_ls (ls2 := [(0, .ref a0), (1, .int (zi v1)), (2, .int (zi (v2 + 1)))]) [1, 2, 0] rfl ?_
        exact ih v1 (v2 + 1) m_stepsMade m_stepsMost m_isKeeping m_cursor m_rowMany m_refused m_bytes m_owner m_block m_written m_waits m_kinds m_kept (uf m_was v2 0) m_row o h hR
      · skip
        refine x_iconst (pc := 54) X d_Mod_which_54  ?_
        refine x_goto (pc := 55) (tgt := 59) X d_Mod_which_55 rfl ?_
        refine x_iast (pc := 59) (w2 := (w_Mod cI cB a0 a1 a2 a3 a4 a5 a6 a7 a8 a9 a10 a11 a12 a13 a14 a15 m_stepsMade m_stepsMost m_taped m_reading m_statements m_telling m_hasImage m_isKeeping m_cursor m_rowMany m_lots m_refused m_bytes m_owner m_block m_written m_waits m_kinds m_tape m_sort m_sortAt m_told m_kept (uf m_was v2 1) m_ends m_row)) X d_Mod_which_59 13 rfl (Nat.le_of_ble_eq_true rfl) rfl rfl h (fun h => ?_)
        refine x_iinc (pc := 60) (ls2 := [(2, .int (zi (v2 + 1))), (0, .ref a0), (1, .int (zi v1))]) X d_Mod_which_60 2 (Nat.le_of_ble_eq_true rfl) rfl rfl ?_
        refine x_goto (pc := 63) (tgt := 35) X d_Mod_which_63 rfl ?_
        refine x_ls (ls2 := [(0, .ref a0), (1, .int (zi v1)), (2, .int (zi (v2 + 1)))]) [1, 2, 0] rfl ?_
        exact ih v1 (v2 + 1) m_stepsMade m_stepsMost m_isKeeping m_cursor m_rowMany m_refused m_bytes m_owner m_block m_written m_waits m_kinds m_kept (uf m_was v2 1) m_row o h hR
set_option maxHeartbeats 4000000 in
set_option maxRecDepth 100000 in
theorem c_Mod_which (l : Launch) (D : va_G) (cI cB : ClassId) (a0 a1 a2 a3 a4 a5 a6 a7 a8 a9 a10 a11 a12 a13 a14 a15 : Nat) (m_stepsMade : Int) (m_stepsMost : Int) (m_taped : Int) (m_reading : Int) (m_statements : Int) (m_telling : Int) (m_hasImage : Int) (m_isKeeping : Int) (m_cursor : Int) (m_rowMany : Int) (m_lots : Int) (m_refused : Int → Int) (m_bytes : Int → Int) (m_owner : Int → Int) (m_block : Int → Int) (m_written : Int → Int) (m_waits : Int → Int) (m_kinds : Int → Int) (m_tape : Int → Int) (m_sort : Int → Int) (m_sortAt : Int → Int) (m_told : Int → Int) (m_kept : Int → Int) (m_was : Int → Int) (m_ends : Int → Int) (m_row : Int → Int) (x1 : Int) {o : Int × Int × Int × Int × Int × (Int → Int) × (Int → Int) × (Int → Int) × (Int → Int) × (Int → Int) × (Int → Int) × (Int → Int) × (Int → Int) × (Int → Int)} (h : m_Mod_which x1 m_stepsMade m_stepsMost m_isKeeping m_cursor m_rowMany m_refused m_bytes m_owner m_block m_written m_waits m_kinds m_kept m_was m_row = some o) : Ct l D cI cB y_Mod_which b_Mod_which 5 (some .int) { frames := 6, cells := 0, slots := 0, locals := 142 } [.ref a0, .int (zi x1)] (w_Mod cI cB a0 a1 a2 a3 a4 a5 a6 a7 a8 a9 a10 a11 a12 a13 a14 a15 m_stepsMade m_stepsMost m_taped m_reading m_statements m_telling m_hasImage m_isKeeping m_cursor m_rowMany m_lots m_refused m_bytes m_owner m_block m_written m_waits m_kinds m_tape m_sort m_sortAt m_told m_kept m_was m_ends m_row) (w_Mod cI cB a0 a1 a2 a3 a4 a5 a6 a7 a8 a9 a10 a11 a12 a13 a14 a15 o.2.1 o.2.2.1 m_taped m_reading m_statements m_telling m_hasImage o.2.2.2.1 o.2.2.2.2.1 m_rowMany m_lots o.2.2.2.2.2.1 o.2.2.2.2.2.2.1 o.2.2.2.2.2.2.2.1 o.2.2.2.2.2.2.2.2.1 o.2.2.2.2.2.2.2.2.2.1 o.2.2.2.2.2.2.2.2.2.2.1 o.2.2.2.2.2.2.2.2.2.2.2.1 m_tape m_sort m_sortAt m_told o.2.2.2.2.2.2.2.2.2.2.2.2.1 o.2.2.2.2.2.2.2.2.2.2.2.2.2 m_ends m_row) (some (.int (zi o.1))) := by
  refine Ct.start (by decide) (Nat.le_of_ble_eq_true rfl) (fun G X hR => ?_)
  refine x_ls (ls2 := [(0, .ref a0), (1, .int (zi x1))]) [0, 1] rfl ?_
  unfold m_Mod_which at h
  refine x_iload_n (pc := 0) X d_Mod_which_0 1 rfl rfl ?_
  obtain ⟨r1, h2, h⟩ := bnd_e h
  refine x_callS (pc := 1) (As := [.int (zi x1)]) (rest := []) (w2 := (w_Mod cI cB a0 a1 a2 a3 a4 a5 a6 a7 a8 a9 a10 a11 a12 a13 a14 a15 m_stepsMade m_stepsMost m_taped m_reading m_statements m_telling m_hasImage m_isKeeping m_cursor m_rowMany m_lots m_refused m_bytes m_owner m_block m_written m_waits m_kinds m_tape m_sort m_sortAt m_told m_kept m_was m_ends m_row)) X d_Mod_which_1 lk_Mod_230 mv_Mod_isFile (c_Mod_isFile l D cI cB x1 h2) ⟨(Nat.le_of_ble_eq_true rfl), (Nat.le_of_ble_eq_true rfl), (Nat.le_of_ble_eq_true rfl), (Nat.le_of_ble_eq_true rfl)⟩ [] rfl rfl rfl (Up.same rfl) rfl rfl (Nat.le_of_ble_eq_true rfl) ?_
  refine x_ifne (pc := 4) (tgt := 13) X d_Mod_which_4 rfl h (fun h => ?_) (fun h => ?_)
  · skip
    refine x_aload_n (pc := 13) X d_Mod_which_13 0 rfl rfl ?_
    refine x_get (pc := 14) X d_Mod_which_14 0 rfl fl_Mod_349 rfl ?_
    refine x_aload_n (pc := 17) X d_Mod_which_17 0 rfl rfl ?_
    refine x_iload_n (pc := 18) X d_Mod_which_18 1 rfl rfl ?_
    refine x_iconst (pc := 19) X d_Mod_which_19  ?_
    obtain ⟨r3, h4, h⟩ := bnd_e h
    refine x_callV (pc := 20) (As := [.int (zi x1), .int (zi 1)]) (rest := [.int (zi m_rowMany)]) (w2 := (w_Mod cI cB a0 a1 a2 a3 a4 a5 a6 a7 a8 a9 a10 a11 a12 a13 a14 a15 m_stepsMade m_stepsMost m_taped m_reading m_statements m_telling m_hasImage m_isKeeping m_cursor m_rowMany m_lots m_refused m_bytes m_owner m_block m_written m_waits m_kinds m_tape m_sort m_sortAt m_told m_kept m_was m_ends m_row)) X d_Mod_which_20 lk_Mod_272 mv_Mod_waitingOf (c_Mod_waitingOf l D cI cB a0 a1 a2 a3 a4 a5 a6 a7 a8 a9 a10 a11 a12 a13 a14 a15 m_stepsMade m_stepsMost m_taped m_reading m_statements m_telling m_hasImage m_isKeeping m_cursor m_rowMany m_lots m_refused m_bytes m_owner m_block m_written m_waits m_kinds m_tape m_sort m_sortAt m_told m_kept m_was m_ends m_row x1 1 h4) ⟨(Nat.le_of_ble_eq_true rfl), (Nat.le_of_ble_eq_true rfl), (Nat.le_of_ble_eq_true rfl), (Nat.le_of_ble_eq_true rfl)⟩ 0 rfl rfl [0, 1, 2, 3, 4, 5, 6, 7, 8, 9, 10, 11, 12, 13, 14, 15] rfl rfl rfl (Up.same rfl) rfl rfl (Nat.le_of_ble_eq_true rfl) ?_
    refine x_icmple (pc := 23) (tgt := 33) X d_Mod_which_23 rfl h (fun h => ?_) (fun h => ?_)
    · skip
      refine x_iconst (pc := 33) X d_Mod_which_33  ?_
      refine x_istore_n (pc := 34) (ls2 := [(2, .int (zi 0)), (0, .ref a0), (1, .int (zi x1))]) X d_Mod_which_34 rfl (Nat.le_of_ble_eq_true rfl) rfl ?_
      refine x_ls (ls2 := [(0, .ref a0), (1, .int (zi x1)), (2, .int (zi 0))]) [1, 2, 0] rfl ?_
      exact l_Mod_which_35 X 5000 x1 0 m_stepsMade m_stepsMost m_isKeeping m_cursor m_rowMany m_refused m_bytes m_owner m_block m_written m_waits m_kinds m_kept m_was m_row o h hR
    · skip
      refine x_aload_n (pc := 26) X d_Mod_which_26 0 rfl rfl ?_
      refine x_bipush (pc := 27) (v := -3) X d_Mod_which_27 rfl ?_
      obtain ⟨r36, h37, h⟩ := bnd_e h
      refine x_callV (pc := 29) (As := [.int (zi (-3))]) (rest := []) (w2 := (w_Mod cI cB a0 a1 a2 a3 a4 a5 a6 a7 a8 a9 a10 a11 a12 a13 a14 a15 m_stepsMade m_stepsMost m_taped m_reading m_statements m_telling m_hasImage m_isKeeping m_cursor m_rowMany m_lots r36.2 m_bytes m_owner m_block m_written m_waits m_kinds m_tape m_sort m_sortAt m_told m_kept m_was m_ends m_row)) X d_Mod_which_29 lk_Mod_172 mv_Mod_no (c_Mod_no l D cI cB a0 a1 a2 a3 a4 a5 a6 a7 a8 a9 a10 a11 a12 a13 a14 a15 m_stepsMade m_stepsMost m_taped m_reading m_statements m_telling m_hasImage m_isKeeping m_cursor m_rowMany m_lots m_refused m_bytes m_owner m_block m_written m_waits m_kinds m_tape m_sort m_sortAt m_told m_kept m_was m_ends m_row (-3) h37) ⟨(Nat.le_of_ble_eq_true rfl), (Nat.le_of_ble_eq_true rfl), (Nat.le_of_ble_eq_true rfl), (Nat.le_of_ble_eq_true rfl)⟩ 0 rfl rfl [0, 1, 2, 3, 4, 5, 6, 7, 8, 9, 10, 11, 12, 13, 14, 15] rfl rfl rfl (Up.of [] [] rfl rfl rfl 16 rfl (by decide +kernel)) rfl rfl (Nat.le_of_ble_eq_true rfl) ?_
      cases h
      exact x_iret (pc := 32) X hR d_Mod_which_32
  · skip
    refine x_aload_n (pc := 7) X d_Mod_which_7 0 rfl rfl ?_
    refine x_iconst (pc := 8) X d_Mod_which_8  ?_
    obtain ⟨r38, h39, h⟩ := bnd_e h
    refine x_callV (pc := 9) (As := [.int (zi (-1))]) (rest := []) (w2 := (w_Mod cI cB a0 a1 a2 a3 a4 a5 a6 a7 a8 a9 a10 a11 a12 a13 a14 a15 m_stepsMade m_stepsMost m_taped m_reading m_statements m_telling m_hasImage m_isKeeping m_cursor m_rowMany m_lots r38.2 m_bytes m_owner m_block m_written m_waits m_kinds m_tape m_sort m_sortAt m_told m_kept m_was m_ends m_row)) X d_Mod_which_9 lk_Mod_172 mv_Mod_no (c_Mod_no l D cI cB a0 a1 a2 a3 a4 a5 a6 a7 a8 a9 a10 a11 a12 a13 a14 a15 m_stepsMade m_stepsMost m_taped m_reading m_statements m_telling m_hasImage m_isKeeping m_cursor m_rowMany m_lots m_refused m_bytes m_owner m_block m_written m_waits m_kinds m_tape m_sort m_sortAt m_told m_kept m_was m_ends m_row (-1) h39) ⟨(Nat.le_of_ble_eq_true rfl), (Nat.le_of_ble_eq_true rfl), (Nat.le_of_ble_eq_true rfl), (Nat.le_of_ble_eq_true rfl)⟩ 0 rfl rfl [0, 1, 2, 3, 4, 5, 6, 7, 8, 9, 10, 11, 12, 13, 14, 15] rfl rfl rfl (Up.of [] [] rfl rfl rfl 16 rfl (by decide +kernel)) rfl rfl (Nat.le_of_ble_eq_true rfl) ?_
    cases h
    exact x_iret (pc := 12) X hR d_Mod_which_12
theorem d_Mod_row_0 : decode b_Mod_row 0 = .ok (.iload_n 1, 1) := by decide +kernel
theorem d_Mod_row_1 : decode b_Mod_row 1 = .ok (.iconst 0, 1) := by decide +kernel
theorem d_Mod_row_2 : decode b_Mod_row 2 = .ok (.bipush 99, 2) := by decide +kernel
theorem d_Mod_row_4 : decode b_Mod_row 4 = .ok (.invokestatic 166, 3) := by decide +kernel
theorem d_Mod_row_7 : decode b_Mod_row 7 = .ok (.istore_n 2, 1) := by decide +kernel
theorem d_Mod_row_8 : decode b_Mod_row 8 = .ok (.iload_n 2, 1) := by decide +kernel
theorem d_Mod_row_9 : decode b_Mod_row 9 = .ok (.ifCond .ne 15, 3) := by decide +kernel
theorem d_Mod_row_12 : decode b_Mod_row 12 = .ok (.aload_n 0, 1) := by decide +kernel
theorem d_Mod_row_13 : decode b_Mod_row 13 = .ok (.getfield 349, 3) := by decide +kernel
theorem d_Mod_row_16 : decode b_Mod_row 16 = .ok (.bipush 32, 2) := by decide +kernel
theorem d_Mod_row_18 : decode b_Mod_row 18 = .ok (.if_icmp .ne 6, 3) := by decide +kernel
theorem d_Mod_row_21 : decode b_Mod_row 21 = .ok (.bipush (-6), 2) := by decide +kernel
theorem d_Mod_row_23 : decode b_Mod_row 23 = .ok (.istore_n 2, 1) := by decide +kernel
theorem d_Mod_row_24 : decode b_Mod_row 24 = .ok (.iload_n 2, 1) := by decide +kernel
theorem d_Mod_row_25 : decode b_Mod_row 25 = .ok (.ifCond .eq 9, 3) := by decide +kernel
theorem d_Mod_row_28 : decode b_Mod_row 28 = .ok (.aload_n 0, 1) := by decide +kernel
theorem d_Mod_row_29 : decode b_Mod_row 29 = .ok (.iload_n 2, 1) := by decide +kernel
theorem d_Mod_row_30 : decode b_Mod_row 30 = .ok (.invokevirtual 172, 3) := by decide +kernel
theorem d_Mod_row_33 : decode b_Mod_row 33 = .ok (.ireturn, 1) := by decide +kernel
theorem d_Mod_row_34 : decode b_Mod_row 34 = .ok (.aload_n 0, 1) := by decide +kernel
theorem d_Mod_row_35 : decode b_Mod_row 35 = .ok (.getfield 52, 3) := by decide +kernel
theorem d_Mod_row_38 : decode b_Mod_row 38 = .ok (.aload_n 0, 1) := by decide +kernel
theorem d_Mod_row_39 : decode b_Mod_row 39 = .ok (.getfield 349, 3) := by decide +kernel
theorem d_Mod_row_42 : decode b_Mod_row 42 = .ok (.iload_n 1, 1) := by decide +kernel
theorem d_Mod_row_43 : decode b_Mod_row 43 = .ok (.iastore, 1) := by decide +kernel
theorem d_Mod_row_44 : decode b_Mod_row 44 = .ok (.aload_n 0, 1) := by decide +kernel
theorem d_Mod_row_45 : decode b_Mod_row 45 = .ok (.dup, 1) := by decide +kernel
theorem d_Mod_row_46 : decode b_Mod_row 46 = .ok (.getfield 349, 3) := by decide +kernel
theorem d_Mod_row_49 : decode b_Mod_row 49 = .ok (.iconst 1, 1) := by decide +kernel
theorem d_Mod_row_50 : decode b_Mod_row 50 = .ok (.iadd, 1) := by decide +kernel
theorem d_Mod_row_51 : decode b_Mod_row 51 = .ok (.putfield 349, 3) := by decide +kernel
theorem d_Mod_row_54 : decode b_Mod_row 54 = .ok (.aload_n 0, 1) := by decide +kernel
theorem d_Mod_row_55 : decode b_Mod_row 55 = .ok (.getfield 349, 3) := by decide +kernel
theorem d_Mod_row_58 : decode b_Mod_row 58 = .ok (.ireturn, 1) := by decide +kernel
def m_Mod_row (x1 : Int) (m_rowMany : Int) (m_refused : Int → Int) (m_row : Int → Int) : Option (Int × Int × (Int → Int) × (Int → Int)) :=
  bnd (m_Mod_bound x1 0 99) (fun r1 => jn (fun (z4 : Int) (z5 : Int) (c6 : Int) (c7 : Int → Int) (c8 : Int → Int) => ceq z5 0 (gd (zx c6 32) (some ((c6 + 1), (c6 + 1), c7, (uf c8 c6 z4)))) (bnd (m_Mod_no z5 c7) (fun r9 => some (r9.1, c6, r9.2, c8)))) (fun j3 => ceq r1 0 (ceq m_rowMany 32 (j3 x1 (-6) m_rowMany m_refused m_row) (j3 x1 r1 m_rowMany m_refused m_row)) (j3 x1 r1 m_rowMany m_refused m_row)))
set_option maxHeartbeats 4000000 in
set_option maxRecDepth 100000 in
theorem c_Mod_row (l : Launch) (D : va_G) (cI cB : ClassId) (a0 a1 a2 a3 a4 a5 a6 a7 a8 a9 a10 a11 a12 a13 a14 a15 : Nat) (m_stepsMade : Int) (m_stepsMost : Int) (m_taped : Int) (m_reading : Int) (m_statements : Int) (m_telling : Int) (m_hasImage : Int) (m_isKeeping : Int) (m_cursor : Int) (m_rowMany : Int) (m_lots : Int) (m_refused : Int → Int) (m_bytes : Int → Int) (m_owner : Int → Int) (m_block : Int → Int) (m_written : Int → Int) (m_waits : Int → Int) (m_kinds : Int → Int) (m_tape : Int → Int) (m_sort : Int → Int) (m_sortAt : Int → Int) (m_told : Int → Int) (m_kept : Int → Int) (m_was : Int → Int) (m_ends : Int → Int) (m_row : Int → Int) (x1 : Int) {o : Int × Int × (Int → Int) × (Int → Int)} (h : m_Mod_row x1 m_rowMany m_refused m_row = some o) : Ct l D cI cB y_Mod_row b_Mod_row 3 (some .int) { frames := 1, cells := 0, slots := 0, locals := 22 } [.ref a0, .int (zi x1)] (w_Mod cI cB a0 a1 a2 a3 a4 a5 a6 a7 a8 a9 a10 a11 a12 a13 a14 a15 m_stepsMade m_stepsMost m_taped m_reading m_statements m_telling m_hasImage m_isKeeping m_cursor m_rowMany m_lots m_refused m_bytes m_owner m_block m_written m_waits m_kinds m_tape m_sort m_sortAt m_told m_kept m_was m_ends m_row) (w_Mod cI cB a0 a1 a2 a3 a4 a5 a6 a7 a8 a9 a10 a11 a12 a13 a14 a15 m_stepsMade m_stepsMost m_taped m_reading m_statements m_telling m_hasImage m_isKeeping m_cursor o.2.1 m_lots o.2.2.1 m_bytes m_owner m_block m_written m_waits m_kinds m_tape m_sort m_sortAt m_told m_kept m_was m_ends o.2.2.2) (some (.int (zi o.1))) := by
  refine Ct.start (by decide) (Nat.le_of_ble_eq_true rfl) (fun G X hR => ?_)
  refine x_ls (ls2 := [(0, .ref a0), (1, .int (zi x1))]) [0, 1] rfl ?_
  unfold m_Mod_row at h
  refine x_iload_n (pc := 0) X d_Mod_row_0 1 rfl rfl ?_
  refine x_iconst (pc := 1) X d_Mod_row_1  ?_
  refine x_bipush (pc := 2) (v := 99) X d_Mod_row_2 rfl ?_
  obtain ⟨r1, h2, h⟩ := bnd_e h
  refine x_callS (pc := 4) (As := [.int (zi x1), .int (zi 0), .int (zi 99)]) (rest := []) (w2 := (w_Mod cI cB a0 a1 a2 a3 a4 a5 a6 a7 a8 a9 a10 a11 a12 a13 a14 a15 m_stepsMade m_stepsMost m_taped m_reading m_statements m_telling m_hasImage m_isKeeping m_cursor m_rowMany m_lots m_refused m_bytes m_owner m_block m_written m_waits m_kinds m_tape m_sort m_sortAt m_told m_kept m_was m_ends m_row)) X d_Mod_row_4 lk_Mod_166 mv_Mod_bound (c_Mod_bound l D cI cB x1 0 99 h2) ⟨(Nat.le_of_ble_eq_true rfl), (Nat.le_of_ble_eq_true rfl), (Nat.le_of_ble_eq_true rfl), (Nat.le_of_ble_eq_true rfl)⟩ [] rfl rfl rfl (Up.same rfl) rfl rfl (Nat.le_of_ble_eq_true rfl) ?_
  refine x_istore_n (pc := 7) (ls2 := [(2, .int (zi r1)), (0, .ref a0), (1, .int (zi x1))]) X d_Mod_row_7 rfl (Nat.le_of_ble_eq_true rfl) rfl ?_
  refine x_iload_n (pc := 8) X d_Mod_row_8 0 rfl rfl ?_
  obtain ⟨j3, hj11, h⟩ := jn_e h
  have J12 : ∀ (z4 : Int) (z5 : Int) (c6 : Int) (c7 : Int → Int) (c8 : Int → Int), j3 z4 z5 c6 c7 c8 = some o → Wx G 0 0 24 [(0, .ref a0), (1, .int (zi z4)), (2, .int (zi z5))] [] (w_Mod cI cB a0 a1 a2 a3 a4 a5 a6 a7 a8 a9 a10 a11 a12 a13 a14 a15 m_stepsMade m_stepsMost m_taped m_reading m_statements m_telling m_hasImage m_isKeeping m_cursor c6 m_lots c7 m_bytes m_owner m_block m_written m_waits m_kinds m_tape m_sort m_sortAt m_told m_kept m_was m_ends c8) := by
    intro z4 z5 c6 c7 c8 h
    rw [hj11] at h
    (try dsimp only at h)
    refine x_iload_n (pc := 24) X d_Mod_row_24 2 rfl rfl ?_
    refine x_ifeq (pc := 25) (tgt := 34) X d_Mod_row_25 rfl h (fun h => ?_) (fun h => ?_)
    · skip
      refine x_aload_n (pc := 34) X d_Mod_row_34 0 rfl rfl ?_
      refine x_get (pc := 35) X d_Mod_row_35 0 rfl fl_Mod_52 rfl ?_
      refine x_aload_n (pc := 38) X d_Mod_row_38 0 rfl rfl ?_
      refine x_get (pc := 39) X d_Mod_row_39 0 rfl fl_Mod_349 rfl ?_
      refine x_iload_n (pc := 42) X d_Mod_row_42 1 rfl rfl ?_
      refine x_iast (pc := 43) (w2 := (w_Mod cI cB a0 a1 a2 a3 a4 a5 a6 a7 a8 a9 a10 a11 a12 a13 a14 a15 m_stepsMade m_stepsMost m_taped m_reading m_statements m_telling m_hasImage m_isKeeping m_cursor c6 m_lots c7 m_bytes m_owner m_block m_written m_waits m_kinds m_tape m_sort m_sortAt m_told m_kept m_was m_ends (uf c8 c6 z4))) X d_Mod_row_43 15 rfl (Nat.le_of_ble_eq_true rfl) rfl rfl h (fun h => ?_)
      refine x_aload_n (pc := 44) X d_Mod_row_44 0 rfl rfl ?_
      refine x_dup (pc := 45) X d_Mod_row_45 rfl ?_
      refine x_get (pc := 46) X d_Mod_row_46 0 rfl fl_Mod_349 rfl ?_
      refine x_iconst (pc := 49) X d_Mod_row_49  ?_
      refine x_iadd (pc := 50) X d_Mod_row_50  ?_
      refine x_put (pc := 51) (w2 := (w_Mod cI cB a0 a1 a2 a3 a4 a5 a6 a7 a8 a9 a10 a11 a12 a13 a14 a15 m_stepsMade m_stepsMost m_taped m_reading m_statements m_telling m_hasImage m_isKeeping m_cursor (c6 + 1) m_lots c7 m_bytes m_owner m_block m_written m_waits m_kinds m_tape m_sort m_sortAt m_told m_kept m_was m_ends (uf c8 c6 z4))) X d_Mod_row_51 0 rfl (fp_Mod_349 _) (Nat.le_of_ble_eq_true rfl) rfl ?_
      refine x_aload_n (pc := 54) X d_Mod_row_54 0 rfl rfl ?_
      refine x_get (pc := 55) X d_Mod_row_55 0 rfl fl_Mod_349 rfl ?_
      cases h
      exact x_iret (pc := 58) X hR d_Mod_row_58
    · skip
      refine x_aload_n (pc := 28) X d_Mod_row_28 0 rfl rfl ?_
      refine x_iload_n (pc := 29) X d_Mod_row_29 2 rfl rfl ?_
      obtain ⟨r9, h10, h⟩ := bnd_e h
      refine x_callV (pc := 30) (As := [.int (zi z5)]) (rest := []) (w2 := (w_Mod cI cB a0 a1 a2 a3 a4 a5 a6 a7 a8 a9 a10 a11 a12 a13 a14 a15 m_stepsMade m_stepsMost m_taped m_reading m_statements m_telling m_hasImage m_isKeeping m_cursor c6 m_lots r9.2 m_bytes m_owner m_block m_written m_waits m_kinds m_tape m_sort m_sortAt m_told m_kept m_was m_ends c8)) X d_Mod_row_30 lk_Mod_172 mv_Mod_no (c_Mod_no l D cI cB a0 a1 a2 a3 a4 a5 a6 a7 a8 a9 a10 a11 a12 a13 a14 a15 m_stepsMade m_stepsMost m_taped m_reading m_statements m_telling m_hasImage m_isKeeping m_cursor c6 m_lots c7 m_bytes m_owner m_block m_written m_waits m_kinds m_tape m_sort m_sortAt m_told m_kept m_was m_ends c8 z5 h10) ⟨(Nat.le_of_ble_eq_true rfl), (Nat.le_of_ble_eq_true rfl), (Nat.le_of_ble_eq_true rfl), (Nat.le_of_ble_eq_true rfl)⟩ 0 rfl rfl [0, 1, 2, 3, 4, 5, 6, 7, 8, 9, 10, 11, 12, 13, 14, 15] rfl rfl rfl (Up.of [] [] rfl rfl rfl 16 rfl (by decide +kernel)) rfl rfl (Nat.le_of_ble_eq_true rfl) ?_
      cases h
      exact x_iret (pc := 33) X hR d_Mod_row_33
  clear hj11
  refine x_ifne (pc := 9) (tgt := 24) X d_Mod_row_9 rfl h (fun h => ?_) (fun h => ?_)
  · skip
    refine x_ls (ls2 := [(0, .ref a0), (1, .int (zi x1)), (2, .int (zi r1))]) [1, 2, 0] rfl ?_
    exact J12 x1 r1 m_rowMany m_refused m_row h
  · skip
    refine x_aload_n (pc := 12) X d_Mod_row_12 1 rfl rfl ?_
    refine x_get (pc := 13) X d_Mod_row_13 0 rfl fl_Mod_349 rfl ?_
    refine x_bipush (pc := 16) (v := 32) X d_Mod_row_16 rfl ?_
    refine x_icmpne (pc := 18) (tgt := 24) X d_Mod_row_18 rfl h (fun h => ?_) (fun h => ?_)
    · skip
      refine x_ls (ls2 := [(0, .ref a0), (1, .int (zi x1)), (2, .int (zi r1))]) [1, 2, 0] rfl ?_
      exact J12 x1 r1 m_rowMany m_refused m_row h
    · skip
      refine x_bipush (pc := 21) (v := -6) X d_Mod_row_21 rfl ?_
      refine x_istore_n (pc := 23) (ls2 := [(2, .int (zi (-6))), (0, .ref a0), (1, .int (zi x1))]) X d_Mod_row_23 rfl (Nat.le_of_ble_eq_true rfl) rfl ?_
      refine x_ls (ls2 := [(0, .ref a0), (1, .int (zi x1)), (2, .int (zi (-6)))]) [1, 2, 0] rfl ?_
      exact J12 x1 (-6) m_rowMany m_refused m_row h
theorem d_Mod_judge_0 : decode b_Mod_judge 0 = .ok (.iload_n 1, 1) := by decide +kernel
theorem d_Mod_judge_1 : decode b_Mod_judge 1 = .ok (.invokestatic 230, 3) := by decide +kernel
theorem d_Mod_judge_4 : decode b_Mod_judge 4 = .ok (.ifCond .ne 9, 3) := by decide +kernel
theorem d_Mod_judge_7 : decode b_Mod_judge 7 = .ok (.aload_n 0, 1) := by decide +kernel
theorem d_Mod_judge_8 : decode b_Mod_judge 8 = .ok (.iconst (-1), 1) := by decide +kernel
theorem d_Mod_judge_9 : decode b_Mod_judge 9 = .ok (.invokevirtual 172, 3) := by decide +kernel
theorem d_Mod_judge_12 : decode b_Mod_judge 12 = .ok (.ireturn, 1) := by decide +kernel
theorem d_Mod_judge_13 : decode b_Mod_judge 13 = .ok (.aload_n 0, 1) := by decide +kernel
theorem d_Mod_judge_14 : decode b_Mod_judge 14 = .ok (.getfield 349, 3) := by decide +kernel
theorem d_Mod_judge_17 : decode b_Mod_judge 17 = .ok (.istore_n 2, 1) := by decide +kernel
theorem d_Mod_judge_18 : decode b_Mod_judge 18 = .ok (.aload_n 0, 1) := by decide +kernel
theorem d_Mod_judge_19 : decode b_Mod_judge 19 = .ok (.iconst 0, 1) := by decide +kernel
theorem d_Mod_judge_20 : decode b_Mod_judge 20 = .ok (.putfield 349, 3) := by decide +kernel
theorem d_Mod_judge_23 : decode b_Mod_judge 23 = .ok (.iconst 0, 1) := by decide +kernel
theorem d_Mod_judge_24 : decode b_Mod_judge 24 = .ok (.istore_n 3, 1) := by decide +kernel
theorem d_Mod_judge_25 : decode b_Mod_judge 25 = .ok (.iload_n 3, 1) := by decide +kernel
theorem d_Mod_judge_26 : decode b_Mod_judge 26 = .ok (.iload_n 2, 1) := by decide +kernel
theorem d_Mod_judge_27 : decode b_Mod_judge 27 = .ok (.if_icmp .ge 59, 3) := by decide +kernel
theorem d_Mod_judge_30 : decode b_Mod_judge 30 = .ok (.iload_n 3, 1) := by decide +kernel
theorem d_Mod_judge_31 : decode b_Mod_judge 31 = .ok (.bipush 24, 2) := by decide +kernel
theorem d_Mod_judge_33 : decode b_Mod_judge 33 = .ok (.if_icmp .ge 30, 3) := by decide +kernel
theorem d_Mod_judge_36 : decode b_Mod_judge 36 = .ok (.aload_n 0, 1) := by decide +kernel
theorem d_Mod_judge_37 : decode b_Mod_judge 37 = .ok (.bipush 24, 2) := by decide +kernel
theorem d_Mod_judge_39 : decode b_Mod_judge 39 = .ok (.iload_n 1, 1) := by decide +kernel
theorem d_Mod_judge_40 : decode b_Mod_judge 40 = .ok (.imul, 1) := by decide +kernel
theorem d_Mod_judge_41 : decode b_Mod_judge 41 = .ok (.iload_n 3, 1) := by decide +kernel
theorem d_Mod_judge_42 : decode b_Mod_judge 42 = .ok (.iadd, 1) := by decide +kernel
theorem d_Mod_judge_43 : decode b_Mod_judge 43 = .ok (.invokevirtual 62, 3) := by decide +kernel
theorem d_Mod_judge_46 : decode b_Mod_judge 46 = .ok (.ifCond .eq 17, 3) := by decide +kernel
theorem d_Mod_judge_49 : decode b_Mod_judge 49 = .ok (.aload_n 0, 1) := by decide +kernel
theorem d_Mod_judge_50 : decode b_Mod_judge 50 = .ok (.getfield 19, 3) := by decide +kernel
theorem d_Mod_judge_53 : decode b_Mod_judge 53 = .ok (.bipush 24, 2) := by decide +kernel
theorem d_Mod_judge_55 : decode b_Mod_judge 55 = .ok (.iload_n 1, 1) := by decide +kernel
theorem d_Mod_judge_56 : decode b_Mod_judge 56 = .ok (.imul, 1) := by decide +kernel
theorem d_Mod_judge_57 : decode b_Mod_judge 57 = .ok (.iload_n 3, 1) := by decide +kernel
theorem d_Mod_judge_58 : decode b_Mod_judge 58 = .ok (.iadd, 1) := by decide +kernel
theorem d_Mod_judge_59 : decode b_Mod_judge 59 = .ok (.iaload, 1) := by decide +kernel
theorem d_Mod_judge_60 : decode b_Mod_judge 60 = .ok (.goto 5, 3) := by decide +kernel
theorem d_Mod_judge_63 : decode b_Mod_judge 63 = .ok (.bipush 99, 2) := by decide +kernel
theorem d_Mod_judge_65 : decode b_Mod_judge 65 = .ok (.istore 4, 2) := by decide +kernel
theorem d_Mod_judge_67 : decode b_Mod_judge 67 = .ok (.iload 4, 2) := by decide +kernel
theorem d_Mod_judge_69 : decode b_Mod_judge 69 = .ok (.aload_n 0, 1) := by decide +kernel
theorem d_Mod_judge_70 : decode b_Mod_judge 70 = .ok (.getfield 52, 3) := by decide +kernel
theorem d_Mod_judge_73 : decode b_Mod_judge 73 = .ok (.iload_n 3, 1) := by decide +kernel
theorem d_Mod_judge_74 : decode b_Mod_judge 74 = .ok (.iaload, 1) := by decide +kernel
theorem d_Mod_judge_75 : decode b_Mod_judge 75 = .ok (.if_icmp .eq 5, 3) := by decide +kernel
theorem d_Mod_judge_78 : decode b_Mod_judge 78 = .ok (.iload_n 3, 1) := by decide +kernel
theorem d_Mod_judge_79 : decode b_Mod_judge 79 = .ok (.ireturn, 1) := by decide +kernel
theorem d_Mod_judge_80 : decode b_Mod_judge 80 = .ok (.iinc 3 1, 3) := by decide +kernel
theorem d_Mod_judge_83 : decode b_Mod_judge 83 = .ok (.goto (-58), 3) := by decide +kernel
theorem d_Mod_judge_86 : decode b_Mod_judge 86 = .ok (.bipush (-9), 2) := by decide +kernel
theorem d_Mod_judge_88 : decode b_Mod_judge 88 = .ok (.ireturn, 1) := by decide +kernel
def m_Mod_judge_25 : Nat → Int → Int → Int → Int → (Int → Int) → (Int → Int) → (Int → Int) → Option (Int × Int × (Int → Int))
  | 0, _, _, _, _, _, _, _ => none
  | fuel + 1, v1, v2, v3, m_rowMany, m_refused, m_block, m_row =>
  clt v3 v2 (jn (fun (z4 : Int) (z5 : Int) (z6 : Int) (z7 : Int) (c8 : Int) (c9 : Int → Int) => gd (zx z6 32) (ceq z7 (m_row z6) (m_Mod_judge_25 fuel z4 z5 (z6 + 1) c8 c9 m_block m_row) (some (z6, c8, c9)))) (fun j3 => jn (fun (z13 : Int) (z14 : Int) (z15 : Int) (c16 : Int) (c17 : Int → Int) => j3 z13 z14 z15 99 c16 c17) (fun j12 => clt v3 24 (bnd (m_Mod_isPlaced ((24 * v1) + v3) m_block) (fun r20 => ceq r20 0 (j12 v1 v2 v3 m_rowMany m_refused) (gd (zx ((24 * v1) + v3) 96) (j3 v1 v2 v3 (m_block ((24 * v1) + v3)) m_rowMany m_refused)))) (j12 v1 v2 v3 m_rowMany m_refused)))) (some ((-9), m_rowMany, m_refused))
def m_Mod_judge (x1 : Int) (m_rowMany : Int) (m_refused : Int → Int) (m_block : Int → Int) (m_row : Int → Int) : Option (Int × Int × (Int → Int)) :=
  bnd (m_Mod_isFile x1) (fun r1 => ceq r1 0 (bnd (m_Mod_no (-1) m_refused) (fun r22 => some (r22.1, m_rowMany, r22.2))) (m_Mod_judge_25 5000 x1 m_rowMany 0 0 m_refused m_block m_row))
set_option maxHeartbeats 4000000 in
set_option maxRecDepth 100000 in
theorem l_Mod_judge_25 {G : GT} {l : Launch} {D : va_G} {cI cB : ClassId} {a0 a1 a2 a3 a4 a5 a6 a7 a8 a9 a10 a11 a12 a13 a14 a15 : Nat} {m_stepsMade : Int} {m_stepsMost : Int} {m_taped : Int} {m_reading : Int} {m_statements : Int} {m_telling : Int} {m_hasImage : Int} {m_isKeeping : Int} {m_cursor : Int} {m_lots : Int} {m_bytes : Int → Int} {m_owner : Int → Int} {m_written : Int → Int} {m_waits : Int → Int} {m_kinds : Int → Int} {m_tape : Int → Int} {m_sort : Int → Int} {m_sortAt : Int → Int} {m_told : Int → Int} {m_kept : Int → Int} {m_was : Int → Int} {m_ends : Int → Int} (X : Cx G l D cI cB b_Mod_judge y_Mod_judge.cls 5 { frames := 2, cells := 0, slots := 0, locals := 42 }) : ∀ (fuel : Nat) (v1 : Int) (v2 : Int) (v3 : Int) (m_rowMany : Int) (m_refused : Int → Int) (m_block : Int → Int) (m_row : Int → Int) (o : Int × Int × (Int → Int)), m_Mod_judge_25 fuel v1 v2 v3 m_rowMany m_refused m_block m_row = some o → Rt G (some .int) (some (.int (zi o.1))) (w_Mod cI cB a0 a1 a2 a3 a4 a5 a6 a7 a8 a9 a10 a11 a12 a13 a14 a15 m_stepsMade m_stepsMost m_taped m_reading m_statements m_telling m_hasImage m_isKeeping m_cursor o.2.1 m_lots o.2.2 m_bytes m_owner m_block m_written m_waits m_kinds m_tape m_sort m_sortAt m_told m_kept m_was m_ends m_row) → Wx G 0 0 25 [(0, .ref a0), (1, .int (zi v1)), (2, .int (zi v2)), (3, .int (zi v3))] [] (w_Mod cI cB a0 a1 a2 a3 a4 a5 a6 a7 a8 a9 a10 a11 a12 a13 a14 a15 m_stepsMade m_stepsMost m_taped m_reading m_statements m_telling m_hasImage m_isKeeping m_cursor m_rowMany m_lots m_refused m_bytes m_owner m_block m_written m_waits m_kinds m_tape m_sort m_sortAt m_told m_kept m_was m_ends m_row) := by
  intro fuel
  induction fuel with
  | zero =>
    intro v1 v2 v3 m_rowMany m_refused m_block m_row o h
    exact absurd h (by simp [m_Mod_judge_25])
  | succ fuel ih =>
    intro v1 v2 v3 m_rowMany m_refused m_block m_row o h hR
    rw [m_Mod_judge_25] at h
    refine x_iload_n (pc := 25) X d_Mod_judge_25 3 rfl rfl ?_
    refine x_iload_n (pc := 26) X d_Mod_judge_26 2 rfl rfl ?_
    refine x_icmpge (pc := 27) (tgt := 86) X d_Mod_judge_27 rfl h (fun h => ?_) (fun h => ?_)
    · skip
      refine x_bipush (pc := 86) (v := -9) X d_Mod_judge_86 rfl ?_
      cases h
      exact x_iret (pc := 88) X hR d_Mod_judge_88
    · skip
      refine x_iload_n (pc := 30) X d_Mod_judge_30 3 rfl rfl ?_
      refine x_bipush (pc := 31) (v := 24) X d_Mod_judge_31 rfl ?_
      obtain ⟨j3, hj10, h⟩ := jn_e h
      have J11 : ∀ (z4 : Int) (z5 : Int) (z6 : Int) (z7 : Int) (c8 : Int) (c9 : Int → Int), j3 z4 z5 z6 z7 c8 c9 = some o → Wx G 0 0 65 [(0, .ref a0), (1, .int (zi z4)), (2, .int (zi z5)), (3, .int (zi z6))] [.int (zi z7)] (w_Mod cI cB a0 a1 a2 a3 a4 a5 a6 a7 a8 a9 a10 a11 a12 a13 a14 a15 m_stepsMade m_stepsMost m_taped m_reading m_statements m_telling m_hasImage m_isKeeping m_cursor c8 m_lots c9 m_bytes m_owner m_block m_written m_waits m_kinds m_tape m_sort m_sortAt m_told m_kept m_was m_ends m_row) := by
        intro z4 z5 z6 z7 c8 c9 h
        rw [hj10] at h
        (try dsimp only at h)
        refine x_istore (pc := 65) (ls2 := [(4, .int (zi z7)), (0, .ref a0), (1, .int (zi z4)), (2, .int (zi z5)), (3, .int (zi z6))]) X d_Mod_judge_65 (Nat.le_of_ble_eq_true rfl) rfl ?_
        refine x_iload (pc := 67) X d_Mod_judge_67 0 rfl ?_
        refine x_aload_n (pc := 69) X d_Mod_judge_69 1 rfl rfl ?_
        refine x_get (pc := 70) X d_Mod_judge_70 0 rfl fl_Mod_52 rfl ?_
        refine x_iload_n (pc := 73) X d_Mod_judge_73 4 rfl rfl ?_
        refine x_iald (pc := 74) X d_Mod_judge_74 15 rfl (Nat.le_of_ble_eq_true rfl) rfl h (fun h => ?_)
        refine x_icmpeq (pc := 75) (tgt := 80) X d_Mod_judge_75 rfl h (fun h => ?_) (fun h => ?_)
        · skip
          refine x_iinc (pc := 80) (ls2 := [(3, .int (zi (z6 + 1))), (4, .int (zi z7)), (0, .ref a0), (1, .int (zi z4)), (2, .int (zi z5))]) X d_Mod_judge_80 4 (Nat.le_of_ble_eq_true rfl) rfl rfl ?_
          refine x_goto (pc := 83) (tgt := 25) X d_Mod_judge_83 rfl ?_
          refine x_ls (ls2 := [(0, .ref a0), (1, .int (zi z4)), (2, .int (zi z5)), (3, .int (zi (z6 + 1)))]) [2, 3, 4, 0] rfl ?_
          exact ih z4 z5 (z6 + 1) c8 c9 m_block m_row o h hR
        · skip
          refine x_iload_n (pc := 78) X d_Mod_judge_78 4 rfl rfl ?_
          cases h
          exact x_iret (pc := 79) X hR d_Mod_judge_79
      clear hj10
      obtain ⟨j12, hj18, h⟩ := jn_e h
      have J19 : ∀ (z13 : Int) (z14 : Int) (z15 : Int) (c16 : Int) (c17 : Int → Int), j12 z13 z14 z15 c16 c17 = some o → Wx G 0 0 63 [(0, .ref a0), (1, .int (zi z13)), (2, .int (zi z14)), (3, .int (zi z15))] [] (w_Mod cI cB a0 a1 a2 a3 a4 a5 a6 a7 a8 a9 a10 a11 a12 a13 a14 a15 m_stepsMade m_stepsMost m_taped m_reading m_statements m_telling m_hasImage m_isKeeping m_cursor c16 m_lots c17 m_bytes m_owner m_block m_written m_waits m_kinds m_tape m_sort m_sortAt m_told m_kept m_was m_ends m_row) := by
        intro z13 z14 z15 c16 c17 h
        rw [hj18] at h
        (try dsimp only at h)
        refine x_bipush (pc := 63) (v := 99) X d_Mod_judge_63 rfl ?_
        exact J11 z13 z14 z15 99 c16 c17 h
      clear hj18
      refine x_icmpge (pc := 33) (tgt := 63) X d_Mod_judge_33 rfl h (fun h => ?_) (fun h => ?_)
      · skip
        exact J19 v1 v2 v3 m_rowMany m_refused h
      · skip
        refine x_aload_n (pc := 36) X d_Mod_judge_36 0 rfl rfl ?_
        refine x_bipush (pc := 37) (v := 24) X d_Mod_judge_37 rfl ?_
        refine x_iload_n (pc := 39) X d_Mod_judge_39 1 rfl rfl ?_
        refine x_imul (pc := 40) X d_Mod_judge_40  ?_
        refine x_iload_n (pc := 41) X d_Mod_judge_41 3 rfl rfl ?_
        refine x_iadd (pc := 42) X d_Mod_judge_42  ?_
        obtain ⟨r20, h21, h⟩ := bnd_e h
        refine x_callV (pc := 43) (As := [.int (zi ((24 * v1) + v3))]) (rest := []) (w2 := (w_Mod cI cB a0 a1 a2 a3 a4 a5 a6 a7 a8 a9 a10 a11 a12 a13 a14 a15 m_stepsMade m_stepsMost m_taped m_reading m_statements m_telling m_hasImage m_isKeeping m_cursor m_rowMany m_lots m_refused m_bytes m_owner m_block m_written m_waits m_kinds m_tape m_sort m_sortAt m_told m_kept m_was m_ends m_row)) X d_Mod_judge_43 lk_Mod_62 mv_Mod_isPlaced (c_Mod_isPlaced l D cI cB a0 a1 a2 a3 a4 a5 a6 a7 a8 a9 a10 a11 a12 a13 a14 a15 m_stepsMade m_stepsMost m_taped m_reading m_statements m_telling m_hasImage m_isKeeping m_cursor m_rowMany m_lots m_refused m_bytes m_owner m_block m_written m_waits m_kinds m_tape m_sort m_sortAt m_told m_kept m_was m_ends m_row ((24 * v1) + v3) h21) ⟨(Nat.le_of_ble_eq_true rfl), (Nat.le_of_ble_eq_true rfl), (Nat.le_of_ble_eq_true rfl), (Nat.le_of_ble_eq_true rfl)⟩ 0 rfl rfl [0, 1, 2, 3, 4, 5, 6, 7, 8, 9, 10, 11, 12, 13, 14, 15] rfl rfl rfl (Up.same rfl) rfl rfl (Nat.le_of_ble_eq_true rfl) ?_
        refine x_ifeq (pc := 46) (tgt := 63) X d_Mod_judge_46 rfl h (fun h => ?_) (fun h => ?_)
        · skip
          exact J19 v1 v2 v3 m_rowMany m_refused h
        · skip
          refine x_aload_n (pc := 49) X d_Mod_judge_49 0 rfl rfl ?_
          refine x_get (pc := 50) X d_Mod_judge_50 0 rfl fl_Mod_19 rfl ?_
          refine x_bipush (pc := 53) (v := 24) X d_Mod_judge_53 rfl ?_
          refine x_iload_n (pc := 55) X d_Mod_judge_55 1 rfl rfl ?_
          refine x_imul (pc := 56) X d_Mod_judge_56  ?_
          refine x_iload_n (pc := 57) X d_Mod_judge_57 3 rfl rfl ?_
          refine x_iadd (pc := 58) X d_Mod_judge_58  ?_
          refine x_iald (pc := 59) X d_Mod_judge_59 4 rfl (Nat.le_of_ble_eq_true rfl) rfl h (fun h => ?_)
          refine x_goto (pc := 60) (tgt := 65) X d_Mod_judge_60 rfl ?_
          exact J11 v1 v2 v3 (m_block ((24 * v1) + v3)) m_rowMany m_refused h
set_option maxHeartbeats 4000000 in
set_option maxRecDepth 100000 in
theorem c_Mod_judge (l : Launch) (D : va_G) (cI cB : ClassId) (a0 a1 a2 a3 a4 a5 a6 a7 a8 a9 a10 a11 a12 a13 a14 a15 : Nat) (m_stepsMade : Int) (m_stepsMost : Int) (m_taped : Int) (m_reading : Int) (m_statements : Int) (m_telling : Int) (m_hasImage : Int) (m_isKeeping : Int) (m_cursor : Int) (m_rowMany : Int) (m_lots : Int) (m_refused : Int → Int) (m_bytes : Int → Int) (m_owner : Int → Int) (m_block : Int → Int) (m_written : Int → Int) (m_waits : Int → Int) (m_kinds : Int → Int) (m_tape : Int → Int) (m_sort : Int → Int) (m_sortAt : Int → Int) (m_told : Int → Int) (m_kept : Int → Int) (m_was : Int → Int) (m_ends : Int → Int) (m_row : Int → Int) (x1 : Int) {o : Int × Int × (Int → Int)} (h : m_Mod_judge x1 m_rowMany m_refused m_block m_row = some o) : Ct l D cI cB y_Mod_judge b_Mod_judge 5 (some .int) { frames := 2, cells := 0, slots := 0, locals := 42 } [.ref a0, .int (zi x1)] (w_Mod cI cB a0 a1 a2 a3 a4 a5 a6 a7 a8 a9 a10 a11 a12 a13 a14 a15 m_stepsMade m_stepsMost m_taped m_reading m_statements m_telling m_hasImage m_isKeeping m_cursor m_rowMany m_lots m_refused m_bytes m_owner m_block m_written m_waits m_kinds m_tape m_sort m_sortAt m_told m_kept m_was m_ends m_row) (w_Mod cI cB a0 a1 a2 a3 a4 a5 a6 a7 a8 a9 a10 a11 a12 a13 a14 a15 m_stepsMade m_stepsMost m_taped m_reading m_statements m_telling m_hasImage m_isKeeping m_cursor o.2.1 m_lots o.2.2 m_bytes m_owner m_block m_written m_waits m_kinds m_tape m_sort m_sortAt m_told m_kept m_was m_ends m_row) (some (.int (zi o.1))) := by
  refine Ct.start (by decide) (Nat.le_of_ble_eq_true rfl) (fun G X hR => ?_)
  refine x_ls (ls2 := [(0, .ref a0), (1, .int (zi x1))]) [0, 1] rfl ?_
  unfold m_Mod_judge at h
  refine x_iload_n (pc := 0) X d_Mod_judge_0 1 rfl rfl ?_
  obtain ⟨r1, h2, h⟩ := bnd_e h
  refine x_callS (pc := 1) (As := [.int (zi x1)]) (rest := []) (w2 := (w_Mod cI cB a0 a1 a2 a3 a4 a5 a6 a7 a8 a9 a10 a11 a12 a13 a14 a15 m_stepsMade m_stepsMost m_taped m_reading m_statements m_telling m_hasImage m_isKeeping m_cursor m_rowMany m_lots m_refused m_bytes m_owner m_block m_written m_waits m_kinds m_tape m_sort m_sortAt m_told m_kept m_was m_ends m_row)) X d_Mod_judge_1 lk_Mod_230 mv_Mod_isFile (c_Mod_isFile l D cI cB x1 h2) ⟨(Nat.le_of_ble_eq_true rfl), (Nat.le_of_ble_eq_true rfl), (Nat.le_of_ble_eq_true rfl), (Nat.le_of_ble_eq_true rfl)⟩ [] rfl rfl rfl (Up.same rfl) rfl rfl (Nat.le_of_ble_eq_true rfl) ?_
  refine x_ifne (pc := 4) (tgt := 13) X d_Mod_judge_4 rfl h (fun h => ?_) (fun h => ?_)
  · skip
    refine x_aload_n (pc := 13) X d_Mod_judge_13 0 rfl rfl ?_
    refine x_get (pc := 14) X d_Mod_judge_14 0 rfl fl_Mod_349 rfl ?_
    refine x_istore_n (pc := 17) (ls2 := [(2, .int (zi m_rowMany)), (0, .ref a0), (1, .int (zi x1))]) X d_Mod_judge_17 rfl (Nat.le_of_ble_eq_true rfl) rfl ?_
    refine x_aload_n (pc := 18) X d_Mod_judge_18 1 rfl rfl ?_
    refine x_iconst (pc := 19) X d_Mod_judge_19  ?_
    refine x_put (pc := 20) (w2 := (w_Mod cI cB a0 a1 a2 a3 a4 a5 a6 a7 a8 a9 a10 a11 a12 a13 a14 a15 m_stepsMade m_stepsMost m_taped m_reading m_statements m_telling m_hasImage m_isKeeping m_cursor 0 m_lots m_refused m_bytes m_owner m_block m_written m_waits m_kinds m_tape m_sort m_sortAt m_told m_kept m_was m_ends m_row)) X d_Mod_judge_20 0 rfl (fp_Mod_349 _) (Nat.le_of_ble_eq_true rfl) rfl ?_
    refine x_iconst (pc := 23) X d_Mod_judge_23  ?_
    refine x_istore_n (pc := 24) (ls2 := [(3, .int (zi 0)), (2, .int (zi m_rowMany)), (0, .ref a0), (1, .int (zi x1))]) X d_Mod_judge_24 rfl (Nat.le_of_ble_eq_true rfl) rfl ?_
    refine x_ls (ls2 := [(0, .ref a0), (1, .int (zi x1)), (2, .int (zi m_rowMany)), (3, .int (zi 0))]) [2, 3, 1, 0] rfl ?_
    exact l_Mod_judge_25 X 5000 x1 m_rowMany 0 0 m_refused m_block m_row o h hR
  · skip
    refine x_aload_n (pc := 7) X d_Mod_judge_7 0 rfl rfl ?_
    refine x_iconst (pc := 8) X d_Mod_judge_8  ?_
    obtain ⟨r22, h23, h⟩ := bnd_e h
    refine x_callV (pc := 9) (As := [.int (zi (-1))]) (rest := []) (w2 := (w_Mod cI cB a0 a1 a2 a3 a4 a5 a6 a7 a8 a9 a10 a11 a12 a13 a14 a15 m_stepsMade m_stepsMost m_taped m_reading m_statements m_telling m_hasImage m_isKeeping m_cursor m_rowMany m_lots r22.2 m_bytes m_owner m_block m_written m_waits m_kinds m_tape m_sort m_sortAt m_told m_kept m_was m_ends m_row)) X d_Mod_judge_9 lk_Mod_172 mv_Mod_no (c_Mod_no l D cI cB a0 a1 a2 a3 a4 a5 a6 a7 a8 a9 a10 a11 a12 a13 a14 a15 m_stepsMade m_stepsMost m_taped m_reading m_statements m_telling m_hasImage m_isKeeping m_cursor m_rowMany m_lots m_refused m_bytes m_owner m_block m_written m_waits m_kinds m_tape m_sort m_sortAt m_told m_kept m_was m_ends m_row (-1) h23) ⟨(Nat.le_of_ble_eq_true rfl), (Nat.le_of_ble_eq_true rfl), (Nat.le_of_ble_eq_true rfl), (Nat.le_of_ble_eq_true rfl)⟩ 0 rfl rfl [0, 1, 2, 3, 4, 5, 6, 7, 8, 9, 10, 11, 12, 13, 14, 15] rfl rfl rfl (Up.of [] [] rfl rfl rfl 16 rfl (by decide +kernel)) rfl rfl (Nat.le_of_ble_eq_true rfl) ?_
    cases h
    exact x_iret (pc := 12) X hR d_Mod_judge_12
