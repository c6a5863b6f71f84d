noncomputable abbrev w_Mod (cI cB : ClassId) (a0 a1 a2 a3 a4 a5 a6 a7 a8 a9 a10 a11 a12 a13 a14 a15 : Nat) (m_stepsMade : Int) (m_stepsMost : Int) (m_taped : Int) (m_reading : Int) (m_statements : Int) (m_telling : Int) (m_hasImage : Int) (m_isKeeping : Int) (m_cursor : Int) (m_rowMany : Int) (m_lots : Int) (m_refused : Int → Int) (m_bytes : Int → Int) (m_owner : Int → Int) (m_block : Int → Int) (m_written : Int → Int) (m_waits : Int → Int) (m_kinds : Int → Int) (m_tape : Int → Int) (m_sort : Int → Int) (m_sortAt : Int → Int) (m_told : Int → Int) (m_kept : Int → Int) (m_was : Int → Int) (m_ends : Int → Int) (m_row : Int → Int) : va_W := [(a0, .inr (6, [.ref a1, .ref a2, .ref a3, .ref a4, .ref a5, .ref a6, .ref a7, .int (zi m_stepsMade), .int (zi m_stepsMost), .ref a8, .ref a9, .ref a10, .ref a11, .int (zi m_taped), .int (zi m_reading), .int (zi m_statements), .int (zi m_telling), .ref a12, .int (zi m_hasImage), .int (zi m_isKeeping), .int (zi m_cursor), .ref a13, .ref a14, .ref a15, .int (zi m_rowMany), .int (zi m_lots)])), (a1, zA cI 7 m_refused), (a2, zA cI 64 m_bytes), (a3, zA cI 64 m_owner), (a4, zA cI 96 m_block), (a5, zA cI 96 m_written), (a6, zA cI 96 m_waits), (a7, zA cI 4 m_kinds), (a8, zA cI 96 m_tape), (a9, zA cI 33 m_sort), (a10, zA cI 33 m_sortAt), (a11, zA cI 99 m_told), (a12, zA cI 1260 m_kept), (a13, zA cI 96 m_was), (a14, zA cI 8 m_ends), (a15, zA cI 32 m_row)]
theorem d_Mod_no_0 : decode b_Mod_no 0 = .ok (.aload_n 0, 1) := by decide +kernel
theorem d_Mod_no_1 : decode b_Mod_no 1 = .ok (.getfield 7, 3) := by decide +kernel
theorem d_Mod_no_4 : decode b_Mod_no 4 = .ok (.iload_n 1, 1) := by decide +kernel
theorem d_Mod_no_5 : decode b_Mod_no 5 = .ok (.ineg, 1) := by decide +kernel
theorem d_Mod_no_6 : decode b_Mod_no 6 = .ok (.dup2, 1) := by decide +kernel
theorem d_Mod_no_7 : decode b_Mod_no 7 = .ok (.iaload, 1) := by decide +kernel
theorem d_Mod_no_8 : decode b_Mod_no 8 = .ok (.iconst 1, 1) := by decide +kernel
theorem d_Mod_no_9 : decode b_Mod_no 9 = .ok (.iadd, 1) := by decide +kernel
theorem d_Mod_no_10 : decode b_Mod_no 10 = .ok (.iastore, 1) := by decide +kernel
theorem d_Mod_no_11 : decode b_Mod_no 11 = .ok (.iload_n 1, 1) := by decide +kernel
theorem d_Mod_no_12 : decode b_Mod_no 12 = .ok (.ireturn, 1) := by decide +kernel
def m_Mod_no (x1 : Int) (m_refused : Int → Int) : Option (Int × (Int → Int)) :=
  gd (zx (-x1) 7) (gd (zx (-x1) 7) (some (x1, (uf m_refused (-x1) ((m_refused (-x1)) + 1)))))
set_option maxHeartbeats 4000000 in
set_option maxRecDepth 100000 in
theorem c_Mod_no (l : Launch) (D : va_G) (cI cB : ClassId) (a0 a1 a2 a3 a4 a5 a6 a7 a8 a9 a10 a11 a12 a13 a14 a15 : Nat) (m_stepsMade : Int) (m_stepsMost : Int) (m_taped : Int) (m_reading : Int) (m_statements : Int) (m_telling : Int) (m_hasImage : Int) (m_isKeeping : Int) (m_cursor : Int) (m_rowMany : Int) (m_lots : Int) (m_refused : Int → Int) (m_bytes : Int → Int) (m_owner : Int → Int) (m_block : Int → Int) (m_written : Int → Int) (m_waits : Int → Int) (m_kinds : Int → Int) (m_tape : Int → Int) (m_sort : Int → Int) (m_sortAt : Int → Int) (m_told : Int → Int) (m_kept : Int → Int) (m_was : Int → Int) (m_ends : Int → Int) (m_row : Int → Int) (x1 : Int) {o : Int × (Int → Int)} (h : m_Mod_no x1 m_refused = some o) : Ct l D cI cB y_Mod_no b_Mod_no 2 (some .int) { frames := 0, cells := 0, slots := 0, locals := 0 } [.ref a0, .int (zi x1)] (w_Mod cI cB a0 a1 a2 a3 a4 a5 a6 a7 a8 a9 a10 a11 a12 a13 a14 a15 m_stepsMade m_stepsMost m_taped m_reading m_statements m_telling m_hasImage m_isKeeping m_cursor m_rowMany m_lots m_refused m_bytes m_owner m_block m_written m_waits m_kinds m_tape m_sort m_sortAt m_told m_kept m_was m_ends m_row) (w_Mod cI cB a0 a1 a2 a3 a4 a5 a6 a7 a8 a9 a10 a11 a12 a13 a14 a15 m_stepsMade m_stepsMost m_taped m_reading m_statements m_telling m_hasImage m_isKeeping m_cursor m_rowMany m_lots o.2 m_bytes m_owner m_block m_written m_waits m_kinds m_tape m_sort m_sortAt m_told m_kept m_was m_ends m_row) (some (.int (zi o.1))) := by
  refine Ct.start (by decide) (Nat.le_of_ble_eq_true rfl) (fun G X hR => ?_)
  refine x_ls (ls2 := [(0, .ref a0), (1, .int (zi x1))]) [0, 1] rfl ?_
  unfold m_Mod_no at h
  refine x_aload_n (pc := 0) X d_Mod_no_0 0 rfl rfl ?_
  refine x_get (pc := 1) X d_Mod_no_1 0 rfl fl_Mod_7 rfl ?_
  refine x_iload_n (pc := 4) X d_Mod_no_4 1 rfl rfl ?_
  refine x_ineg (pc := 5) X d_Mod_no_5  ?_
  refine x_dup2 (pc := 6) X d_Mod_no_6 rfl rfl ?_
  refine x_iald (pc := 7) X d_Mod_no_7 1 rfl (Nat.le_of_ble_eq_true rfl) rfl h (fun h => ?_)
  refine x_iconst (pc := 8) X d_Mod_no_8  ?_
  refine x_iadd (pc := 9) X d_Mod_no_9  ?_
  refine x_iast (pc := 10) (w2 := (w_Mod cI cB a0 a1 a2 a3 a4 a5 a6 a7 a8 a9 a10 a11 a12 a13 a14 a15 m_stepsMade m_stepsMost m_taped m_reading m_statements m_telling m_hasImage m_isKeeping m_cursor m_rowMany m_lots (uf m_refused (-x1) ((m_refused (-x1)) + 1)) m_bytes m_owner m_block m_written m_waits m_kinds m_tape m_sort m_sortAt m_told m_kept m_was m_ends m_row)) X d_Mod_no_10 1 rfl (Nat.le_of_ble_eq_true rfl) rfl rfl h (fun h => ?_)
  refine x_iload_n (pc := 11) X d_Mod_no_11 1 rfl rfl ?_
  cases h
  exact x_iret (pc := 12) X hR d_Mod_no_12
theorem d_Mod_letter_0 : decode b_Mod_letter 0 = .ok (.iload_n 1, 1) := by decide +kernel
theorem d_Mod_letter_1 : decode b_Mod_letter 1 = .ok (.iconst 0, 1) := by decide +kernel
theorem d_Mod_letter_2 : decode b_Mod_letter 2 = .ok (.sipush 255, 3) := by decide +kernel
theorem d_Mod_letter_5 : decode b_Mod_letter 5 = .ok (.invokestatic 166, 3) := by decide +kernel
theorem d_Mod_letter_8 : decode b_Mod_letter 8 = .ok (.istore_n 2, 1) := by decide +kernel
theorem d_Mod_letter_9 : decode b_Mod_letter 9 = .ok (.iload_n 2, 1) := by decide +kernel
theorem d_Mod_letter_10 : decode b_Mod_letter 10 = .ok (.ifCond .ne 15, 3) := by decide +kernel
theorem d_Mod_letter_13 : decode b_Mod_letter 13 = .ok (.aload_n 0, 1) := by decide +kernel
theorem d_Mod_letter_14 : decode b_Mod_letter 14 = .ok (.getfield 169, 3) := by decide +kernel
theorem d_Mod_letter_17 : decode b_Mod_letter 17 = .ok (.bipush 96, 2) := by decide +kernel
theorem d_Mod_letter_19 : decode b_Mod_letter 19 = .ok (.if_icmp .ne 6, 3) := by decide +kernel
theorem d_Mod_letter_22 : decode b_Mod_letter 22 = .ok (.bipush (-6), 2) := by decide +kernel
theorem d_Mod_letter_24 : decode b_Mod_letter 24 = .ok (.istore_n 2, 1) := by decide +kernel
theorem d_Mod_letter_25 : decode b_Mod_letter 25 = .ok (.iload_n 2, 1) := by decide +kernel
theorem d_Mod_letter_26 : decode b_Mod_letter 26 = .ok (.ifCond .eq 9, 3) := by decide +kernel
theorem d_Mod_letter_29 : decode b_Mod_letter 29 = .ok (.aload_n 0, 1) := by decide +kernel
theorem d_Mod_letter_30 : decode b_Mod_letter 30 = .ok (.iload_n 2, 1) := by decide +kernel
theorem d_Mod_letter_31 : decode b_Mod_letter 31 = .ok (.invokevirtual 172, 3) := by decide +kernel
theorem d_Mod_letter_34 : decode b_Mod_letter 34 = .ok (.ireturn, 1) := by decide +kernel
theorem d_Mod_letter_35 : decode b_Mod_letter 35 = .ok (.aload_n 0, 1) := by decide +kernel
theorem d_Mod_letter_36 : decode b_Mod_letter 36 = .ok (.getfield 31, 3) := by decide +kernel
theorem d_Mod_letter_39 : decode b_Mod_letter 39 = .ok (.aload_n 0, 1) := by decide +kernel
theorem d_Mod_letter_40 : decode b_Mod_letter 40 = .ok (.getfield 169, 3) := by decide +kernel
theorem d_Mod_letter_43 : decode b_Mod_letter 43 = .ok (.iload_n 1, 1) := by decide +kernel
theorem d_Mod_letter_44 : decode b_Mod_letter 44 = .ok (.iastore, 1) := by decide +kernel
theorem d_Mod_letter_45 : decode b_Mod_letter 45 = .ok (.aload_n 0, 1) := by decide +kernel
theorem d_Mod_letter_46 : decode b_Mod_letter 46 = .ok (.dup, 1) := by decide +kernel
theorem d_Mod_letter_47 : decode b_Mod_letter 47 = .ok (.getfield 169, 3) := by decide +kernel
theorem d_Mod_letter_50 : decode b_Mod_letter 50 = .ok (.iconst 1, 1) := by decide +kernel
theorem d_Mod_letter_51 : decode b_Mod_letter 51 = .ok (.iadd, 1) := by decide +kernel
theorem d_Mod_letter_52 : decode b_Mod_letter 52 = .ok (.putfield 169, 3) := by decide +kernel
theorem d_Mod_letter_55 : decode b_Mod_letter 55 = .ok (.aload_n 0, 1) := by decide +kernel
theorem d_Mod_letter_56 : decode b_Mod_letter 56 = .ok (.getfield 169, 3) := by decide +kernel
theorem d_Mod_letter_59 : decode b_Mod_letter 59 = .ok (.ireturn, 1) := by decide +kernel
def m_Mod_letter (x1 : Int) (m_taped : Int) (m_refused : Int → Int) (m_tape : Int → Int) : Option (Int × Int × (Int → Int) × (Int → Int)) :=
  bnd (m_Mod_bound x1 0 255) (fun r1 => jn (fun (z4 : Int) (z5 : Int) (c6 : Int) (c7 : Int → Int) (c8 : Int → Int) => ceq z5 0 (gd (zx c6 96) (some ((c6 + 1), (c6 + 1), c7, (uf c8 c6 z4)))) (bnd (m_Mod_no z5 c7) (fun r9 => some (r9.1, c6, r9.2, c8)))) (fun j3 => ceq r1 0 (ceq m_taped 96 (j3 x1 (-6) m_taped m_refused m_tape) (j3 x1 r1 m_taped m_refused m_tape)) (j3 x1 r1 m_taped m_refused m_tape)))
set_option maxHeartbeats 4000000 in
set_option maxRecDepth 100000 in
theorem c_Mod_letter (l : Launch) (D : va_G) (cI cB : ClassId) (a0 a1 a2 a3 a4 a5 a6 a7 a8 a9 a10 a11 a12 a13 a14 a15 : Nat) (m_stepsMade : Int) (m_stepsMost : Int) (m_taped : Int) (m_reading : Int) (m_statements : Int) (m_telling : Int) (m_hasImage : Int) (m_isKeeping : Int) (m_cursor : Int) (m_rowMany : Int) (m_lots : Int) (m_refused : Int → Int) (m_bytes : Int → Int) (m_owner : Int → Int) (m_block : Int → Int) (m_written : Int → Int) (m_waits : Int → Int) (m_kinds : Int → Int) (m_tape : Int → Int) (m_sort : Int → Int) (m_sortAt : Int → Int) (m_told : Int → Int) (m_kept : Int → Int) (m_was : Int → Int) (m_ends : Int → Int) (m_row : Int → Int) (x1 : Int) {o : Int × Int × (Int → Int) × (Int → Int)} (h : m_Mod_letter x1 m_taped m_refused m_tape = some o) : Ct l D cI cB y_Mod_letter b_Mod_letter 3 (some .int) { frames := 1, cells := 0, slots := 0, locals := 22 } [.ref a0, .int (zi x1)] (w_Mod cI cB a0 a1 a2 a3 a4 a5 a6 a7 a8 a9 a10 a11 a12 a13 a14 a15 m_stepsMade m_stepsMost m_taped m_reading m_statements m_telling m_hasImage m_isKeeping m_cursor m_rowMany m_lots m_refused m_bytes m_owner m_block m_written m_waits m_kinds m_tape m_sort m_sortAt m_told m_kept m_was m_ends m_row) (w_Mod cI cB a0 a1 a2 a3 a4 a5 a6 a7 a8 a9 a10 a11 a12 a13 a14 a15 m_stepsMade m_stepsMost o.2.1 m_reading m_statements m_telling m_hasImage m_isKeeping m_cursor m_rowMany m_lots o.2.2.1 m_bytes m_owner m_block m_written m_waits m_kinds o.2.2.2 m_sort m_sortAt m_told m_kept m_was m_ends m_row) (some (.int (zi o.1))) := by
  refine Ct.start (by decide) (Nat.le_of_ble_eq_true rfl) (fun G X hR => ?_)
  refine x_ls (ls2 := [(0, .ref a0), (1, .int (zi x1))]) [0, 1] rfl ?_
  unfold m_Mod_letter at h
  refine x_iload_n (pc := 0) X d_Mod_letter_0 1 rfl rfl ?_
  refine x_iconst (pc := 1) X d_Mod_letter_1  ?_
  refine x_sipush (pc := 2) (v := 255) X d_Mod_letter_2 (by decide +kernel) ?_
  obtain ⟨r1, h2, h⟩ := bnd_e h
  refine x_callS (pc := 5) (As := [.int (zi x1), .int (zi 0), .int (zi 255)]) (rest := []) (w2 := (w_Mod cI cB a0 a1 a2 a3 a4 a5 a6 a7 a8 a9 a10 a11 a12 a13 a14 a15 m_stepsMade m_stepsMost m_taped m_reading m_statements m_telling m_hasImage m_isKeeping m_cursor m_rowMany m_lots m_refused m_bytes m_owner m_block m_written m_waits m_kinds m_tape m_sort m_sortAt m_told m_kept m_was m_ends m_row)) X d_Mod_letter_5 lk_Mod_166 mv_Mod_bound (c_Mod_bound l D cI cB x1 0 255 h2) ⟨(Nat.le_of_ble_eq_true rfl), (Nat.le_of_ble_eq_true rfl), (Nat.le_of_ble_eq_true rfl), (Nat.le_of_ble_eq_true rfl)⟩ [] rfl rfl rfl (Up.same rfl) rfl rfl (Nat.le_of_ble_eq_true rfl) ?_
  refine x_istore_n (pc := 8) (ls2 := [(2, .int (zi r1)), (0, .ref a0), (1, .int (zi x1))]) X d_Mod_letter_8 rfl (Nat.le_of_ble_eq_true rfl) rfl ?_
  refine x_iload_n (pc := 9) X d_Mod_letter_9 0 rfl rfl ?_
  obtain ⟨j3, hj11, h⟩ := jn_e h
  have J12 : ∀ (z4 : Int) (z5 : Int) (c6 : Int) (c7 : Int → Int) (c8 : Int → Int), j3 z4 z5 c6 c7 c8 = some o → Wx G 0 0 25 [(0, .ref a0), (1, .int (zi z4)), (2, .int (zi z5))] [] (w_Mod cI cB a0 a1 a2 a3 a4 a5 a6 a7 a8 a9 a10 a11 a12 a13 a14 a15 m_stepsMade m_stepsMost c6 m_reading m_statements m_telling m_hasImage m_isKeeping m_cursor m_rowMany m_lots c7 m_bytes m_owner m_block m_written m_waits m_kinds c8 m_sort m_sortAt m_told m_kept m_was m_ends m_row) := by
    intro z4 z5 c6 c7 c8 h
    rw [hj11] at h
    (try dsimp only at h)
    refine x_iload_n (pc := 25) X d_Mod_letter_25 2 rfl rfl ?_
    refine x_ifeq (pc := 26) (tgt := 35) X d_Mod_letter_26 rfl h (fun h => ?_) (fun h => ?_)
    · skip
      refine x_aload_n (pc := 35) X d_Mod_letter_35 0 rfl rfl ?_
      refine x_get (pc := 36) X d_Mod_letter_36 0 rfl fl_Mod_31 rfl ?_
      refine x_aload_n (pc := 39) X d_Mod_letter_39 0 rfl rfl ?_
      refine x_get (pc := 40) X d_Mod_letter_40 0 rfl fl_Mod_169 rfl ?_
      refine x_iload_n (pc := 43) X d_Mod_letter_43 1 rfl rfl ?_
      refine x_iast (pc := 44) (w2 := (w_Mod cI cB a0 a1 a2 a3 a4 a5 a6 a7 a8 a9 a10 a11 a12 a13 a14 a15 m_stepsMade m_stepsMost c6 m_reading m_statements m_telling m_hasImage m_isKeeping m_cursor m_rowMany m_lots c7 m_bytes m_owner m_block m_written m_waits m_kinds (uf c8 c6 z4) m_sort m_sortAt m_told m_kept m_was m_ends m_row)) X d_Mod_letter_44 8 rfl (Nat.le_of_ble_eq_true rfl) rfl rfl h (fun h => ?_)
      refine x_aload_n (pc := 45) X d_Mod_letter_45 0 rfl rfl ?_
      refine x_dup (pc := 46) X d_Mod_letter_46 rfl ?_
      refine x_get (pc := 47) X d_Mod_letter_47 0 rfl fl_Mod_169 rfl ?_
      refine x_iconst (pc := 50) X d_Mod_letter_50  ?_
      refine x_iadd (pc := 51) X d_Mod_letter_51  ?_
      refine x_put (pc := 52) (w2 := (w_Mod cI cB a0 a1 a2 a3 a4 a5 a6 a7 a8 a9 a10 a11 a12 a13 a14 a15 m_stepsMade m_stepsMost (c6 + 1) m_reading m_statements m_telling m_hasImage m_isKeeping m_cursor m_rowMany m_lots c7 m_bytes m_owner m_block m_written m_waits m_kinds (uf c8 c6 z4) m_sort m_sortAt m_told m_kept m_was m_ends m_row)) X d_Mod_letter_52 0 rfl (fp_Mod_169 _) (Nat.le_of_ble_eq_true rfl) rfl ?_
      refine x_aload_n (pc := 55) X d_Mod_letter_55 0 rfl rfl ?_
      refine x_get (pc := 56) X d_Mod_letter_56 0 rfl fl_Mod_169 rfl ?_
      cases h
      exact x_iret (pc := 59) X hR d_Mod_letter_59
    · skip
      refine x_aload_n (pc := 29) X d_Mod_letter_29 0 rfl rfl ?_
      refine x_iload_n (pc := 30) X d_Mod_letter_30 2 rfl rfl ?_
      obtain ⟨r9, h10, h⟩ := bnd_e h
      refine x_callV (pc := 31) (As := [.int (zi z5)]) (rest := []) (w2 := (w_Mod cI cB a0 a1 a2 a3 a4 a5 a6 a7 a8 a9 a10 a11 a12 a13 a14 a15 m_stepsMade m_stepsMost c6 m_reading m_statements m_telling m_hasImage m_isKeeping m_cursor m_rowMany m_lots r9.2 m_bytes m_owner m_block m_written m_waits m_kinds c8 m_sort m_sortAt m_told m_kept m_was m_ends m_row)) X d_Mod_letter_31 lk_Mod_172 mv_Mod_no (c_Mod_no l D cI cB a0 a1 a2 a3 a4 a5 a6 a7 a8 a9 a10 a11 a12 a13 a14 a15 m_stepsMade m_stepsMost c6 m_reading m_statements m_telling m_hasImage m_isKeeping m_cursor m_rowMany m_lots c7 m_bytes m_owner m_block m_written m_waits m_kinds c8 m_sort m_sortAt m_told m_kept m_was m_ends m_row z5 h10) ⟨(Nat.le_of_ble_eq_true rfl), (Nat.le_of_ble_eq_true rfl), (Nat.le_of_ble_eq_true rfl), (Nat.le_of_ble_eq_true rfl)⟩ 0 rfl rfl [0, 1, 2, 3, 4, 5, 6, 7, 8, 9, 10, 11, 12, 13, 14, 15] rfl rfl rfl (Up.of [] [] rfl rfl rfl 16 rfl (by decide +kernel)) rfl rfl (Nat.le_of_ble_eq_true rfl) ?_
      cases h
      exact x_iret (pc := 34) X hR d_Mod_letter_34
  clear hj11
  refine x_ifne (pc := 10) (tgt := 25) X d_Mod_letter_10 rfl h (fun h => ?_) (fun h => ?_)
  · skip
    refine x_ls (ls2 := [(0, .ref a0), (1, .int (zi x1)), (2, .int (zi r1))]) [1, 2, 0] rfl ?_
    exact J12 x1 r1 m_taped m_refused m_tape h
  · skip
    refine x_aload_n (pc := 13) X d_Mod_letter_13 1 rfl rfl ?_
    refine x_get (pc := 14) X d_Mod_letter_14 0 rfl fl_Mod_169 rfl ?_
    refine x_bipush (pc := 17) (v := 96) X d_Mod_letter_17 rfl ?_
    refine x_icmpne (pc := 19) (tgt := 25) X d_Mod_letter_19 rfl h (fun h => ?_) (fun h => ?_)
    · skip
      refine x_ls (ls2 := [(0, .ref a0), (1, .int (zi x1)), (2, .int (zi r1))]) [1, 2, 0] rfl ?_
      exact J12 x1 r1 m_taped m_refused m_tape h
    · skip
      refine x_bipush (pc := 22) (v := -6) X d_Mod_letter_22 rfl ?_
      refine x_istore_n (pc := 24) (ls2 := [(2, .int (zi (-6))), (0, .ref a0), (1, .int (zi x1))]) X d_Mod_letter_24 rfl (Nat.le_of_ble_eq_true rfl) rfl ?_
      refine x_ls (ls2 := [(0, .ref a0), (1, .int (zi x1)), (2, .int (zi (-6)))]) [1, 2, 0] rfl ?_
      exact J12 x1 (-6) m_taped m_refused m_tape h
theorem d_Mod_letterNow_0 : decode b_Mod_letterNow 0 = .ok (.aload_n 0, 1) := by decide +kernel
theorem d_Mod_letterNow_1 : decode b_Mod_letterNow 1 = .ok (.getfield 175, 3) := by decide +kernel
theorem d_Mod_letterNow_4 : decode b_Mod_letterNow 4 = .ok (.aload_n 0, 1) := by decide +kernel
theorem d_Mod_letterNow_5 : decode b_Mod_letterNow 5 = .ok (.getfield 169, 3) := by decide +kernel
theorem d_Mod_letterNow_8 : decode b_Mod_letterNow 8 = .ok (.if_icmp .ge 15, 3) := by decide +kernel
theorem d_Mod_letterNow_11 : decode b_Mod_letterNow 11 = .ok (.aload_n 0, 1) := by decide +kernel
theorem d_Mod_letterNow_12 : decode b_Mod_letterNow 12 = .ok (.getfield 31, 3) := by decide +kernel
theorem d_Mod_letterNow_15 : decode b_Mod_letterNow 15 = .ok (.aload_n 0, 1) := by decide +kernel
theorem d_Mod_letterNow_16 : decode b_Mod_letterNow 16 = .ok (.getfield 175, 3) := by decide +kernel
theorem d_Mod_letterNow_19 : decode b_Mod_letterNow 19 = .ok (.iaload, 1) := by decide +kernel
theorem d_Mod_letterNow_20 : decode b_Mod_letterNow 20 = .ok (.goto 4, 3) := by decide +kernel
theorem d_Mod_letterNow_23 : decode b_Mod_letterNow 23 = .ok (.iconst (-1), 1) := by decide +kernel
theorem d_Mod_letterNow_24 : decode b_Mod_letterNow 24 = .ok (.ireturn, 1) := by decide +kernel
def m_Mod_letterNow  (m_taped : Int) (m_reading : Int) (m_tape : Int → Int) : Option (Int) :=
  clt m_reading m_taped (gd (zx m_reading 96) (some ((m_tape m_reading)))) (some ((-1)))
set_option maxHeartbeats 4000000 in
set_option maxRecDepth 100000 in
theorem c_Mod_letterNow (l : Launch) (D : va_G) (cI cB : ClassId) (a0 a1 a2 a3 a4 a5 a6 a7 a8 a9 a10 a11 a12 a13 a14 a15 : Nat) (m_stepsMade : Int) (m_stepsMost : Int) (m_taped : Int) (m_reading : Int) (m_statements : Int) (m_telling : Int) (m_hasImage : Int) (m_isKeeping : Int) (m_cursor : Int) (m_rowMany : Int) (m_lots : Int) (m_refused : Int → Int) (m_bytes : Int → Int) (m_owner : Int → Int) (m_block : Int → Int) (m_written : Int → Int) (m_waits : Int → Int) (m_kinds : Int → Int) (m_tape : Int → Int) (m_sort : Int → Int) (m_sortAt : Int → Int) (m_told : Int → Int) (m_kept : Int → Int) (m_was : Int → Int) (m_ends : Int → Int) (m_row : Int → Int)  {o : Int} (h : m_Mod_letterNow m_taped m_reading m_tape = some o) : Ct l D cI cB y_Mod_letterNow b_Mod_letterNow 1 (some .int) { frames := 0, cells := 0, slots := 0, locals := 0 } [.ref a0] (w_Mod cI cB a0 a1 a2 a3 a4 a5 a6 a7 a8 a9 a10 a11 a12 a13 a14 a15 m_stepsMade m_stepsMost m_taped m_reading m_statements m_telling m_hasImage m_isKeeping m_cursor m_rowMany m_lots m_refused m_bytes m_owner m_block m_written m_waits m_kinds m_tape m_sort m_sortAt m_told m_kept m_was m_ends m_row) (w_Mod cI cB a0 a1 a2 a3 a4 a5 a6 a7 a8 a9 a10 a11 a12 a13 a14 a15 m_stepsMade m_stepsMost m_taped m_reading m_statements m_telling m_hasImage m_isKeeping m_cursor m_rowMany m_lots m_refused m_bytes m_owner m_block m_written m_waits m_kinds m_tape m_sort m_sortAt m_told m_kept m_was m_ends m_row) (some (.int (zi o))) := by
  refine Ct.start (by decide) (Nat.le_of_ble_eq_true rfl) (fun G X hR => ?_)
  refine x_ls (ls2 := [(0, .ref a0)]) [0] rfl ?_
  unfold m_Mod_letterNow at h
  refine x_aload_n (pc := 0) X d_Mod_letterNow_0 0 rfl rfl ?_
  refine x_get (pc := 1) X d_Mod_letterNow_1 0 rfl fl_Mod_175 rfl ?_
  refine x_aload_n (pc := 4) X d_Mod_letterNow_4 0 rfl rfl ?_
  refine x_get (pc := 5) X d_Mod_letterNow_5 0 rfl fl_Mod_169 rfl ?_
  refine x_icmpge (pc := 8) (tgt := 23) X d_Mod_letterNow_8 rfl h (fun h => ?_) (fun h => ?_)
  · skip
    refine x_iconst (pc := 23) X d_Mod_letterNow_23  ?_
    cases h
    exact x_iret (pc := 24) X hR d_Mod_letterNow_24
  · skip
    refine x_aload_n (pc := 11) X d_Mod_letterNow_11 0 rfl rfl ?_
    refine x_get (pc := 12) X d_Mod_letterNow_12 0 rfl fl_Mod_31 rfl ?_
    refine x_aload_n (pc := 15) X d_Mod_letterNow_15 0 rfl rfl ?_
    refine x_get (pc := 16) X d_Mod_letterNow_16 0 rfl fl_Mod_175 rfl ?_
    refine x_iald (pc := 19) X d_Mod_letterNow_19 8 rfl (Nat.le_of_ble_eq_true rfl) rfl h (fun h => ?_)
    refine x_goto (pc := 20) (tgt := 24) X d_Mod_letterNow_20 rfl ?_
    cases h
    exact x_iret (pc := 24) X hR d_Mod_letterNow_24
theorem d_Mod_readsDigits_0 : decode b_Mod_readsDigits 0 = .ok (.iconst 0, 1) := by decide +kernel
theorem d_Mod_readsDigits_1 : decode b_Mod_readsDigits 1 = .ok (.istore_n 2, 1) := by decide +kernel
theorem d_Mod_readsDigits_2 : decode b_Mod_readsDigits 2 = .ok (.iconst 0, 1) := by decide +kernel
theorem d_Mod_readsDigits_3 : decode b_Mod_readsDigits 3 = .ok (.istore_n 3, 1) := by decide +kernel
theorem d_Mod_readsDigits_4 : decode b_Mod_readsDigits 4 = .ok (.iload_n 3, 1) := by decide +kernel
theorem d_Mod_readsDigits_5 : decode b_Mod_readsDigits 5 = .ok (.iload_n 1, 1) := by decide +kernel
theorem d_Mod_readsDigits_6 : decode b_Mod_readsDigits 6 = .ok (.if_icmp .ge 48, 3) := by decide +kernel
theorem d_Mod_readsDigits_9 : decode b_Mod_readsDigits 9 = .ok (.aload_n 0, 1) := by decide +kernel
theorem d_Mod_readsDigits_10 : decode b_Mod_readsDigits 10 = .ok (.invokevirtual 178, 3) := by decide +kernel
theorem d_Mod_readsDigits_13 : decode b_Mod_readsDigits 13 = .ok (.bipush 48, 2) := by decide +kernel
theorem d_Mod_readsDigits_15 : decode b_Mod_readsDigits 15 = .ok (.bipush 57, 2) := by decide +kernel
theorem d_Mod_readsDigits_17 : decode b_Mod_readsDigits 17 = .ok (.invokestatic 58, 3) := by decide +kernel
theorem d_Mod_readsDigits_20 : decode b_Mod_readsDigits 20 = .ok (.ifCond .ne 5, 3) := by decide +kernel
theorem d_Mod_readsDigits_23 : decode b_Mod_readsDigits 23 = .ok (.iconst 0, 1) := by decide +kernel
theorem d_Mod_readsDigits_24 : decode b_Mod_readsDigits 24 = .ok (.ireturn, 1) := by decide +kernel
theorem d_Mod_readsDigits_25 : decode b_Mod_readsDigits 25 = .ok (.bipush 10, 2) := by decide +kernel
theorem d_Mod_readsDigits_27 : decode b_Mod_readsDigits 27 = .ok (.iload_n 2, 1) := by decide +kernel
theorem d_Mod_readsDigits_28 : decode b_Mod_readsDigits 28 = .ok (.imul, 1) := by decide +kernel
theorem d_Mod_readsDigits_29 : decode b_Mod_readsDigits 29 = .ok (.aload_n 0, 1) := by decide +kernel
theorem d_Mod_readsDigits_30 : decode b_Mod_readsDigits 30 = .ok (.invokevirtual 178, 3) := by decide +kernel
theorem d_Mod_readsDigits_33 : decode b_Mod_readsDigits 33 = .ok (.iadd, 1) := by decide +kernel
theorem d_Mod_readsDigits_34 : decode b_Mod_readsDigits 34 = .ok (.bipush 48, 2) := by decide +kernel
theorem d_Mod_readsDigits_36 : decode b_Mod_readsDigits 36 = .ok (.isub, 1) := by decide +kernel
theorem d_Mod_readsDigits_37 : decode b_Mod_readsDigits 37 = .ok (.istore_n 2, 1) := by decide +kernel
theorem d_Mod_readsDigits_38 : decode b_Mod_readsDigits 38 = .ok (.aload_n 0, 1) := by decide +kernel
theorem d_Mod_readsDigits_39 : decode b_Mod_readsDigits 39 = .ok (.dup, 1) := by decide +kernel
theorem d_Mod_readsDigits_40 : decode b_Mod_readsDigits 40 = .ok (.getfield 175, 3) := by decide +kernel
theorem d_Mod_readsDigits_43 : decode b_Mod_readsDigits 43 = .ok (.iconst 1, 1) := by decide +kernel
theorem d_Mod_readsDigits_44 : decode b_Mod_readsDigits 44 = .ok (.iadd, 1) := by decide +kernel
theorem d_Mod_readsDigits_45 : decode b_Mod_readsDigits 45 = .ok (.putfield 175, 3) := by decide +kernel
theorem d_Mod_readsDigits_48 : decode b_Mod_readsDigits 48 = .ok (.iinc 3 1, 3) := by decide +kernel
theorem d_Mod_readsDigits_51 : decode b_Mod_readsDigits 51 = .ok (.goto (-47), 3) := by decide +kernel
theorem d_Mod_readsDigits_54 : decode b_Mod_readsDigits 54 = .ok (.aload_n 0, 1) := by decide +kernel
theorem d_Mod_readsDigits_55 : decode b_Mod_readsDigits 55 = .ok (.getfield 40, 3) := by decide +kernel
theorem d_Mod_readsDigits_58 : decode b_Mod_readsDigits 58 = .ok (.aload_n 0, 1) := by decide +kernel
theorem d_Mod_readsDigits_59 : decode b_Mod_readsDigits 59 = .ok (.getfield 181, 3) := by decide +kernel
theorem d_Mod_readsDigits_62 : decode b_Mod_readsDigits 62 = .ok (.iload_n 2, 1) := by decide +kernel
theorem d_Mod_readsDigits_63 : decode b_Mod_readsDigits 63 = .ok (.iastore, 1) := by decide +kernel
theorem d_Mod_readsDigits_64 : decode b_Mod_readsDigits 64 = .ok (.aload_n 0, 1) := by decide +kernel
theorem d_Mod_readsDigits_65 : decode b_Mod_readsDigits 65 = .ok (.dup, 1) := by decide +kernel
theorem d_Mod_readsDigits_66 : decode b_Mod_readsDigits 66 = .ok (.getfield 181, 3) := by decide +kernel
theorem d_Mod_readsDigits_69 : decode b_Mod_readsDigits 69 = .ok (.iconst 1, 1) := by decide +kernel
theorem d_Mod_readsDigits_70 : decode b_Mod_readsDigits 70 = .ok (.iadd, 1) := by decide +kernel
theorem d_Mod_readsDigits_71 : decode b_Mod_readsDigits 71 = .ok (.putfield 181, 3) := by decide +kernel
theorem d_Mod_readsDigits_74 : decode b_Mod_readsDigits 74 = .ok (.iconst 1, 1) := by decide +kernel
theorem d_Mod_readsDigits_75 : decode b_Mod_readsDigits 75 = .ok (.ireturn, 1) := by decide +kernel
def m_Mod_readsDigits_4 : Nat → Int → Int → Int → Int → Int → Int → (Int → Int) → (Int → Int) → Option (Int × Int × Int × (Int → Int))
  | 0, _, _, _, _, _, _, _, _ => none
  | fuel + 1, v1, v2, v3, m_taped, m_reading, m_telling, m_tape, m_told =>
  clt v3 v1 (bnd (m_Mod_letterNow m_taped m_reading m_tape) (fun r1 => bnd (m_Mod_isIn r1 48 57) (fun r3 => ceq r3 0 (some (0, m_reading, m_telling, m_told)) (bnd (m_Mod_letterNow m_taped m_reading m_tape) (fun r5 => m_Mod_readsDigits_4 fuel v1 (((10 * v2) + r5) - 48) (v3 + 1) m_taped (m_reading + 1) m_telling m_tape m_told))))) (gd (zx m_telling 99) (some (1, m_reading, (m_telling + 1), (uf m_told m_telling v2))))
def m_Mod_readsDigits (x1 : Int) (m_taped : Int) (m_reading : Int) (m_telling : Int) (m_tape : Int → Int) (m_told : Int → Int) : Option (Int × Int × Int × (Int → Int)) :=
  m_Mod_readsDigits_4 5000 x1 0 0 m_taped m_reading m_telling m_tape m_told
set_option maxHeartbeats 4000000 in
set_option maxRecDepth 100000 in
theorem l_Mod_readsDigits_4 {G : GT} {l : Launch} {D : va_G} {cI cB : ClassId} {a0 a1 a2 a3 a4 a5 a6 a7 a8 a9 a10 a11 a12 a13 a14 a15 : Nat} {m_stepsMade : Int} {m_stepsMost : Int} {m_statements : Int} {m_hasImage : Int} {m_isKeeping : Int} {m_cursor : Int} {m_rowMany : Int} {m_lots : Int} {m_refused : Int → Int} {m_bytes : Int → Int} {m_owner : Int → Int} {m_block : Int → Int} {m_written : Int → Int} {m_waits : Int → Int} {m_kinds : Int → Int} {m_sort : Int → Int} {m_sortAt : Int → Int} {m_kept : Int → Int} {m_was : Int → Int} {m_ends : Int → Int} {m_row : Int → Int} (X : Cx G l D cI cB b_Mod_readsDigits y_Mod_readsDigits.cls 4 { frames := 1, cells := 0, slots := 0, locals := 22 }) : ∀ (fuel : Nat) (v1 : Int) (v2 : Int) (v3 : Int) (m_taped : Int) (m_reading : Int) (m_telling : Int) (m_tape : Int → Int) (m_told : Int → Int) (o : Int × Int × Int × (Int → Int)), m_Mod_readsDigits_4 fuel v1 v2 v3 m_taped m_reading m_telling m_tape m_told = some o → Rt G (some .boolean) (some (.int (zi o.1))) (w_Mod cI cB a0 a1 a2 a3 a4 a5 a6 a7 a8 a9 a10 a11 a12 a13 a14 a15 m_stepsMade m_stepsMost m_taped o.2.1 m_statements o.2.2.1 m_hasImage m_isKeeping m_cursor m_rowMany m_lots m_refused m_bytes m_owner m_block m_written m_waits m_kinds m_tape m_sort m_sortAt o.2.2.2 m_kept m_was m_ends m_row) → Wx G 0 0 4 [(0, .ref a0), (1, .int (zi v1)), (2, .int (zi v2)), (3, .int (zi v3))] [] (w_Mod cI cB a0 a1 a2 a3 a4 a5 a6 a7 a8 a9 a10 a11 a12 a13 a14 a15 m_stepsMade m_stepsMost m_taped m_reading m_statements m_telling m_hasImage m_isKeeping m_cursor m_rowMany m_lots m_refused m_bytes m_owner m_block m_written m_waits m_kinds m_tape m_sort m_sortAt m_told m_kept m_was m_ends m_row) := by
  intro fuel
  induction fuel with
  | zero =>
    intro v1 v2 v3 m_taped m_reading m_telling m_tape m_told o h
    exact absurd h (by simp [m_Mod_readsDigits_4])
  | succ fuel ih =>
    intro v1 v2 v3 m_taped m_reading m_telling m_tape m_told o h hR
    rw [m_Mod_readsDigits_4] at h
    refine x_iload_n (pc := 4) X d_Mod_readsDigits_4 3 rfl rfl ?_
    refine x_iload_n (pc := 5) X d_Mod_readsDigits_5 1 rfl rfl ?_
    refine x_icmpge (pc := 6) (tgt := 54) X d_Mod_readsDigits_6 rfl h (fun h => ?_) (fun h => ?_)
    · skip
      refine x_aload_n (pc := 54) X d_Mod_readsDigits_54 0 rfl rfl ?_
      refine x_get (pc := 55) X d_Mod_readsDigits_55 0 rfl fl_Mod_40 rfl ?_
      refine x_aload_n (pc := 58) X d_Mod_readsDigits_58 0 rfl rfl ?_
      refine x_get (pc := 59) X d_Mod_readsDigits_59 0 rfl fl_Mod_181 rfl ?_
      refine x_iload_n (pc := 62) X d_Mod_readsDigits_62 2 rfl rfl ?_
      refine x_iast (pc := 63) (w2 := (w_Mod cI cB a0 a1 a2 a3 a4 a5 a6 a7 a8 a9 a10 a11 a12 a13 a14 a15 m_stepsMade m_stepsMost m_taped m_reading m_statements m_telling m_hasImage m_isKeeping m_cursor m_rowMany m_lots m_refused m_bytes m_owner m_block m_written m_waits m_kinds m_tape m_sort m_sortAt (uf m_told m_telling v2) m_kept m_was m_ends m_row)) X d_Mod_readsDigits_63 11 rfl (Nat.le_of_ble_eq_true rfl) rfl rfl h (fun h => ?_)
      refine x_aload_n (pc := 64) X d_Mod_readsDigits_64 0 rfl rfl ?_
      refine x_dup (pc := 65) X d_Mod_readsDigits_65 rfl ?_
      refine x_get (pc := 66) X d_Mod_readsDigits_66 0 rfl fl_Mod_181 rfl ?_
      refine x_iconst (pc := 69) X d_Mod_readsDigits_69  ?_
      refine x_iadd (pc := 70) X d_Mod_readsDigits_70  ?_
      refine x_put (pc := 71) (w2 := (w_Mod cI cB a0 a1 a2 a3 a4 a5 a6 a7 a8 a9 a10 a11 a12 a13 a14 a15 m_stepsMade m_stepsMost m_taped m_reading m_statements (m_telling + 1) m_hasImage m_isKeeping m_cursor m_rowMany m_lots m_refused m_bytes m_owner m_block m_written m_waits m_kinds m_tape m_sort m_sortAt (uf m_told m_telling v2) m_kept m_was m_ends m_row)) X d_Mod_readsDigits_71 0 rfl (fp_Mod_181 _) (Nat.le_of_ble_eq_true rfl) rfl ?_
      refine x_iconst (pc := 74) X d_Mod_readsDigits_74  ?_
      cases h
      exact x_zret (pc := 75) X hR d_Mod_readsDigits_75 (Or.inr rfl)
    · skip
      refine x_aload_n (pc := 9) X d_Mod_readsDigits_9 0 rfl rfl ?_
      obtain ⟨r1, h2, h⟩ := bnd_e h
      refine x_callV (pc := 10) (As := []) (rest := []) (w2 := (w_Mod cI cB a0 a1 a2 a3 a4 a5 a6 a7 a8 a9 a10 a11 a12 a13 a14 a15 m_stepsMade m_stepsMost m_taped m_reading m_statements m_telling m_hasImage m_isKeeping m_cursor m_rowMany m_lots m_refused m_bytes m_owner m_block m_written m_waits m_kinds m_tape m_sort m_sortAt m_told m_kept m_was m_ends m_row)) X d_Mod_readsDigits_10 lk_Mod_178 mv_Mod_letterNow (c_Mod_letterNow l D cI cB a0 a1 a2 a3 a4 a5 a6 a7 a8 a9 a10 a11 a12 a13 a14 a15 m_stepsMade m_stepsMost m_taped m_reading m_statements m_telling m_hasImage m_isKeeping m_cursor m_rowMany m_lots m_refused m_bytes m_owner m_block m_written m_waits m_kinds m_tape m_sort m_sortAt m_told m_kept m_was m_ends m_row h2) ⟨(Nat.le_of_ble_eq_true rfl), (Nat.le_of_ble_eq_true rfl), (Nat.le_of_ble_eq_true rfl), (Nat.le_of_ble_eq_true rfl)⟩ 0 rfl rfl [0, 1, 2, 3, 4, 5, 6, 7, 8, 9, 10, 11, 12, 13, 14, 15] rfl rfl rfl (Up.same rfl) rfl rfl (Nat.le_of_ble_eq_true rfl) ?_
      refine x_bipush (pc := 13) (v := 48) X d_Mod_readsDigits_13 rfl ?_
      refine x_bipush (pc := 15) (v := 57) X d_Mod_readsDigits_15 rfl ?_
      obtain ⟨r3, h4, h⟩ := bnd_e h
      refine x_callS (pc := 17) (As := [.int (zi r1), .int (zi 48), .int (zi 57)]) (rest := []) (w2 := (w_Mod cI cB a0 a1 a2 a3 a4 a5 a6 a7 a8 a9 a10 a11 a12 a13 a14 a15 m_stepsMade m_stepsMost m_taped m_reading m_statements m_telling m_hasImage m_isKeeping m_cursor m_rowMany m_lots m_refused m_bytes m_owner m_block m_written m_waits m_kinds m_tape m_sort m_sortAt m_told m_kept m_was m_ends m_row)) X d_Mod_readsDigits_17 lk_Mod_58 mv_Mod_isIn (c_Mod_isIn l D cI cB r1 48 57 h4) ⟨(Nat.le_of_ble_eq_true rfl), (Nat.le_of_ble_eq_true rfl), (Nat.le_of_ble_eq_true rfl), (Nat.le_of_ble_eq_true rfl)⟩ [] rfl rfl rfl (Up.same rfl) rfl rfl (Nat.le_of_ble_eq_true rfl) ?_
      refine x_ifne (pc := 20) (tgt := 25) X d_Mod_readsDigits_20 rfl h (fun h => ?_) (fun h => ?_)
      · skip
        refine x_bipush (pc := 25) (v := 10) X d_Mod_readsDigits_25 rfl ?_
        refine x_iload_n (pc := 27) X d_Mod_readsDigits_27 2 rfl rfl ?_
        refine x_imul (pc := 28) X d_Mod_readsDigits_28  ?_
        refine x_aload_n (pc := 29) X d_Mod_readsDigits_29 0 rfl rfl ?_
        obtain ⟨r5, h6, h⟩ := bnd_e h
        refine x_callV (pc := 30) (As := []) (rest := [.int (zi (10 * v2))]) (w2 := (w_Mod cI cB a0 a1 a2 a3 a4 a5 a6 a7 a8 a9 a10 a11 a12 a13 a14 a15 m_stepsMade m_stepsMost m_taped m_reading m_statements m_telling m_hasImage m_isKeeping m_cursor m_rowMany m_lots m_refused m_bytes m_owner m_block m_written m_waits m_kinds m_tape m_sort m_sortAt m_told m_kept m_was m_ends m_row)) X d_Mod_readsDigits_30 lk_Mod_178 mv_Mod_letterNow (c_Mod_letterNow l D cI cB a0 a1 a2 a3 a4 a5 a6 a7 a8 a9 a10 a11 a12 a13 a14 a15 m_stepsMade m_stepsMost m_taped m_reading m_statements m_telling m_hasImage m_isKeeping m_cursor m_rowMany m_lots m_refused m_bytes m_owner m_block m_written m_waits m_kinds m_tape m_sort m_sortAt m_told m_kept m_was m_ends m_row h6) ⟨(Nat.le_of_ble_eq_true rfl), (Nat.le_of_ble_eq_true rfl), (Nat.le_of_ble_eq_true rfl), (Nat.le_of_ble_eq_true rfl)⟩ 0 rfl rfl [0, 1, 2, 3, 4, 5, 6, 7, 8, 9, 10, 11, 12, 13, 14, 15] rfl rfl rfl (Up.same rfl) rfl rfl (Nat.le_of_ble_eq_true rfl) ?_
        refine x_iadd (pc := 33) X d_Mod_readsDigits_33  ?_
        refine x_bipush (pc := 34) (v := 48) X d_Mod_readsDigits_34 rfl ?_
        refine x_isub (pc := 36) X d_Mod_readsDigits_36  ?_
        refine x_istore_n (pc := 37) (ls2 := [(2, .int (zi (((10 * v2) + r5) - 48))), (0, .ref a0), (1, .int (zi v1)), (3, .int (zi v3))]) X d_Mod_readsDigits_37 rfl (Nat.le_of_ble_eq_true rfl) rfl ?_
        refine x_aload_n (pc := 38) X d_Mod_readsDigits_38 1 rfl rfl ?_
        refine x_dup (pc := 39) X d_Mod_readsDigits_39 rfl ?_
        refine x_get (pc := 40) X d_Mod_readsDigits_40 0 rfl fl_Mod_175 rfl ?_
        refine x_iconst (pc := 43) X d_Mod_readsDigits_43  ?_
        refine x_iadd (pc := 44) X d_Mod_readsDigits_44  ?_
        refine x_put (pc := 45) (w2 := (w_Mod cI cB a0 a1 a2 a3 a4 a5 a6 a7 a8 a9 a10 a11 a12 a13 a14 a15 m_stepsMade m_stepsMost m_taped (m_reading + 1) m_statements m_telling m_hasImage m_isKeeping m_cursor m_rowMany m_lots m_refused m_bytes m_owner m_block m_written m_waits m_kinds m_tape m_sort m_sortAt m_told m_kept m_was m_ends m_row)) X d_Mod_readsDigits_45 0 rfl (fp_Mod_175 _) (Nat.le_of_ble_eq_true rfl) rfl ?_
        refine x_iinc (pc := 48) (ls2 := [(3, .int (zi (v3 + 1))), (2, .int (zi (((10 * v2) + r5) - 48))), (0, .ref a0), (1, .int (zi v1))]) X d_Mod_readsDigits_48 3 (Nat.le_of_ble_eq_true rfl) rfl rfl ?_
        refine x_goto (pc := 51) (tgt := 4) X d_Mod_readsDigits_51 rfl ?_
        refine x_ls (ls2 := [(0, .ref a0), (1, .int (zi v1)), (2, .int (zi (((10 * v2) + r5) - 48))), (3, .int (zi (v3 + 1)))]) [2, 3, 1, 0] rfl ?_
        exact ih v1 (((10 * v2) + r5) - 48) (v3 + 1) m_taped (m_reading + 1) m_telling m_tape m_told o h hR
      · skip
        refine x_iconst (pc := 23) X d_Mod_readsDigits_23  ?_
        cases h
        exact x_zret (pc := 24) X hR d_Mod_readsDigits_24 (Or.inl rfl)
set_option maxHeartbeats 4000000 in
set_option maxRecDepth 100000 in
theorem c_Mod_readsDigits (l : Launch) (D : va_G) (cI cB : ClassId) (a0 a1 a2 a3 a4 a5 a6 a7 a8 a9 a10 a11 a12 a13 a14 a15 : Nat) (m_stepsMade : Int) (m_stepsMost : Int) (m_taped : Int) (m_reading : Int) (m_statements : Int) (m_telling : Int) (m_hasImage : Int) (m_isKeeping : Int) (m_cursor : Int) (m_rowMany : Int) (m_lots : Int) (m_refused : Int → Int) (m_bytes : Int → Int) (m_owner : Int → Int) (m_block : Int → Int) (m_written : Int → Int) (m_waits : Int → Int) (m_kinds : Int → Int) (m_tape : Int → Int) (m_sort : Int → Int) (m_sortAt : Int → Int) (m_told : Int → Int) (m_kept : Int → Int) (m_was : Int → Int) (m_ends : Int → Int) (m_row : Int → Int) (x1 : Int) {o : Int × Int × Int × (Int → Int)} (h : m_Mod_readsDigits x1 m_taped m_reading m_telling m_tape m_told = some o) : Ct l D cI cB y_Mod_readsDigits b_Mod_readsDigits 4 (some .boolean) { frames := 1, cells := 0, slots := 0, locals := 22 } [.ref a0, .int (zi x1)] (w_Mod cI cB a0 a1 a2 a3 a4 a5 a6 a7 a8 a9 a10 a11 a12 a13 a14 a15 m_stepsMade m_stepsMost m_taped m_reading m_statements m_telling m_hasImage m_isKeeping m_cursor m_rowMany m_lots m_refused m_bytes m_owner m_block m_written m_waits m_kinds m_tape m_sort m_sortAt m_told m_kept m_was m_ends m_row) (w_Mod cI cB a0 a1 a2 a3 a4 a5 a6 a7 a8 a9 a10 a11 a12 a13 a14 a15 m_stepsMade m_stepsMost m_taped o.2.1 m_statements o.2.2.1 m_hasImage m_isKeeping m_cursor m_rowMany m_lots m_refused m_bytes m_owner m_block m_written m_waits m_kinds m_tape m_sort m_sortAt o.2.2.2 m_kept m_was m_ends m_row) (some (.int (zi o.1))) := by
  refine Ct.start (by decide) (Nat.le_of_ble_eq_true rfl) (fun G X hR => ?_)
  refine x_ls (ls2 := [(0, .ref a0), (1, .int (zi x1))]) [0, 1] rfl ?_
  unfold m_Mod_readsDigits at h
  refine x_iconst (pc := 0) X d_Mod_readsDigits_0  ?_
  refine x_istore_n (pc := 1) (ls2 := [(2, .int (zi 0)), (0, .ref a0), (1, .int (zi x1))]) X d_Mod_readsDigits_1 rfl (Nat.le_of_ble_eq_true rfl) rfl ?_
  refine x_iconst (pc := 2) X d_Mod_readsDigits_2  ?_
  refine x_istore_n (pc := 3) (ls2 := [(3, .int (zi 0)), (2, .int (zi 0)), (0, .ref a0), (1, .int (zi x1))]) X d_Mod_readsDigits_3 rfl (Nat.le_of_ble_eq_true rfl) rfl ?_
  refine x_ls (ls2 := [(0, .ref a0), (1, .int (zi x1)), (2, .int (zi 0)), (3, .int (zi 0))]) [2, 3, 1, 0] rfl ?_
  exact l_Mod_readsDigits_4 X 5000 x1 0 0 m_taped m_reading m_telling m_tape m_told o h hR
theorem d_Mod_readsKind_0 : decode b_Mod_readsKind 0 = .ok (.aload_n 0, 1) := by decide +kernel
theorem d_Mod_readsKind_1 : decode b_Mod_readsKind 1 = .ok (.invokevirtual 178, 3) := by decide +kernel
theorem d_Mod_readsKind_4 : decode b_Mod_readsKind 4 = .ok (.invokestatic 184, 3) := by decide +kernel
theorem d_Mod_readsKind_7 : decode b_Mod_readsKind 7 = .ok (.istore_n 1, 1) := by decide +kernel
theorem d_Mod_readsKind_8 : decode b_Mod_readsKind 8 = .ok (.iload_n 1, 1) := by decide +kernel
theorem d_Mod_readsKind_9 : decode b_Mod_readsKind 9 = .ok (.ifCond .ge 5, 3) := by decide +kernel
theorem d_Mod_readsKind_12 : decode b_Mod_readsKind 12 = .ok (.iconst 0, 1) := by decide +kernel
theorem d_Mod_readsKind_13 : decode b_Mod_readsKind 13 = .ok (.ireturn, 1) := by decide +kernel
theorem d_Mod_readsKind_14 : decode b_Mod_readsKind 14 = .ok (.aload_n 0, 1) := by decide +kernel
theorem d_Mod_readsKind_15 : decode b_Mod_readsKind 15 = .ok (.getfield 40, 3) := by decide +kernel
theorem d_Mod_readsKind_18 : decode b_Mod_readsKind 18 = .ok (.aload_n 0, 1) := by decide +kernel
theorem d_Mod_readsKind_19 : decode b_Mod_readsKind 19 = .ok (.getfield 181, 3) := by decide +kernel
theorem d_Mod_readsKind_22 : decode b_Mod_readsKind 22 = .ok (.iload_n 1, 1) := by decide +kernel
theorem d_Mod_readsKind_23 : decode b_Mod_readsKind 23 = .ok (.iastore, 1) := by decide +kernel
theorem d_Mod_readsKind_24 : decode b_Mod_readsKind 24 = .ok (.aload_n 0, 1) := by decide +kernel
theorem d_Mod_readsKind_25 : decode b_Mod_readsKind 25 = .ok (.dup, 1) := by decide +kernel
theorem d_Mod_readsKind_26 : decode b_Mod_readsKind 26 = .ok (.getfield 181, 3) := by decide +kernel
theorem d_Mod_readsKind_29 : decode b_Mod_readsKind 29 = .ok (.iconst 1, 1) := by decide +kernel
theorem d_Mod_readsKind_30 : decode b_Mod_readsKind 30 = .ok (.iadd, 1) := by decide +kernel
theorem d_Mod_readsKind_31 : decode b_Mod_readsKind 31 = .ok (.putfield 181, 3) := by decide +kernel
theorem d_Mod_readsKind_34 : decode b_Mod_readsKind 34 = .ok (.aload_n 0, 1) := by decide +kernel
theorem d_Mod_readsKind_35 : decode b_Mod_readsKind 35 = .ok (.dup, 1) := by decide +kernel
theorem d_Mod_readsKind_36 : decode b_Mod_readsKind 36 = .ok (.getfield 175, 3) := by decide +kernel
theorem d_Mod_readsKind_39 : decode b_Mod_readsKind 39 = .ok (.iconst 1, 1) := by decide +kernel
theorem d_Mod_readsKind_40 : decode b_Mod_readsKind 40 = .ok (.iadd, 1) := by decide +kernel
theorem d_Mod_readsKind_41 : decode b_Mod_readsKind 41 = .ok (.putfield 175, 3) := by decide +kernel
theorem d_Mod_readsKind_44 : decode b_Mod_readsKind 44 = .ok (.iconst 1, 1) := by decide +kernel
theorem d_Mod_readsKind_45 : decode b_Mod_readsKind 45 = .ok (.ireturn, 1) := by decide +kernel
def m_Mod_readsKind  (m_taped : Int) (m_reading : Int) (m_telling : Int) (m_tape : Int → Int) (m_told : Int → Int) : Option (Int × Int × Int × (Int → Int)) :=
  bnd (m_Mod_letterNow m_taped m_reading m_tape) (fun r1 => bnd (m_Mod_kindTold r1) (fun r3 => clt r3 0 (some (0, m_reading, m_telling, m_told)) (gd (zx m_telling 99) (some (1, (m_reading + 1), (m_telling + 1), (uf m_told m_telling r3))))))
set_option maxHeartbeats 4000000 in
set_option maxRecDepth 100000 in
theorem c_Mod_readsKind (l : Launch) (D : va_G) (cI cB : ClassId) (a0 a1 a2 a3 a4 a5 a6 a7 a8 a9 a10 a11 a12 a13 a14 a15 : Nat) (m_stepsMade : Int) (m_stepsMost : Int) (m_taped : Int) (m_reading : Int) (m_statements : Int) (m_telling : Int) (m_hasImage : Int) (m_isKeeping : Int) (m_cursor : Int) (m_rowMany : Int) (m_lots : Int) (m_refused : Int → Int) (m_bytes : Int → Int) (m_owner : Int → Int) (m_block : Int → Int) (m_written : Int → Int) (m_waits : Int → Int) (m_kinds : Int → Int) (m_tape : Int → Int) (m_sort : Int → Int) (m_sortAt : Int → Int) (m_told : Int → Int) (m_kept : Int → Int) (m_was : Int → Int) (m_ends : Int → Int) (m_row : Int → Int)  {o : Int × Int × Int × (Int → Int)} (h : m_Mod_readsKind m_taped m_reading m_telling m_tape m_told = some o) : Ct l D cI cB y_Mod_readsKind b_Mod_readsKind 2 (some .boolean) { frames := 1, cells := 0, slots := 0, locals := 20 } [.ref a0] (w_Mod cI cB a0 a1 a2 a3 a4 a5 a6 a7 a8 a9 a10 a11 a12 a13 a14 a15 m_stepsMade m_stepsMost m_taped m_reading m_statements m_telling m_hasImage m_isKeeping m_cursor m_rowMany m_lots m_refused m_bytes m_owner m_block m_written m_waits m_kinds m_tape m_sort m_sortAt m_told m_kept m_was m_ends m_row) (w_Mod cI cB a0 a1 a2 a3 a4 a5 a6 a7 a8 a9 a10 a11 a12 a13 a14 a15 m_stepsMade m_stepsMost m_taped o.2.1 m_statements o.2.2.1 m_hasImage m_isKeeping m_cursor m_rowMany m_lots m_refused m_bytes m_owner m_block m_written m_waits m_kinds m_tape m_sort m_sortAt o.2.2.2 m_kept m_was m_ends m_row) (some (.int (zi o.1))) := by
  refine Ct.start (by decide) (Nat.le_of_ble_eq_true rfl) (fun G X hR => ?_)
  refine x_ls (ls2 := [(0, .ref a0)]) [0] rfl ?_
  unfold m_Mod_readsKind at h
  refine x_aload_n (pc := 0) X d_Mod_readsKind_0 0 rfl rfl ?_
  obtain ⟨r1, h2, h⟩ := bnd_e h
  refine x_callV (pc := 1) (As := []) (rest := []) (w2 := (w_Mod cI cB a0 a1 a2 a3 a4 a5 a6 a7 a8 a9 a10 a11 a12 a13 a14 a15 m_stepsMade m_stepsMost m_taped m_reading m_statements m_telling m_hasImage m_isKeeping m_cursor m_rowMany m_lots m_refused m_bytes m_owner m_block m_written m_waits m_kinds m_tape m_sort m_sortAt m_told m_kept m_was m_ends m_row)) X d_Mod_readsKind_1 lk_Mod_178 mv_Mod_letterNow (c_Mod_letterNow l D cI cB a0 a1 a2 a3 a4 a5 a6 a7 a8 a9 a10 a11 a12 a13 a14 a15 m_stepsMade m_stepsMost m_taped m_reading m_statements m_telling m_hasImage m_isKeeping m_cursor m_rowMany m_lots m_refused m_bytes m_owner m_block m_written m_waits m_kinds m_tape m_sort m_sortAt m_told m_kept m_was m_ends m_row h2) ⟨(Nat.le_of_ble_eq_true rfl), (Nat.le_of_ble_eq_true rfl), (Nat.le_of_ble_eq_true rfl), (Nat.le_of_ble_eq_true rfl)⟩ 0 rfl rfl [0, 1, 2, 3, 4, 5, 6, 7, 8, 9, 10, 11, 12, 13, 14, 15] rfl rfl rfl (Up.same rfl) rfl rfl (Nat.le_of_ble_eq_true rfl) ?_
  obtain ⟨r3, h4, h⟩ := bnd_e h
  refine x_callS (pc := 4) (As := [.int (zi r1)]) (rest := []) (w2 := (w_Mod cI cB a0 a1 a2 a3 a4 a5 a6 a7 a8 a9 a10 a11 a12 a13 a14 a15 m_stepsMade m_stepsMost m_taped m_reading m_statements m_telling m_hasImage m_isKeeping m_cursor m_rowMany m_lots m_refused m_bytes m_owner m_block m_written m_waits m_kinds m_tape m_sort m_sortAt m_told m_kept m_was m_ends m_row)) X d_Mod_readsKind_4 lk_Mod_184 mv_Mod_kindTold (c_Mod_kindTold l D cI cB r1 h4) ⟨(Nat.le_of_ble_eq_true rfl), (Nat.le_of_ble_eq_true rfl), (Nat.le_of_ble_eq_true rfl), (Nat.le_of_ble_eq_true rfl)⟩ [] rfl rfl rfl (Up.same rfl) rfl rfl (Nat.le_of_ble_eq_true rfl) ?_
  refine x_istore_n (pc := 7) (ls2 := [(1, .int (zi r3)), (0, .ref a0)]) X d_Mod_readsKind_7 rfl (Nat.le_of_ble_eq_true rfl) rfl ?_
  refine x_iload_n (pc := 8) X d_Mod_readsKind_8 0 rfl rfl ?_
  refine x_ifge (pc := 9) (tgt := 14) X d_Mod_readsKind_9 rfl h (fun h => ?_) (fun h => ?_)
  · skip
    refine x_aload_n (pc := 14) X d_Mod_readsKind_14 1 rfl rfl ?_
    refine x_get (pc := 15) X d_Mod_readsKind_15 0 rfl fl_Mod_40 rfl ?_
    refine x_aload_n (pc := 18) X d_Mod_readsKind_18 1 rfl rfl ?_
    refine x_get (pc := 19) X d_Mod_readsKind_19 0 rfl fl_Mod_181 rfl ?_
    refine x_iload_n (pc := 22) X d_Mod_readsKind_22 0 rfl rfl ?_
    refine x_iast (pc := 23) (w2 := (w_Mod cI cB a0 a1 a2 a3 a4 a5 a6 a7 a8 a9 a10 a11 a12 a13 a14 a15 m_stepsMade m_stepsMost m_taped m_reading m_statements m_telling m_hasImage m_isKeeping m_cursor m_rowMany m_lots m_refused m_bytes m_owner m_block m_written m_waits m_kinds m_tape m_sort m_sortAt (uf m_told m_telling r3) m_kept m_was m_ends m_row)) X d_Mod_readsKind_23 11 rfl (Nat.le_of_ble_eq_true rfl) rfl rfl h (fun h => ?_)
    refine x_aload_n (pc := 24) X d_Mod_readsKind_24 1 rfl rfl ?_
    refine x_dup (pc := 25) X d_Mod_readsKind_25 rfl ?_
    refine x_get (pc := 26) X d_Mod_readsKind_26 0 rfl fl_Mod_181 rfl ?_
    refine x_iconst (pc := 29) X d_Mod_readsKind_29  ?_
    refine x_iadd (pc := 30) X d_Mod_readsKind_30  ?_
    refine x_put (pc := 31) (w2 := (w_Mod cI cB a0 a1 a2 a3 a4 a5 a6 a7 a8 a9 a10 a11 a12 a13 a14 a15 m_stepsMade m_stepsMost m_taped m_reading m_statements (m_telling + 1) m_hasImage m_isKeeping m_cursor m_rowMany m_lots m_refused m_bytes m_owner m_block m_written m_waits m_kinds m_tape m_sort m_sortAt (uf m_told m_telling r3) m_kept m_was m_ends m_row)) X d_Mod_readsKind_31 0 rfl (fp_Mod_181 _) (Nat.le_of_ble_eq_true rfl) rfl ?_
    refine x_aload_n (pc := 34) X d_Mod_readsKind_34 1 rfl rfl ?_
    refine x_dup (pc := 35) X d_Mod_readsKind_35 rfl ?_
    refine x_get (pc := 36) X d_Mod_readsKind_36 0 rfl fl_Mod_175 rfl ?_
    refine x_iconst (pc := 39) X d_Mod_readsKind_39  ?_
    refine x_iadd (pc := 40) X d_Mod_readsKind_40  ?_
    refine x_put (pc := 41) (w2 := (w_Mod cI cB a0 a1 a2 a3 a4 a5 a6 a7 a8 a9 a10 a11 a12 a13 a14 a15 m_stepsMade m_stepsMost m_taped (m_reading + 1) m_statements (m_telling + 1) m_hasImage m_isKeeping m_cursor m_rowMany m_lots m_refused m_bytes m_owner m_block m_written m_waits m_kinds m_tape m_sort m_sortAt (uf m_told m_telling r3) m_kept m_was m_ends m_row)) X d_Mod_readsKind_41 0 rfl (fp_Mod_175 _) (Nat.le_of_ble_eq_true rfl) rfl ?_
    refine x_iconst (pc := 44) X d_Mod_readsKind_44  ?_
    cases h
    exact x_zret (pc := 45) X hR d_Mod_readsKind_45 (Or.inr rfl)
  · skip
    refine x_iconst (pc := 12) X d_Mod_readsKind_12  ?_
    cases h
    exact x_zret (pc := 13) X hR d_Mod_readsKind_13 (Or.inl rfl)
theorem d_Mod_readsAll_0 : decode b_Mod_readsAll 0 = .ok (.aload_n 0, 1) := by decide +kernel
theorem d_Mod_readsAll_1 : decode b_Mod_readsAll 1 = .ok (.iconst 1, 1) := by decide +kernel
theorem d_Mod_readsAll_2 : decode b_Mod_readsAll 2 = .ok (.invokevirtual 187, 3) := by decide +kernel
theorem d_Mod_readsAll_5 : decode b_Mod_readsAll 5 = .ok (.ifCond .ne 5, 3) := by decide +kernel
theorem d_Mod_readsAll_8 : decode b_Mod_readsAll 8 = .ok (.iconst 0, 1) := by decide +kernel
theorem d_Mod_readsAll_9 : decode b_Mod_readsAll 9 = .ok (.ireturn, 1) := by decide +kernel
theorem d_Mod_readsAll_10 : decode b_Mod_readsAll 10 = .ok (.iload_n 1, 1) := by decide +kernel
theorem d_Mod_readsAll_11 : decode b_Mod_readsAll 11 = .ok (.lookupswitch 82 #[(97, 49), (99, 71), (107, 77), (112, 49), (119, 49)], 49) := by decide +kernel
theorem d_Mod_readsAll_60 : decode b_Mod_readsAll 60 = .ok (.aload_n 0, 1) := by decide +kernel
theorem d_Mod_readsAll_61 : decode b_Mod_readsAll 61 = .ok (.iconst 2, 1) := by decide +kernel
theorem d_Mod_readsAll_62 : decode b_Mod_readsAll 62 = .ok (.invokevirtual 187, 3) := by decide +kernel
theorem d_Mod_readsAll_65 : decode b_Mod_readsAll 65 = .ok (.ifCond .eq 15, 3) := by decide +kernel
theorem d_Mod_readsAll_68 : decode b_Mod_readsAll 68 = .ok (.aload_n 0, 1) := by decide +kernel
theorem d_Mod_readsAll_69 : decode b_Mod_readsAll 69 = .ok (.iconst 2, 1) := by decide +kernel
theorem d_Mod_readsAll_70 : decode b_Mod_readsAll 70 = .ok (.invokevirtual 187, 3) := by decide +kernel
theorem d_Mod_readsAll_73 : decode b_Mod_readsAll 73 = .ok (.ifCond .eq 7, 3) := by decide +kernel
theorem d_Mod_readsAll_76 : decode b_Mod_readsAll 76 = .ok (.iconst 1, 1) := by decide +kernel
theorem d_Mod_readsAll_77 : decode b_Mod_readsAll 77 = .ok (.goto 4, 3) := by decide +kernel
theorem d_Mod_readsAll_80 : decode b_Mod_readsAll 80 = .ok (.iconst 0, 1) := by decide +kernel
theorem d_Mod_readsAll_81 : decode b_Mod_readsAll 81 = .ok (.ireturn, 1) := by decide +kernel
theorem d_Mod_readsAll_82 : decode b_Mod_readsAll 82 = .ok (.aload_n 0, 1) := by decide +kernel
theorem d_Mod_readsAll_83 : decode b_Mod_readsAll 83 = .ok (.iconst 2, 1) := by decide +kernel
theorem d_Mod_readsAll_84 : decode b_Mod_readsAll 84 = .ok (.invokevirtual 187, 3) := by decide +kernel
theorem d_Mod_readsAll_87 : decode b_Mod_readsAll 87 = .ok (.ireturn, 1) := by decide +kernel
theorem d_Mod_readsAll_88 : decode b_Mod_readsAll 88 = .ok (.aload_n 0, 1) := by decide +kernel
theorem d_Mod_readsAll_89 : decode b_Mod_readsAll 89 = .ok (.invokevirtual 190, 3) := by decide +kernel
theorem d_Mod_readsAll_92 : decode b_Mod_readsAll 92 = .ok (.ireturn, 1) := by decide +kernel
theorem d_Mod_readsAll_93 : decode b_Mod_readsAll 93 = .ok (.iconst 1, 1) := by decide +kernel
theorem d_Mod_readsAll_94 : decode b_Mod_readsAll 94 = .ok (.ireturn, 1) := by decide +kernel
def m_Mod_readsAll (x1 : Int) (m_taped : Int) (m_reading : Int) (m_telling : Int) (m_tape : Int → Int) (m_told : Int → Int) : Option (Int × Int × Int × (Int → Int)) :=
  bnd (m_Mod_readsDigits 1 m_taped m_reading m_telling m_tape m_told) (fun r1 => ceq r1.1 0 (some (0, r1.2.1, r1.2.2.1, r1.2.2.2)) (ceq x1 97 (bnd (m_Mod_readsDigits 2 m_taped r1.2.1 r1.2.2.1 m_tape r1.2.2.2) (fun r3 => ceq r3.1 0 (some (0, r3.2.1, r3.2.2.1, r3.2.2.2)) (bnd (m_Mod_readsDigits 2 m_taped r3.2.1 r3.2.2.1 m_tape r3.2.2.2) (fun r5 => ceq r5.1 0 (some (0, r5.2.1, r5.2.2.1, r5.2.2.2)) (some (1, r5.2.1, r5.2.2.1, r5.2.2.2)))))) (ceq x1 99 (bnd (m_Mod_readsDigits 2 m_taped r1.2.1 r1.2.2.1 m_tape r1.2.2.2) (fun r7 => gd (zb r7.1) (some (r7.1, r7.2.1, r7.2.2.1, r7.2.2.2)))) (ceq x1 107 (bnd (m_Mod_readsKind m_taped r1.2.1 r1.2.2.1 m_tape r1.2.2.2) (fun r9 => gd (zb r9.1) (some (r9.1, r9.2.1, r9.2.2.1, r9.2.2.2)))) (ceq x1 112 (bnd (m_Mod_readsDigits 2 m_taped r1.2.1 r1.2.2.1 m_tape r1.2.2.2) (fun r11 => ceq r11.1 0 (some (0, r11.2.1, r11.2.2.1, r11.2.2.2)) (bnd (m_Mod_readsDigits 2 m_taped r11.2.1 r11.2.2.1 m_tape r11.2.2.2) (fun r13 => ceq r13.1 0 (some (0, r13.2.1, r13.2.2.1, r13.2.2.2)) (some (1, r13.2.1, r13.2.2.1, r13.2.2.2)))))) (ceq x1 119 (bnd (m_Mod_readsDigits 2 m_taped r1.2.1 r1.2.2.1 m_tape r1.2.2.2) (fun r15 => ceq r15.1 0 (some (0, r15.2.1, r15.2.2.1, r15.2.2.2)) (bnd (m_Mod_readsDigits 2 m_taped r15.2.1 r15.2.2.1 m_tape r15.2.2.2) (fun r17 => ceq r17.1 0 (some (0, r17.2.1, r17.2.2.1, r17.2.2.2)) (some (1, r17.2.1, r17.2.2.1, r17.2.2.2)))))) (some (1, r1.2.1, r1.2.2.1, r1.2.2.2))))))))
set_option maxHeartbeats 4000000 in
set_option maxRecDepth 100000 in
theorem c_Mod_readsAll (l : Launch) (D : va_G) (cI cB : ClassId) (a0 a1 a2 a3 a4 a5 a6 a7 a8 a9 a10 a11 a12 a13 a14 a15 : Nat) (m_stepsMade : Int) (m_stepsMost : Int) (m_taped : Int) (m_reading : Int) (m_statements : Int) (m_telling : Int) (m_hasImage : Int) (m_isKeeping : Int) (m_cursor : Int) (m_rowMany : Int) (m_lots : Int) (m_refused : Int → Int) (m_bytes : Int → Int) (m_owner : Int → Int) (m_block : Int → Int) (m_written : Int → Int) (m_waits : Int → Int) (m_kinds : Int → Int) (m_tape : Int → Int) (m_sort : Int → Int) (m_sortAt : Int → Int) (m_told : Int → Int) (m_kept : Int → Int) (m_was : Int → Int) (m_ends : Int → Int) (m_row : Int → Int) (x1 : Int) {o : Int × Int × Int × (Int → Int)} (h : m_Mod_readsAll x1 m_taped m_reading m_telling m_tape m_told = some o) : Ct l D cI cB y_Mod_readsAll b_Mod_readsAll 2 (some .boolean) { frames := 2, cells := 0, slots := 0, locals := 45 } [.ref a0, .int (zi x1)] (w_Mod cI cB a0 a1 a2 a3 a4 a5 a6 a7 a8 a9 a10 a11 a12 a13 a14 a15 m_stepsMade m_stepsMost m_taped m_reading m_statements m_telling m_hasImage m_isKeeping m_cursor m_rowMany m_lots m_refused m_bytes m_owner m_block m_written m_waits m_kinds m_tape m_sort m_sortAt m_told m_kept m_was m_ends m_row) (w_Mod cI cB a0 a1 a2 a3 a4 a5 a6 a7 a8 a9 a10 a11 a12 a13 a14 a15 m_stepsMade m_stepsMost m_taped o.2.1 m_statements o.2.2.1 m_hasImage m_isKeeping m_cursor m_rowMany m_lots m_refused m_bytes m_owner m_block m_written m_waits m_kinds m_tape m_sort m_sortAt o.2.2.2 m_kept m_was m_ends m_row) (some (.int (zi o.1))) := by
  refine Ct.start (by decide) (Nat.le_of_ble_eq_true rfl) (fun G X hR => ?_)
  refine x_ls (ls2 := [(0, .ref a0), (1, .int (zi x1))]) [0, 1] rfl ?_
  unfold m_Mod_readsAll at h
  refine x_aload_n (pc := 0) X d_Mod_readsAll_0 0 rfl rfl ?_
  refine x_iconst (pc := 1) X d_Mod_readsAll_1  ?_
  obtain ⟨r1, h2, h⟩ := bnd_e h
  refine x_callV (pc := 2) (As := [.int (zi 1)]) (rest := []) (w2 := (w_Mod cI cB a0 a1 a2 a3 a4 a5 a6 a7 a8 a9 a10 a11 a12 a13 a14 a15 m_stepsMade m_stepsMost m_taped r1.2.1 m_statements r1.2.2.1 m_hasImage m_isKeeping m_cursor m_rowMany m_lots m_refused m_bytes m_owner m_block m_written m_waits m_kinds m_tape m_sort m_sortAt r1.2.2.2 m_kept m_was m_ends m_row)) X d_Mod_readsAll_2 lk_Mod_187 mv_Mod_readsDigits (c_Mod_readsDigits l D cI cB a0 a1 a2 a3 a4 a5 a6 a7 a8 a9 a10 a11 a12 a13 a14 a15 m_stepsMade m_stepsMost m_taped m_reading m_statements m_telling m_hasImage m_isKeeping m_cursor m_rowMany m_lots m_refused m_bytes m_owner m_block m_written m_waits m_kinds m_tape m_sort m_sortAt m_told m_kept m_was m_ends m_row 1 h2) ⟨(Nat.le_of_ble_eq_true rfl), (Nat.le_of_ble_eq_true rfl), (Nat.le_of_ble_eq_true rfl), (Nat.le_of_ble_eq_true rfl)⟩ 0 rfl rfl [0, 1, 2, 3, 4, 5, 6, 7, 8, 9, 10, 11, 12, 13, 14, 15] rfl rfl rfl (Up.of [] [] rfl rfl rfl 16 rfl (by decide +kernel)) rfl rfl (Nat.le_of_ble_eq_true rfl) ?_
  refine x_ifne (pc := 5) (tgt := 10) X d_Mod_readsAll_5 rfl h (fun h => ?_) (fun h => ?_)
  · skip
    refine x_iload_n (pc := 10) X d_Mod_readsAll_10 1 rfl rfl ?_
    obtain ⟨hz, h⟩ := ceq_e h
    rcases h with ⟨e0, h⟩ | ⟨n0, h⟩
    · refine x_lk (pc := 11) (tgt := 60) X d_Mod_readsAll_11 hz.1 (by decide) (by rw [e0]; try rfl) rfl ?_
      refine x_aload_n (pc := 60) X d_Mod_readsAll_60 0 rfl rfl ?_
      refine x_iconst (pc := 61) X d_Mod_readsAll_61  ?_
      obtain ⟨r3, h4, h⟩ := bnd_e h
      refine x_callV (pc := 62) (As := [.int (zi 2)]) (rest := []) (w2 := (w_Mod cI cB a0 a1 a2 a3 a4 a5 a6 a7 a8 a9 a10 a11 a12 a13 a14 a15 m_stepsMade m_stepsMost m_taped r3.2.1 m_statements r3.2.2.1 m_hasImage m_isKeeping m_cursor m_rowMany m_lots m_refused m_bytes m_owner m_block m_written m_waits m_kinds m_tape m_sort m_sortAt r3.2.2.2 m_kept m_was m_ends m_row)) X d_Mod_readsAll_62 lk_Mod_187 mv_Mod_readsDigits (c_Mod_readsDigits l D cI cB a0 a1 a2 a3 a4 a5 a6 a7 a8 a9 a10 a11 a12 a13 a14 a15 m_stepsMade m_stepsMost m_taped r1.2.1 m_statements r1.2.2.1 m_hasImage m_isKeeping m_cursor m_rowMany m_lots m_refused m_bytes m_owner m_block m_written m_waits m_kinds m_tape m_sort m_sortAt r1.2.2.2 m_kept m_was m_ends m_row 2 h4) ⟨(Nat.le_of_ble_eq_true rfl), (Nat.le_of_ble_eq_true rfl), (Nat.le_of_ble_eq_true rfl), (Nat.le_of_ble_eq_true rfl)⟩ 0 rfl rfl [0, 1, 2, 3, 4, 5, 6, 7, 8, 9, 10, 11, 12, 13, 14, 15] rfl rfl rfl (Up.of [] [] rfl rfl rfl 16 rfl (by decide +kernel)) rfl rfl (Nat.le_of_ble_eq_true rfl) ?_
      refine x_ifeq (pc := 65) (tgt := 80) X d_Mod_readsAll_65 rfl h (fun h => ?_) (fun h => ?_)
      · skip
        refine x_iconst (pc := 80) X d_Mod_readsAll_80  ?_
        cases h
        exact x_zret (pc := 81) X hR d_Mod_readsAll_81 (Or.inl rfl)
      · skip
        refine x_aload_n (pc := 68) X d_Mod_readsAll_68 0 rfl rfl ?_
        refine x_iconst (pc := 69) X d_Mod_readsAll_69  ?_
        obtain ⟨r5, h6, h⟩ := bnd_e h
        refine x_callV (pc := 70) (As := [.int (zi 2)]) (rest := []) (w2 := (w_Mod cI cB a0 a1 a2 a3 a4 a5 a6 a7 a8 a9 a10 a11 a12 a13 a14 a15 m_stepsMade m_stepsMost m_taped r5.2.1 m_statements r5.2.2.1 m_hasImage m_isKeeping m_cursor m_rowMany m_lots m_refused m_bytes m_owner m_block m_written m_waits m_kinds m_tape m_sort m_sortAt r5.2.2.2 m_kept m_was m_ends m_row)) X d_Mod_readsAll_70 lk_Mod_187 mv_Mod_readsDigits (c_Mod_readsDigits l D cI cB a0 a1 a2 a3 a4 a5 a6 a7 a8 a9 a10 a11 a12 a13 a14 a15 m_stepsMade m_stepsMost m_taped r3.2.1 m_statements r3.2.2.1 m_hasImage m_isKeeping m_cursor m_rowMany m_lots m_refused m_bytes m_owner m_block m_written m_waits m_kinds m_tape m_sort m_sortAt r3.2.2.2 m_kept m_was m_ends m_row 2 h6) ⟨(Nat.le_of_ble_eq_true rfl), (Nat.le_of_ble_eq_true rfl), (Nat.le_of_ble_eq_true rfl), (Nat.le_of_ble_eq_true rfl)⟩ 0 rfl rfl [0, 1, 2, 3, 4, 5, 6, 7, 8, 9, 10, 11, 12, 13, 14, 15] rfl rfl rfl (Up.of [] [] rfl rfl rfl 16 rfl (by decide +kernel)) rfl rfl (Nat.le_of_ble_eq_true rfl) ?_
        refine x_ifeq (pc := 73) (tgt := 80) X d_Mod_readsAll_73 rfl h (fun h => ?_) (fun h => ?_)
        · skip
          refine x_iconst (pc := 80) X d_Mod_readsAll_80  ?_
          cases h
          exact x_zret (pc := 81) X hR d_Mod_readsAll_81 (Or.inl rfl)
        · skip
          refine x_iconst (pc := 76) X d_Mod_readsAll_76  ?_
          refine x_goto (pc := 77) (tgt := 81) X d_Mod_readsAll_77 rfl ?_
          cases h
          exact x_zret (pc := 81) X hR d_Mod_readsAll_81 (Or.inr rfl)
    obtain ⟨hz, h⟩ := ceq_e h
    rcases h with ⟨e1, h⟩ | ⟨n1, h⟩
    · refine x_lk (pc := 11) (tgt := 82) X d_Mod_readsAll_11 hz.1 (by decide) (by rw [e1]; try rfl) rfl ?_
      refine x_aload_n (pc := 82) X d_Mod_readsAll_82 0 rfl rfl ?_
      refine x_iconst (pc := 83) X d_Mod_readsAll_83  ?_
      obtain ⟨r7, h8, h⟩ := bnd_e h
      refine x_callV (pc := 84) (As := [.int (zi 2)]) (rest := []) (w2 := (w_Mod cI cB a0 a1 a2 a3 a4 a5 a6 a7 a8 a9 a10 a11 a12 a13 a14 a15 m_stepsMade m_stepsMost m_taped r7.2.1 m_statements r7.2.2.1 m_hasImage m_isKeeping m_cursor m_rowMany m_lots m_refused m_bytes m_owner m_block m_written m_waits m_kinds m_tape m_sort m_sortAt r7.2.2.2 m_kept m_was m_ends m_row)) X d_Mod_readsAll_84 lk_Mod_187 mv_Mod_readsDigits (c_Mod_readsDigits l D cI cB a0 a1 a2 a3 a4 a5 a6 a7 a8 a9 a10 a11 a12 a13 a14 a15 m_stepsMade m_stepsMost m_taped r1.2.1 m_statements r1.2.2.1 m_hasImage m_isKeeping m_cursor m_rowMany m_lots m_refused m_bytes m_owner m_block m_written m_waits m_kinds m_tape m_sort m_sortAt r1.2.2.2 m_kept m_was m_ends m_row 2 h8) ⟨(Nat.le_of_ble_eq_true rfl), (Nat.le_of_ble_eq_true rfl), (Nat.le_of_ble_eq_true rfl), (Nat.le_of_ble_eq_true rfl)⟩ 0 rfl rfl [0, 1, 2, 3, 4, 5, 6, 7, 8, 9, 10, 11, 12, 13, 14, 15] rfl rfl rfl (Up.of [] [] rfl rfl rfl 16 rfl (by decide +kernel)) rfl rfl (Nat.le_of_ble_eq_true rfl) ?_
      obtain ⟨hz0, h⟩ := gd_e h
      cases h
      exact x_zret (pc := 87) X hR d_Mod_readsAll_87 hz0
    obtain ⟨hz, h⟩ := ceq_e h
    rcases h with ⟨e2, h⟩ | ⟨n2, h⟩
    · refine x_lk (pc := 11) (tgt := 88) X d_Mod_readsAll_11 hz.1 (by decide) (by rw [e2]; try rfl) rfl ?_
      refine x_aload_n (pc := 88) X d_Mod_readsAll_88 0 rfl rfl ?_
      obtain ⟨r9, h10, h⟩ := bnd_e h
      refine x_callV (pc := 89) (As := []) (rest := []) (w2 := (w_Mod cI cB a0 a1 a2 a3 a4 a5 a6 a7 a8 a9 a10 a11 a12 a13 a14 a15 m_stepsMade m_stepsMost m_taped r9.2.1 m_statements r9.2.2.1 m_hasImage m_isKeeping m_cursor m_rowMany m_lots m_refused m_bytes m_owner m_block m_written m_waits m_kinds m_tape m_sort m_sortAt r9.2.2.2 m_kept m_was m_ends m_row)) X d_Mod_readsAll_89 lk_Mod_190 mv_Mod_readsKind (c_Mod_readsKind l D cI cB a0 a1 a2 a3 a4 a5 a6 a7 a8 a9 a10 a11 a12 a13 a14 a15 m_stepsMade m_stepsMost m_taped r1.2.1 m_statements r1.2.2.1 m_hasImage m_isKeeping m_cursor m_rowMany m_lots m_refused m_bytes m_owner m_block m_written m_waits m_kinds m_tape m_sort m_sortAt r1.2.2.2 m_kept m_was m_ends m_row h10) ⟨(Nat.le_of_ble_eq_true rfl), (Nat.le_of_ble_eq_true rfl), (Nat.le_of_ble_eq_true rfl), (Nat.le_of_ble_eq_true rfl)⟩ 0 rfl rfl [0, 1, 2, 3, 4, 5, 6, 7, 8, 9, 10, 11, 12, 13, 14, 15] rfl rfl rfl (Up.of [] [] rfl rfl rfl 16 rfl (by decide +kernel)) rfl rfl (Nat.le_of_ble_eq_true rfl) ?_
      obtain ⟨hz0, h⟩ := gd_e h
      cases h
      exact x_zret (pc := 92) X hR d_Mod_readsAll_92 hz0
    obtain ⟨hz, h⟩ := ceq_e h
    rcases h with ⟨e3, h⟩ | ⟨n3, h⟩
    · refine x_lk (pc := 11) (tgt := 60) X d_Mod_readsAll_11 hz.1 (by decide) (by rw [e3]; try rfl) rfl ?_
      refine x_aload_n (pc := 60) X d_Mod_readsAll_60 0 rfl rfl ?_
      refine x_iconst (pc := 61) X d_Mod_readsAll_61  ?_
      obtain ⟨r11, h12, h⟩ := bnd_e h
      refine x_callV (pc := 62) (As := [.int (zi 2)]) (rest := []) (w2 := (w_Mod cI cB a0 a1 a2 a3 a4 a5 a6 a7 a8 a9 a10 a11 a12 a13 a14 a15 m_stepsMade m_stepsMost m_taped r11.2.1 m_statements r11.2.2.1 m_hasImage m_isKeeping m_cursor m_rowMany m_lots m_refused m_bytes m_owner m_block m_written m_waits m_kinds m_tape m_sort m_sortAt r11.2.2.2 m_kept m_was m_ends m_row)) X d_Mod_readsAll_62 lk_Mod_187 mv_Mod_readsDigits (c_Mod_readsDigits l D cI cB a0 a1 a2 a3 a4 a5 a6 a7 a8 a9 a10 a11 a12 a13 a14 a15 m_stepsMade m_stepsMost m_taped r1.2.1 m_statements r1.2.2.1 m_hasImage m_isKeeping m_cursor m_rowMany m_lots m_refused m_bytes m_owner m_block m_written m_waits m_kinds m_tape m_sort m_sortAt r1.2.2.2 m_kept m_was m_ends m_row 2 h12) ⟨(Nat.le_of_ble_eq_true rfl), (Nat.le_of_ble_eq_true rfl), (Nat.le_of_ble_eq_true rfl), (Nat.le_of_ble_eq_true rfl)⟩ 0 rfl rfl [0, 1, 2, 3, 4, 5, 6, 7, 8, 9, 10, 11, 12, 13, 14, 15] rfl rfl rfl (Up.of [] [] rfl rfl rfl 16 rfl (by decide +kernel)) rfl rfl (Nat.le_of_ble_eq_true rfl) ?_
      refine x_ifeq (pc := 65) (tgt := 80) X d_Mod_readsAll_65 rfl h (fun h => ?_) (fun h => ?_)
      · skip
        refine x_iconst (pc := 80) X d_Mod_readsAll_80  ?_
        cases h
        exact x_zret (pc := 81) X hR d_Mod_readsAll_81 (Or.inl rfl)
      · skip
        refine x_aload_n (pc := 68) X d_Mod_readsAll_68 0 rfl rfl ?_
        refine x_iconst (pc := 69) X d_Mod_readsAll_69  ?_
        obtain ⟨r13, h14, h⟩ := bnd_e h
        refine x_callV (pc := 70) (As := [.int (zi 2)]) (rest := []) (w2 := (w_Mod cI cB a0 a1 a2 a3 a4 a5 a6 a7 a8 a9 a10 a11 a12 a13 a14 a15 m_stepsMade m_stepsMost m_taped r13.2.1 m_statements r13.2.2.1 m_hasImage m_isKeeping m_cursor m_rowMany m_lots m_refused m_bytes m_owner m_block m_written m_waits m_kinds m_tape m_sort m_sortAt r13.2.2.2 m_kept m_was m_ends m_row)) X d_Mod_readsAll_70 lk_Mod_187 mv_Mod_readsDigits (c_Mod_readsDigits l D cI cB a0 a1 a2 a3 a4 a5 a6 a7 a8 a9 a10 a11 a12 a13 a14 a15 m_stepsMade m_stepsMost m_taped r11.2.1 m_statements r11.2.2.1 m_hasImage m_isKeeping m_cursor m_rowMany m_lots m_refused m_bytes m_owner m_block m_written m_waits m_kinds m_tape m_sort m_sortAt r11.2.2.2 m_kept m_was m_ends m_row 2 h14) ⟨(Nat.le_of_ble_eq_true rfl), (Nat.le_of_ble_eq_true rfl), (Nat.le_of_ble_eq_true rfl), (Nat.le_of_ble_eq_true rfl)⟩ 0 rfl rfl [0, 1, 2, 3, 4, 5, 6, 7, 8, 9, 10, 11, 12, 13, 14, 15] rfl rfl rfl (Up.of [] [] rfl rfl rfl 16 rfl (by decide +kernel)) rfl rfl (Nat.le_of_ble_eq_true rfl) ?_
        refine x_ifeq (pc := 73) (tgt := 80) X d_Mod_readsAll_73 rfl h (fun h => ?_) (fun h => ?_)
        · skip
          refine x_iconst (pc := 80) X d_Mod_readsAll_80  ?_
          cases h
          exact x_zret (pc := 81) X hR d_Mod_readsAll_81 (Or.inl rfl)
        · skip
          refine x_iconst (pc := 76) X d_Mod_readsAll_76  ?_
          refine x_goto (pc := 77) (tgt := 81) X d_Mod_readsAll_77 rfl ?_
          cases h
          exact x_zret (pc := 81) X hR d_Mod_readsAll_81 (Or.inr rfl)
    obtain ⟨hz, h⟩ := ceq_e h
    rcases h with ⟨e4, h⟩ | ⟨n4, h⟩
    · refine x_lk (pc := 11) (tgt := 60) X d_Mod_readsAll_11 hz.1 (by decide) (by rw [e4]; try rfl) rfl ?_
      refine x_aload_n (pc := 60) X d_Mod_readsAll_60 0 rfl rfl ?_
      refine x_iconst (pc := 61) X d_Mod_readsAll_61  ?_
      obtain ⟨r15, h16, h⟩ := bnd_e h
      refine x_callV (pc := 62) (As := [.int (zi 2)]) (rest := []) (w2 := (w_Mod cI cB a0 a1 a2 a3 a4 a5 a6 a7 a8 a9 a10 a11 a12 a13 a14 a15 m_stepsMade m_stepsMost m_taped r15.2.1 m_statements r15.2.2.1 m_hasImage m_isKeeping m_cursor m_rowMany m_lots m_refused m_bytes m_owner m_block m_written m_waits m_kinds m_tape m_sort m_sortAt r15.2.2.2 m_kept m_was m_ends m_row)) X d_Mod_readsAll_62 lk_Mod_187 mv_Mod_readsDigits (c_Mod_readsDigits l D cI cB a0 a1 a2 a3 a4 a5 a6 a7 a8 a9 a10 a11 a12 a13 a14 a15 m_stepsMade m_stepsMost m_taped r1.2.1 m_statements r1.2.2.1 m_hasImage m_isKeeping m_cursor m_rowMany m_lots m_refused m_bytes m_owner m_block m_written m_waits m_kinds m_tape m_sort m_sortAt r1.2.2.2 m_kept m_was m_ends m_row 2 h16) ⟨(Nat.le_of_ble_eq_true rfl), (Nat.le_of_ble_eq_true rfl), (Nat.le_of_ble_eq_true rfl), (Nat.le_of_ble_eq_true rfl)⟩ 0 rfl rfl [0, 1, 2, 3, 4, 5, 6, 7, 8, 9, 10, 11, 12, 13, 14, 15] rfl rfl rfl (Up.of [] [] rfl rfl rfl 16 rfl (by decide +kernel)) rfl rfl (Nat.le_of_ble_eq_true rfl) ?_
      refine x_ifeq (pc := 65) (tgt := 80) X d_Mod_readsAll_65 rfl h (fun h => ?_) (fun h => ?_)
      · skip
        refine x_iconst (pc := 80) X d_Mod_readsAll_80  ?_
        cases h
        exact x_zret (pc := 81) X hR d_Mod_readsAll_81 (Or.inl rfl)
      · skip
        refine x_aload_n (pc := 68) X d_Mod_readsAll_68 0 rfl rfl ?_
        refine x_iconst (pc := 69) X d_Mod_readsAll_69  ?_
        obtain ⟨r17, h18, h⟩ := bnd_e h
        refine x_callV (pc := 70) (As := [.int (zi 2)]) (rest := []) (w2 := (w_Mod cI cB a0 a1 a2 a3 a4 a5 a6 a7 a8 a9 a10 a11 a12 a13 a14 a15 m_stepsMade m_stepsMost m_taped r17.2.1 m_statements r17.2.2.1 m_hasImage m_isKeeping m_cursor m_rowMany m_lots m_refused m_bytes m_owner m_block m_written m_waits m_kinds m_tape m_sort m_sortAt r17.2.2.2 m_kept m_was m_ends m_row)) X d_Mod_readsAll_70 lk_Mod_187 mv_Mod_readsDigits (c_Mod_readsDigits l D cI cB a0 a1 a2 a3 a4 a5 a6 a7 a8 a9 a10 a11 a12 a13 a14 a15 m_stepsMade m_stepsMost m_taped r15.2.1 m_statements r15.2.2.1 m_hasImage m_isKeeping m_cursor m_rowMany m_lots m_refused m_bytes m_owner m_block m_written m_waits m_kinds m_tape m_sort m_sortAt r15.2.2.2 m_kept m_was m_ends m_row 2 h18) ⟨(Nat.le_of_ble_eq_true rfl), (Nat.le_of_ble_eq_true rfl), (Nat.le_of_ble_eq_true rfl), (Nat.le_of_ble_eq_true rfl)⟩ 0 rfl rfl [0, 1, 2, 3, 4, 5, 6, 7, 8, 9, 10, 11, 12, 13, 14, 15] rfl rfl rfl (Up.of [] [] rfl rfl rfl 16 rfl (by decide +kernel)) rfl rfl (Nat.le_of_ble_eq_true rfl) ?_
        refine x_ifeq (pc := 73) (tgt := 80) X d_Mod_readsAll_73 rfl h (fun h => ?_) (fun h => ?_)
        · skip
          refine x_iconst (pc := 80) X d_Mod_readsAll_80  ?_
          cases h
          exact x_zret (pc := 81) X hR d_Mod_readsAll_81 (Or.inl rfl)
        · skip
          refine x_iconst (pc := 76) X d_Mod_readsAll_76  ?_
          refine x_goto (pc := 77) (tgt := 81) X d_Mod_readsAll_77 rfl ?_
          cases h
          exact x_zret (pc := 81) X hR d_Mod_readsAll_81 (Or.inr rfl)
    refine x_lk (pc := 11) (off := 82) (tgt := 93) X d_Mod_readsAll_11 hz.1 (by decide) (by rw [Op.lookupswitch.offset_cons, if_neg (fun e => n0 e.symm), Op.lookupswitch.offset_cons, if_neg (fun e => n1 e.symm), Op.lookupswitch.offset_cons, if_neg (fun e => n2 e.symm), Op.lookupswitch.offset_cons, if_neg (fun e => n3 e.symm), Op.lookupswitch.offset_cons, if_neg (fun e => n4 e.symm)]; rfl) rfl ?_
    · skip
      refine x_iconst (pc := 93) X d_Mod_readsAll_93  ?_
      cases h
      exact x_zret (pc := 94) X hR d_Mod_readsAll_94 (Or.inr rfl)
  · skip
    refine x_iconst (pc := 8) X d_Mod_readsAll_8  ?_
    cases h
    exact x_zret (pc := 9) X hR d_Mod_readsAll_9 (Or.inl rfl)
theorem d_Mod_statement_0 : decode b_Mod_statement 0 = .ok (.aload_n 0, 1) := by decide +kernel
theorem d_Mod_statement_1 : decode b_Mod_statement 1 = .ok (.invokevirtual 178, 3) := by decide +kernel
theorem d_Mod_statement_4 : decode b_Mod_statement 4 = .ok (.istore_n 1, 1) := by decide +kernel
theorem d_Mod_statement_5 : decode b_Mod_statement 5 = .ok (.iload_n 1, 1) := by decide +kernel
theorem d_Mod_statement_6 : decode b_Mod_statement 6 = .ok (.bipush 119, 2) := by decide +kernel
theorem d_Mod_statement_8 : decode b_Mod_statement 8 = .ok (.if_icmp .eq 41, 3) := by decide +kernel
theorem d_Mod_statement_11 : decode b_Mod_statement 11 = .ok (.iload_n 1, 1) := by decide +kernel
theorem d_Mod_statement_12 : decode b_Mod_statement 12 = .ok (.bipush 97, 2) := by decide +kernel
theorem d_Mod_statement_14 : decode b_Mod_statement 14 = .ok (.if_icmp .eq 35, 3) := by decide +kernel
theorem d_Mod_statement_17 : decode b_Mod_statement 17 = .ok (.iload_n 1, 1) := by decide +kernel
theorem d_Mod_statement_18 : decode b_Mod_statement 18 = .ok (.bipush 112, 2) := by decide +kernel
theorem d_Mod_statement_20 : decode b_Mod_statement 20 = .ok (.if_icmp .eq 29, 3) := by decide +kernel
theorem d_Mod_statement_23 : decode b_Mod_statement 23 = .ok (.iload_n 1, 1) := by decide +kernel
theorem d_Mod_statement_24 : decode b_Mod_statement 24 = .ok (.bipush 102, 2) := by decide +kernel
theorem d_Mod_statement_26 : decode b_Mod_statement 26 = .ok (.if_icmp .eq 23, 3) := by decide +kernel
theorem d_Mod_statement_29 : decode b_Mod_statement 29 = .ok (.iload_n 1, 1) := by decide +kernel
theorem d_Mod_statement_30 : decode b_Mod_statement 30 = .ok (.bipush 115, 2) := by decide +kernel
theorem d_Mod_statement_32 : decode b_Mod_statement 32 = .ok (.if_icmp .eq 17, 3) := by decide +kernel
theorem d_Mod_statement_35 : decode b_Mod_statement 35 = .ok (.iload_n 1, 1) := by decide +kernel
theorem d_Mod_statement_36 : decode b_Mod_statement 36 = .ok (.bipush 99, 2) := by decide +kernel
theorem d_Mod_statement_38 : decode b_Mod_statement 38 = .ok (.if_icmp .eq 11, 3) := by decide +kernel
theorem d_Mod_statement_41 : decode b_Mod_statement 41 = .ok (.iload_n 1, 1) := by decide +kernel
theorem d_Mod_statement_42 : decode b_Mod_statement 42 = .ok (.bipush 107, 2) := by decide +kernel
theorem d_Mod_statement_44 : decode b_Mod_statement 44 = .ok (.if_icmp .eq 5, 3) := by decide +kernel
theorem d_Mod_statement_47 : decode b_Mod_statement 47 = .ok (.iconst 0, 1) := by decide +kernel
theorem d_Mod_statement_48 : decode b_Mod_statement 48 = .ok (.ireturn, 1) := by decide +kernel
theorem d_Mod_statement_49 : decode b_Mod_statement 49 = .ok (.aload_n 0, 1) := by decide +kernel
theorem d_Mod_statement_50 : decode b_Mod_statement 50 = .ok (.getfield 34, 3) := by decide +kernel
theorem d_Mod_statement_53 : decode b_Mod_statement 53 = .ok (.aload_n 0, 1) := by decide +kernel
theorem d_Mod_statement_54 : decode b_Mod_statement 54 = .ok (.getfield 193, 3) := by decide +kernel
theorem d_Mod_statement_57 : decode b_Mod_statement 57 = .ok (.iload_n 1, 1) := by decide +kernel
theorem d_Mod_statement_58 : decode b_Mod_statement 58 = .ok (.iastore, 1) := by decide +kernel
theorem d_Mod_statement_59 : decode b_Mod_statement 59 = .ok (.aload_n 0, 1) := by decide +kernel
theorem d_Mod_statement_60 : decode b_Mod_statement 60 = .ok (.getfield 37, 3) := by decide +kernel
theorem d_Mod_statement_63 : decode b_Mod_statement 63 = .ok (.aload_n 0, 1) := by decide +kernel
theorem d_Mod_statement_64 : decode b_Mod_statement 64 = .ok (.getfield 193, 3) := by decide +kernel
theorem d_Mod_statement_67 : decode b_Mod_statement 67 = .ok (.aload_n 0, 1) := by decide +kernel
theorem d_Mod_statement_68 : decode b_Mod_statement 68 = .ok (.getfield 175, 3) := by decide +kernel
theorem d_Mod_statement_71 : decode b_Mod_statement 71 = .ok (.iastore, 1) := by decide +kernel
theorem d_Mod_statement_72 : decode b_Mod_statement 72 = .ok (.aload_n 0, 1) := by decide +kernel
theorem d_Mod_statement_73 : decode b_Mod_statement 73 = .ok (.iconst 3, 1) := by decide +kernel
theorem d_Mod_statement_74 : decode b_Mod_statement 74 = .ok (.aload_n 0, 1) := by decide +kernel
theorem d_Mod_statement_75 : decode b_Mod_statement 75 = .ok (.getfield 193, 3) := by decide +kernel
theorem d_Mod_statement_78 : decode b_Mod_statement 78 = .ok (.imul, 1) := by decide +kernel
theorem d_Mod_statement_79 : decode b_Mod_statement 79 = .ok (.putfield 181, 3) := by decide +kernel
theorem d_Mod_statement_82 : decode b_Mod_statement 82 = .ok (.aload_n 0, 1) := by decide +kernel
theorem d_Mod_statement_83 : decode b_Mod_statement 83 = .ok (.dup, 1) := by decide +kernel
theorem d_Mod_statement_84 : decode b_Mod_statement 84 = .ok (.getfield 175, 3) := by decide +kernel
theorem d_Mod_statement_87 : decode b_Mod_statement 87 = .ok (.iconst 1, 1) := by decide +kernel
theorem d_Mod_statement_88 : decode b_Mod_statement 88 = .ok (.iadd, 1) := by decide +kernel
theorem d_Mod_statement_89 : decode b_Mod_statement 89 = .ok (.putfield 175, 3) := by decide +kernel
theorem d_Mod_statement_92 : decode b_Mod_statement 92 = .ok (.aload_n 0, 1) := by decide +kernel
theorem d_Mod_statement_93 : decode b_Mod_statement 93 = .ok (.iload_n 1, 1) := by decide +kernel
theorem d_Mod_statement_94 : decode b_Mod_statement 94 = .ok (.invokevirtual 196, 3) := by decide +kernel
theorem d_Mod_statement_97 : decode b_Mod_statement 97 = .ok (.ifCond .eq 12, 3) := by decide +kernel
theorem d_Mod_statement_100 : decode b_Mod_statement 100 = .ok (.aload_n 0, 1) := by decide +kernel
theorem d_Mod_statement_101 : decode b_Mod_statement 101 = .ok (.invokevirtual 178, 3) := by decide +kernel
theorem d_Mod_statement_104 : decode b_Mod_statement 104 = .ok (.bipush 59, 2) := by decide +kernel
theorem d_Mod_statement_106 : decode b_Mod_statement 106 = .ok (.if_icmp .eq 5, 3) := by decide +kernel
theorem d_Mod_statement_109 : decode b_Mod_statement 109 = .ok (.iconst 0, 1) := by decide +kernel
theorem d_Mod_statement_110 : decode b_Mod_statement 110 = .ok (.ireturn, 1) := by decide +kernel
theorem d_Mod_statement_111 : decode b_Mod_statement 111 = .ok (.aload_n 0, 1) := by decide +kernel
theorem d_Mod_statement_112 : decode b_Mod_statement 112 = .ok (.dup, 1) := by decide +kernel
theorem d_Mod_statement_113 : decode b_Mod_statement 113 = .ok (.getfield 175, 3) := by decide +kernel
theorem d_Mod_statement_116 : decode b_Mod_statement 116 = .ok (.iconst 1, 1) := by decide +kernel
theorem d_Mod_statement_117 : decode b_Mod_statement 117 = .ok (.iadd, 1) := by decide +kernel
theorem d_Mod_statement_118 : decode b_Mod_statement 118 = .ok (.putfield 175, 3) := by decide +kernel
theorem d_Mod_statement_121 : decode b_Mod_statement 121 = .ok (.iconst 1, 1) := by decide +kernel
theorem d_Mod_statement_122 : decode b_Mod_statement 122 = .ok (.ireturn, 1) := by decide +kernel
def m_Mod_statement  (m_taped : Int) (m_reading : Int) (m_statements : Int) (m_telling : Int) (m_tape : Int → Int) (m_sort : Int → Int) (m_sortAt : Int → Int) (m_told : Int → Int) : Option (Int × Int × Int × (Int → Int) × (Int → Int) × (Int → Int)) :=
  bnd (m_Mod_letterNow m_taped m_reading m_tape) (fun r1 => jn (fun (z4 : Int) (c5 : Int) (c6 : Int) (c7 : Int → Int) (c8 : Int → Int) (c9 : Int → Int) => gd (zx m_statements 33) (gd (zx m_statements 33) (bnd (m_Mod_readsAll z4 m_taped (c5 + 1) (3 * m_statements) m_tape c9) (fun r10 => ceq r10.1 0 (some (0, r10.2.1, r10.2.2.1, (uf c7 m_statements z4), (uf c8 m_statements c5), r10.2.2.2)) (bnd (m_Mod_letterNow m_taped r10.2.1 m_tape) (fun r12 => ceq r12 59 (some (1, (r10.2.1 + 1), r10.2.2.1, (uf c7 m_statements z4), (uf c8 m_statements c5), r10.2.2.2)) (some (0, r10.2.1, r10.2.2.1, (uf c7 m_statements z4), (uf c8 m_statements c5), r10.2.2.2)))))))) (fun j3 => ceq r1 119 (j3 r1 m_reading m_telling m_sort m_sortAt m_told) (ceq r1 97 (j3 r1 m_reading m_telling m_sort m_sortAt m_told) (ceq r1 112 (j3 r1 m_reading m_telling m_sort m_sortAt m_told) (ceq r1 102 (j3 r1 m_reading m_telling m_sort m_sortAt m_told) (ceq r1 115 (j3 r1 m_reading m_telling m_sort m_sortAt m_told) (ceq r1 99 (j3 r1 m_reading m_telling m_sort m_sortAt m_told) (ceq r1 107 (j3 r1 m_reading m_telling m_sort m_sortAt m_told) (some (0, m_reading, m_telling, m_sort, m_sortAt, m_told))))))))))
set_option maxHeartbeats 4000000 in
set_option maxRecDepth 100000 in
theorem c_Mod_statement (l : Launch) (D : va_G) (cI cB : ClassId) (a0 a1 a2 a3 a4 a5 a6 a7 a8 a9 a10 a11 a12 a13 a14 a15 : Nat) (m_stepsMade : Int) (m_stepsMost : Int) (m_taped : Int) (m_reading : Int) (m_statements : Int) (m_telling : Int) (m_hasImage : Int) (m_isKeeping : Int) (m_cursor : Int) (m_rowMany : Int) (m_lots : Int) (m_refused : Int → Int) (m_bytes : Int → Int) (m_owner : Int → Int) (m_block : Int → Int) (m_written : Int → Int) (m_waits : Int → Int) (m_kinds : Int → Int) (m_tape : Int → Int) (m_sort : Int → Int) (m_sortAt : Int → Int) (m_told : Int → Int) (m_kept : Int → Int) (m_was : Int → Int) (m_ends : Int → Int) (m_row : Int → Int)  {o : Int × Int × Int × (Int → Int) × (Int → Int) × (Int → Int)} (h : m_Mod_statement m_taped m_reading m_statements m_telling m_tape m_sort m_sortAt m_told = some o) : Ct l D cI cB y_Mod_statement b_Mod_statement 2 (some .boolean) { frames := 3, cells := 0, slots := 0, locals := 66 } [.ref a0] (w_Mod cI cB a0 a1 a2 a3 a4 a5 a6 a7 a8 a9 a10 a11 a12 a13 a14 a15 m_stepsMade m_stepsMost m_taped m_reading m_statements m_telling m_hasImage m_isKeeping m_cursor m_rowMany m_lots m_refused m_bytes m_owner m_block m_written m_waits m_kinds m_tape m_sort m_sortAt m_told m_kept m_was m_ends m_row) (w_Mod cI cB a0 a1 a2 a3 a4 a5 a6 a7 a8 a9 a10 a11 a12 a13 a14 a15 m_stepsMade m_stepsMost m_taped o.2.1 m_statements o.2.2.1 m_hasImage m_isKeeping m_cursor m_rowMany m_lots m_refused m_bytes m_owner m_block m_written m_waits m_kinds m_tape o.2.2.2.1 o.2.2.2.2.1 o.2.2.2.2.2 m_kept m_was m_ends m_row) (some (.int (zi o.1))) := by
  refine Ct.start (by decide) (Nat.le_of_ble_eq_true rfl) (fun G X hR => ?_)
  refine x_ls (ls2 := [(0, .ref a0)]) [0] rfl ?_
  unfold m_Mod_statement at h
  refine x_aload_n (pc := 0) X d_Mod_statement_0 0 rfl rfl ?_
  obtain ⟨r1, h2, h⟩ := bnd_e h
  refine x_callV (pc := 1) (As := []) (rest := []) (w2 := (w_Mod cI cB a0 a1 a2 a3 a4 a5 a6 a7 a8 a9 a10 a11 a12 a13 a14 a15 m_stepsMade m_stepsMost m_taped m_reading m_statements m_telling m_hasImage m_isKeeping m_cursor m_rowMany m_lots m_refused m_bytes m_owner m_block m_written m_waits m_kinds m_tape m_sort m_sortAt m_told m_kept m_was m_ends m_row)) X d_Mod_statement_1 lk_Mod_178 mv_Mod_letterNow (c_Mod_letterNow l D cI cB a0 a1 a2 a3 a4 a5 a6 a7 a8 a9 a10 a11 a12 a13 a14 a15 m_stepsMade m_stepsMost m_taped m_reading m_statements m_telling m_hasImage m_isKeeping m_cursor m_rowMany m_lots m_refused m_bytes m_owner m_block m_written m_waits m_kinds m_tape m_sort m_sortAt m_told m_kept m_was m_ends m_row h2) ⟨(Nat.le_of_ble_eq_true rfl), (Nat.le_of_ble_eq_true rfl), (Nat.le_of_ble_eq_true rfl), (Nat.le_of_ble_eq_true rfl)⟩ 0 rfl rfl [0, 1, 2, 3, 4, 5, 6, 7, 8, 9, 10, 11, 12, 13, 14, 15] rfl rfl rfl (Up.same rfl) rfl rfl (Nat.le_of_ble_eq_true rfl) ?_
  refine x_istore_n (pc := 4) (ls2 := [(1, .int (zi r1)), (0, .ref a0)]) X d_Mod_statement_4 rfl (Nat.le_of_ble_eq_true rfl) rfl ?_
  refine x_iload_n (pc := 5) X d_Mod_statement_5 0 rfl rfl ?_
  refine x_bipush (pc := 6) (v := 119) X d_Mod_statement_6 rfl ?_
  obtain ⟨j3, hj14, h⟩ := jn_e h
  have J15 : ∀ (z4 : Int) (c5 : Int) (c6 : Int) (c7 : Int → Int) (c8 : Int → Int) (c9 : Int → Int), j3 z4 c5 c6 c7 c8 c9 = some o → Wx G 0 0 49 [(0, .ref a0), (1, .int (zi z4))] [] (w_Mod cI cB a0 a1 a2 a3 a4 a5 a6 a7 a8 a9 a10 a11 a12 a13 a14 a15 m_stepsMade m_stepsMost m_taped c5 m_statements c6 m_hasImage m_isKeeping m_cursor m_rowMany m_lots m_refused m_bytes m_owner m_block m_written m_waits m_kinds m_tape c7 c8 c9 m_kept m_was m_ends m_row) := by
    intro z4 c5 c6 c7 c8 c9 h
    rw [hj14] at h
    (try dsimp only at h)
    refine x_aload_n (pc := 49) X d_Mod_statement_49 0 rfl rfl ?_
    refine x_get (pc := 50) X d_Mod_statement_50 0 rfl fl_Mod_34 rfl ?_
    refine x_aload_n (pc := 53) X d_Mod_statement_53 0 rfl rfl ?_
    refine x_get (pc := 54) X d_Mod_statement_54 0 rfl fl_Mod_193 rfl ?_
    refine x_iload_n (pc := 57) X d_Mod_statement_57 1 rfl rfl ?_
    refine x_iast (pc := 58) (w2 := (w_Mod cI cB a0 a1 a2 a3 a4 a5 a6 a7 a8 a9 a10 a11 a12 a13 a14 a15 m_stepsMade m_stepsMost m_taped c5 m_statements c6 m_hasImage m_isKeeping m_cursor m_rowMany m_lots m_refused m_bytes m_owner m_block m_written m_waits m_kinds m_tape (uf c7 m_statements z4) c8 c9 m_kept m_was m_ends m_row)) X d_Mod_statement_58 9 rfl (Nat.le_of_ble_eq_true rfl) rfl rfl h (fun h => ?_)
    refine x_aload_n (pc := 59) X d_Mod_statement_59 0 rfl rfl ?_
    refine x_get (pc := 60) X d_Mod_statement_60 0 rfl fl_Mod_37 rfl ?_
    refine x_aload_n (pc := 63) X d_Mod_statement_63 0 rfl rfl ?_
    refine x_get (pc := 64) X d_Mod_statement_64 0 rfl fl_Mod_193 rfl ?_
    refine x_aload_n (pc := 67) X d_Mod_statement_67 0 rfl rfl ?_
    refine x_get (pc := 68) X d_Mod_statement_68 0 rfl fl_Mod_175 rfl ?_
    refine x_iast (pc := 71) (w2 := (w_Mod cI cB a0 a1 a2 a3 a4 a5 a6 a7 a8 a9 a10 a11 a12 a13 a14 a15 m_stepsMade m_stepsMost m_taped c5 m_statements c6 m_hasImage m_isKeeping m_cursor m_rowMany m_lots m_refused m_bytes m_owner m_block m_written m_waits m_kinds m_tape (uf c7 m_statements z4) (uf c8 m_statements c5) c9 m_kept m_was m_ends m_row)) X d_Mod_statement_71 10 rfl (Nat.le_of_ble_eq_true rfl) rfl rfl h (fun h => ?_)
    refine x_aload_n (pc := 72) X d_Mod_statement_72 0 rfl rfl ?_
    refine x_iconst (pc := 73) X d_Mod_statement_73  ?_
    refine x_aload_n (pc := 74) X d_Mod_statement_74 0 rfl rfl ?_
    refine x_get (pc := 75) X d_Mod_statement_75 0 rfl fl_Mod_193 rfl ?_
    refine x_imul (pc := 78) X d_Mod_statement_78  ?_
    refine x_put (pc := 79) (w2 := (w_Mod cI cB a0 a1 a2 a3 a4 a5 a6 a7 a8 a9 a10 a11 a12 a13 a14 a15 m_stepsMade m_stepsMost m_taped c5 m_statements (3 * m_statements) m_hasImage m_isKeeping m_cursor m_rowMany m_lots m_refused m_bytes m_owner m_block m_written m_waits m_kinds m_tape (uf c7 m_statements z4) (uf c8 m_statements c5) c9 m_kept m_was m_ends m_row)) X d_Mod_statement_79 0 rfl (fp_Mod_181 _) (Nat.le_of_ble_eq_true rfl) rfl ?_
    refine x_aload_n (pc := 82) X d_Mod_statement_82 0 rfl rfl ?_
    refine x_dup (pc := 83) X d_Mod_statement_83 rfl ?_
    refine x_get (pc := 84) X d_Mod_statement_84 0 rfl fl_Mod_175 rfl ?_
    refine x_iconst (pc := 87) X d_Mod_statement_87  ?_
    refine x_iadd (pc := 88) X d_Mod_statement_88  ?_
    refine x_put (pc := 89) (w2 := (w_Mod cI cB a0 a1 a2 a3 a4 a5 a6 a7 a8 a9 a10 a11 a12 a13 a14 a15 m_stepsMade m_stepsMost m_taped (c5 + 1) m_statements (3 * m_statements) m_hasImage m_isKeeping m_cursor m_rowMany m_lots m_refused m_bytes m_owner m_block m_written m_waits m_kinds m_tape (uf c7 m_statements z4) (uf c8 m_statements c5) c9 m_kept m_was m_ends m_row)) X d_Mod_statement_89 0 rfl (fp_Mod_175 _) (Nat.le_of_ble_eq_true rfl) rfl ?_
    refine x_aload_n (pc := 92) X d_Mod_statement_92 0 rfl rfl ?_
    refine x_iload_n (pc := 93) X d_Mod_statement_93 1 rfl rfl ?_
    obtain ⟨r10, h11, h⟩ := bnd_e h
    refine x_callV (pc := 94) (As := [.int (zi z4)]) (rest := []) (w2 := (w_Mod cI cB a0 a1 a2 a3 a4 a5 a6 a7 a8 a9 a10 a11 a12 a13 a14 a15 m_stepsMade m_stepsMost m_taped r10.2.1 m_statements r10.2.2.1 m_hasImage m_isKeeping m_cursor m_rowMany m_lots m_refused m_bytes m_owner m_block m_written m_waits m_kinds m_tape (uf c7 m_statements z4) (uf c8 m_statements c5) r10.2.2.2 m_kept m_was m_ends m_row)) X d_Mod_statement_94 lk_Mod_196 mv_Mod_readsAll (c_Mod_readsAll l D cI cB a0 a1 a2 a3 a4 a5 a6 a7 a8 a9 a10 a11 a12 a13 a14 a15 m_stepsMade m_stepsMost m_taped (c5 + 1) m_statements (3 * m_statements) m_hasImage m_isKeeping m_cursor m_rowMany m_lots m_refused m_bytes m_owner m_block m_written m_waits m_kinds m_tape (uf c7 m_statements z4) (uf c8 m_statements c5) c9 m_kept m_was m_ends m_row z4 h11) ⟨(Nat.le_of_ble_eq_true rfl), (Nat.le_of_ble_eq_true rfl), (Nat.le_of_ble_eq_true rfl), (Nat.le_of_ble_eq_true rfl)⟩ 0 rfl rfl [0, 1, 2, 3, 4, 5, 6, 7, 8, 9, 10, 11, 12, 13, 14, 15] rfl rfl rfl (Up.of [] [] rfl rfl rfl 16 rfl (by decide +kernel)) rfl rfl (Nat.le_of_ble_eq_true rfl) ?_
    refine x_ifeq (pc := 97) (tgt := 109) X d_Mod_statement_97 rfl h (fun h => ?_) (fun h => ?_)
    · skip
      refine x_iconst (pc := 109) X d_Mod_statement_109  ?_
      cases h
      exact x_zret (pc := 110) X hR d_Mod_statement_110 (Or.inl rfl)
    · skip
      refine x_aload_n (pc := 100) X d_Mod_statement_100 0 rfl rfl ?_
      obtain ⟨r12, h13, h⟩ := bnd_e h
      refine x_callV (pc := 101) (As := []) (rest := []) (w2 := (w_Mod cI cB a0 a1 a2 a3 a4 a5 a6 a7 a8 a9 a10 a11 a12 a13 a14 a15 m_stepsMade m_stepsMost m_taped r10.2.1 m_statements r10.2.2.1 m_hasImage m_isKeeping m_cursor m_rowMany m_lots m_refused m_bytes m_owner m_block m_written m_waits m_kinds m_tape (uf c7 m_statements z4) (uf c8 m_statements c5) r10.2.2.2 m_kept m_was m_ends m_row)) X d_Mod_statement_101 lk_Mod_178 mv_Mod_letterNow (c_Mod_letterNow l D cI cB a0 a1 a2 a3 a4 a5 a6 a7 a8 a9 a10 a11 a12 a13 a14 a15 m_stepsMade m_stepsMost m_taped r10.2.1 m_statements r10.2.2.1 m_hasImage m_isKeeping m_cursor m_rowMany m_lots m_refused m_bytes m_owner m_block m_written m_waits m_kinds m_tape (uf c7 m_statements z4) (uf c8 m_statements c5) r10.2.2.2 m_kept m_was m_ends m_row h13) ⟨(Nat.le_of_ble_eq_true rfl), (Nat.le_of_ble_eq_true rfl), (Nat.le_of_ble_eq_true rfl), (Nat.le_of_ble_eq_true rfl)⟩ 0 rfl rfl [0, 1, 2, 3, 4, 5, 6, 7, 8, 9, 10, 11, 12, 13, 14, 15] rfl rfl rfl (Up.same rfl) rfl rfl (Nat.le_of_ble_eq_true rfl) ?_
      refine x_bipush (pc := 104) (v := 59) X d_Mod_statement_104 rfl ?_
      refine x_icmpeq (pc := 106) (tgt := 111) X d_Mod_statement_106 rfl h (fun h => ?_) (fun h => ?_)
      · skip
        refine x_aload_n (pc := 111) X d_Mod_statement_111 0 rfl rfl ?_
        refine x_dup (pc := 112) X d_Mod_statement_112 rfl ?_
        refine x_get (pc := 113) X d_Mod_statement_113 0 rfl fl_Mod_175 rfl ?_
        refine x_iconst (pc := 116) X d_Mod_statement_116  ?_
        refine x_iadd (pc := 117) X d_Mod_statement_117  ?_
        refine x_put (pc := 118) (w2 := (w_Mod cI cB a0 a1 a2 a3 a4 a5 a6 a7 a8 a9 a10 a11 a12 a13 a14 a15 m_stepsMade m_stepsMost m_taped (r10.2.1 + 1) m_statements r10.2.2.1 m_hasImage m_isKeeping m_cursor m_rowMany m_lots m_refused m_bytes m_owner m_block m_written m_waits m_kinds m_tape (uf c7 m_statements z4) (uf c8 m_statements c5) r10.2.2.2 m_kept m_was m_ends m_row)) X d_Mod_statement_118 0 rfl (fp_Mod_175 _) (Nat.le_of_ble_eq_true rfl) rfl ?_
        refine x_iconst (pc := 121) X d_Mod_statement_121  ?_
        cases h
        exact x_zret (pc := 122) X hR d_Mod_statement_122 (Or.inr rfl)
      · skip
        refine x_iconst (pc := 109) X d_Mod_statement_109  ?_
        cases h
        exact x_zret (pc := 110) X hR d_Mod_statement_110 (Or.inl rfl)
  clear hj14
  refine x_icmpeq (pc := 8) (tgt := 49) X d_Mod_statement_8 rfl h (fun h => ?_) (fun h => ?_)
  · skip
    refine x_ls (ls2 := [(0, .ref a0), (1, .int (zi r1))]) [1, 0] rfl ?_
    exact J15 r1 m_reading m_telling m_sort m_sortAt m_told h
  · skip
    refine x_iload_n (pc := 11) X d_Mod_statement_11 0 rfl rfl ?_
    refine x_bipush (pc := 12) (v := 97) X d_Mod_statement_12 rfl ?_
    refine x_icmpeq (pc := 14) (tgt := 49) X d_Mod_statement_14 rfl h (fun h => ?_) (fun h => ?_)
    · skip
      refine x_ls (ls2 := [(0, .ref a0), (1, .int (zi r1))]) [1, 0] rfl ?_
      exact J15 r1 m_reading m_telling m_sort m_sortAt m_told h
    · skip
      refine x_iload_n (pc := 17) X d_Mod_statement_17 0 rfl rfl ?_
      refine x_bipush (pc := 18) (v := 112) X d_Mod_statement_18 rfl ?_
      refine x_icmpeq (pc := 20) (tgt := 49) X d_Mod_statement_20 rfl h (fun h => ?_) (fun h => ?_)
      · skip
        refine x_ls (ls2 := [(0, .ref a0), (1, .int (zi r1))]) [1, 0] rfl ?_
        exact J15 r1 m_reading m_telling m_sort m_sortAt m_told h
      · skip
        refine x_iload_n (pc := 23) X d_Mod_statement_23 0 rfl rfl ?_
        refine x_bipush (pc := 24) (v := 102) X d_Mod_statement_24 rfl ?_
        refine x_icmpeq (pc := 26) (tgt := 49) X d_Mod_statement_26 rfl h (fun h => ?_) (fun h => ?_)
        · skip
          refine x_ls (ls2 := [(0, .ref a0), (1, .int (zi r1))]) [1, 0] rfl ?_
          exact J15 r1 m_reading m_telling m_sort m_sortAt m_told h
        · skip
          refine x_iload_n (pc := 29) X d_Mod_statement_29 0 rfl rfl ?_
          refine x_bipush (pc := 30) (v := 115) X d_Mod_statement_30 rfl ?_
          refine x_icmpeq (pc := 32) (tgt := 49) X d_Mod_statement_32 rfl h (fun h => ?_) (fun h => ?_)
          · skip
            refine x_ls (ls2 := [(0, .ref a0), (1, .int (zi r1))]) [1, 0] rfl ?_
            exact J15 r1 m_reading m_telling m_sort m_sortAt m_told h
          · skip
            refine x_iload_n (pc := 35) X d_Mod_statement_35 0 rfl rfl ?_
            refine x_bipush (pc := 36) (v := 99) X d_Mod_statement_36 rfl ?_
            refine x_icmpeq (pc := 38) (tgt := 49) X d_Mod_statement_38 rfl h (fun h => ?_) (fun h => ?_)
            · skip
              refine x_ls (ls2 := [(0, .ref a0), (1, .int (zi r1))]) [1, 0] rfl ?_
              exact J15 r1 m_reading m_telling m_sort m_sortAt m_told h
            · skip
              refine x_iload_n (pc := 41) X d_Mod_statement_41 0 rfl rfl ?_
              refine x_bipush (pc := 42) (v := 107) X d_Mod_statement_42 rfl ?_
              refine x_icmpeq (pc := 44) (tgt := 49) X d_Mod_statement_44 rfl h (fun h => ?_) (fun h => ?_)
              · skip
                refine x_ls (ls2 := [(0, .ref a0), (1, .int (zi r1))]) [1, 0] rfl ?_
                exact J15 r1 m_reading m_telling m_sort m_sortAt m_told h
              · skip
                refine x_iconst (pc := 47) X d_Mod_statement_47  ?_
                cases h
                exact x_zret (pc := 48) X hR d_Mod_statement_48 (Or.inl rfl)
theorem d_Mod_passes_0 : decode b_Mod_passes 0 = .ok (.iconst 0, 1) := by decide +kernel
theorem d_Mod_passes_1 : decode b_Mod_passes 1 = .ok (.istore_n 2, 1) := by decide +kernel
theorem d_Mod_passes_2 : decode b_Mod_passes 2 = .ok (.iload_n 2, 1) := by decide +kernel
theorem d_Mod_passes_3 : decode b_Mod_passes 3 = .ok (.aload_n 1, 1) := by decide +kernel
theorem d_Mod_passes_4 : decode b_Mod_passes 4 = .ok (.arraylength, 1) := by decide +kernel
theorem d_Mod_passes_5 : decode b_Mod_passes 5 = .ok (.if_icmp .ge 53, 3) := by decide +kernel
theorem d_Mod_passes_8 : decode b_Mod_passes 8 = .ok (.aload_n 0, 1) := by decide +kernel
theorem d_Mod_passes_9 : decode b_Mod_passes 9 = .ok (.getfield 258, 3) := by decide +kernel
theorem d_Mod_passes_12 : decode b_Mod_passes 12 = .ok (.ifCond .eq 18, 3) := by decide +kernel
theorem d_Mod_passes_15 : decode b_Mod_passes 15 = .ok (.aload_n 0, 1) := by decide +kernel
theorem d_Mod_passes_16 : decode b_Mod_passes 16 = .ok (.getfield 43, 3) := by decide +kernel
theorem d_Mod_passes_19 : decode b_Mod_passes 19 = .ok (.aload_n 0, 1) := by decide +kernel
theorem d_Mod_passes_20 : decode b_Mod_passes 20 = .ok (.getfield 262, 3) := by decide +kernel
theorem d_Mod_passes_23 : decode b_Mod_passes 23 = .ok (.aload_n 1, 1) := by decide +kernel
theorem d_Mod_passes_24 : decode b_Mod_passes 24 = .ok (.iload_n 2, 1) := by decide +kernel
theorem d_Mod_passes_25 : decode b_Mod_passes 25 = .ok (.iaload, 1) := by decide +kernel
theorem d_Mod_passes_26 : decode b_Mod_passes 26 = .ok (.iastore, 1) := by decide +kernel
theorem d_Mod_passes_27 : decode b_Mod_passes 27 = .ok (.goto 15, 3) := by decide +kernel
theorem d_Mod_passes_30 : decode b_Mod_passes 30 = .ok (.aload_n 1, 1) := by decide +kernel
theorem d_Mod_passes_31 : decode b_Mod_passes 31 = .ok (.iload_n 2, 1) := by decide +kernel
theorem d_Mod_passes_32 : decode b_Mod_passes 32 = .ok (.aload_n 0, 1) := by decide +kernel
theorem d_Mod_passes_33 : decode b_Mod_passes 33 = .ok (.getfield 43, 3) := by decide +kernel
theorem d_Mod_passes_36 : decode b_Mod_passes 36 = .ok (.aload_n 0, 1) := by decide +kernel
theorem d_Mod_passes_37 : decode b_Mod_passes 37 = .ok (.getfield 262, 3) := by decide +kernel
theorem d_Mod_passes_40 : decode b_Mod_passes 40 = .ok (.iaload, 1) := by decide +kernel
theorem d_Mod_passes_41 : decode b_Mod_passes 41 = .ok (.iastore, 1) := by decide +kernel
theorem d_Mod_passes_42 : decode b_Mod_passes 42 = .ok (.aload_n 0, 1) := by decide +kernel
theorem d_Mod_passes_43 : decode b_Mod_passes 43 = .ok (.dup, 1) := by decide +kernel
theorem d_Mod_passes_44 : decode b_Mod_passes 44 = .ok (.getfield 262, 3) := by decide +kernel
theorem d_Mod_passes_47 : decode b_Mod_passes 47 = .ok (.iconst 1, 1) := by decide +kernel
theorem d_Mod_passes_48 : decode b_Mod_passes 48 = .ok (.iadd, 1) := by decide +kernel
theorem d_Mod_passes_49 : decode b_Mod_passes 49 = .ok (.putfield 262, 3) := by decide +kernel
theorem d_Mod_passes_52 : decode b_Mod_passes 52 = .ok (.iinc 2 1, 3) := by decide +kernel
theorem d_Mod_passes_55 : decode b_Mod_passes 55 = .ok (.goto (-53), 3) := by decide +kernel
theorem d_Mod_passes_58 : decode b_Mod_passes 58 = .ok (.return_, 1) := by decide +kernel
def m_Mod_passes_bytes_2 : Nat → Int → Int → Int → (Int → Int) → (Int → Int) → Option (Int × (Int → Int) × (Int → Int))
  | 0, _, _, _, _, _ => none
  | fuel + 1, v2, m_isKeeping, m_cursor, m_bytes, m_kept =>
  clt v2 64 (jn (fun (z2 : Int) (c3 : Int) (c4 : Int → Int) (c5 : Int → Int) => m_Mod_passes_bytes_2 fuel (z2 + 1) m_isKeeping (c3 + 1) c4 c5) (fun j1 => ceq m_isKeeping 0 (gd (zx m_cursor 1260) (gd (zx v2 64) (j1 v2 m_cursor (uf m_bytes v2 (m_kept m_cursor)) m_kept))) (gd (zx v2 64) (gd (zx m_cursor 1260) (j1 v2 m_cursor m_bytes (uf m_kept m_cursor (m_bytes v2))))))) (some (m_cursor, m_bytes, m_kept))
def m_Mod_passes_bytes  (m_isKeeping : Int) (m_cursor : Int) (m_bytes : Int → Int) (m_kept : Int → Int) : Option (Int × (Int → Int) × (Int → Int)) :=
  m_Mod_passes_bytes_2 5000 0 m_isKeeping m_cursor m_bytes m_kept
set_option maxHeartbeats 4000000 in
set_option maxRecDepth 100000 in
theorem l_Mod_passes_bytes_2 {G : GT} {l : Launch} {D : va_G} {cI cB : ClassId} {a0 a1 a2 a3 a4 a5 a6 a7 a8 a9 a10 a11 a12 a13 a14 a15 : Nat} {m_stepsMade : Int} {m_stepsMost : Int} {m_taped : Int} {m_reading : Int} {m_statements : Int} {m_telling : Int} {m_hasImage : Int} {m_rowMany : Int} {m_lots : Int} {m_refused : Int → Int} {m_owner : Int → Int} {m_block : Int → Int} {m_written : Int → Int} {m_waits : Int → Int} {m_kinds : Int → Int} {m_tape : Int → Int} {m_sort : Int → Int} {m_sortAt : Int → Int} {m_told : Int → Int} {m_was : Int → Int} {m_ends : Int → Int} {m_row : Int → Int} (X : Cx G l D cI cB b_Mod_passes y_Mod_passes.cls 3 { frames := 0, cells := 0, slots := 0, locals := 0 }) : ∀ (fuel : Nat) (v2 : Int) (m_isKeeping : Int) (m_cursor : Int) (m_bytes : Int → Int) (m_kept : Int → Int) (o : Int × (Int → Int) × (Int → Int)), m_Mod_passes_bytes_2 fuel v2 m_isKeeping m_cursor m_bytes m_kept = some o → Rt G none none (w_Mod cI cB a0 a1 a2 a3 a4 a5 a6 a7 a8 a9 a10 a11 a12 a13 a14 a15 m_stepsMade m_stepsMost m_taped m_reading m_statements m_telling m_hasImage m_isKeeping o.1 m_rowMany m_lots m_refused o.2.1 m_owner m_block m_written m_waits m_kinds m_tape m_sort m_sortAt m_told o.2.2 m_was m_ends m_row) → Wx G 0 0 2 [(0, .ref a0), (1, .ref a2), (2, .int (zi v2))] [] (w_Mod cI cB a0 a1 a2 a3 a4 a5 a6 a7 a8 a9 a10 a11 a12 a13 a14 a15 m_stepsMade m_stepsMost m_taped m_reading m_statements m_telling m_hasImage m_isKeeping m_cursor m_rowMany m_lots m_refused m_bytes m_owner m_block m_written m_waits m_kinds m_tape m_sort m_sortAt m_told m_kept m_was m_ends m_row) := by
  intro fuel
  induction fuel with
  | zero =>
    intro v2 m_isKeeping m_cursor m_bytes m_kept o h
    exact absurd h (by simp [m_Mod_passes_bytes_2])
  | succ fuel ih =>
    intro v2 m_isKeeping m_cursor m_bytes m_kept o h hR
    rw [m_Mod_passes_bytes_2] at h
    refine x_iload_n (pc := 2) X d_Mod_passes_2 2 rfl rfl ?_
    refine x_aload_n (pc := 3) X d_Mod_passes_3 1 rfl rfl ?_
    refine x_alen (pc := 4) (M := 64) X d_Mod_passes_4 2 rfl rfl ?_
    refine x_icmpge (pc := 5) (tgt := 58) X d_Mod_passes_5 rfl h (fun h => ?_) (fun h => ?_)
    · skip
      cases h
      exact x_vret (pc := 58) X hR d_Mod_passes_58
    · skip
      refine x_aload_n (pc := 8) X d_Mod_passes_8 0 rfl rfl ?_
      refine x_get (pc := 9) X d_Mod_passes_9 0 rfl fl_Mod_258 rfl ?_
      obtain ⟨j1, hj6, h⟩ := jn_e h
      have J7 : ∀ (z2 : Int) (c3 : Int) (c4 : Int → Int) (c5 : Int → Int), j1 z2 c3 c4 c5 = some o → Wx G 0 0 42 [(0, .ref a0), (1, .ref a2), (2, .int (zi z2))] [] (w_Mod cI cB a0 a1 a2 a3 a4 a5 a6 a7 a8 a9 a10 a11 a12 a13 a14 a15 m_stepsMade m_stepsMost m_taped m_reading m_statements m_telling m_hasImage m_isKeeping c3 m_rowMany m_lots m_refused c4 m_owner m_block m_written m_waits m_kinds m_tape m_sort m_sortAt m_told c5 m_was m_ends m_row) := by
        intro z2 c3 c4 c5 h
        rw [hj6] at h
        (try dsimp only at h)
        refine x_aload_n (pc := 42) X d_Mod_passes_42 0 rfl rfl ?_
        refine x_dup (pc := 43) X d_Mod_passes_43 rfl ?_
        refine x_get (pc := 44) X d_Mod_passes_44 0 rfl fl_Mod_262 rfl ?_
        refine x_iconst (pc := 47) X d_Mod_passes_47  ?_
        refine x_iadd (pc := 48) X d_Mod_passes_48  ?_
        refine x_put (pc := 49) (w2 := (w_Mod cI cB a0 a1 a2 a3 a4 a5 a6 a7 a8 a9 a10 a11 a12 a13 a14 a15 m_stepsMade m_stepsMost m_taped m_reading m_statements m_telling m_hasImage m_isKeeping (c3 + 1) m_rowMany m_lots m_refused c4 m_owner m_block m_written m_waits m_kinds m_tape m_sort m_sortAt m_told c5 m_was m_ends m_row)) X d_Mod_passes_49 0 rfl (fp_Mod_262 _) (Nat.le_of_ble_eq_true rfl) rfl ?_
        refine x_iinc (pc := 52) (ls2 := [(2, .int (zi (z2 + 1))), (0, .ref a0), (1, .ref a2)]) X d_Mod_passes_52 2 (Nat.le_of_ble_eq_true rfl) rfl rfl ?_
        refine x_goto (pc := 55) (tgt := 2) X d_Mod_passes_55 rfl ?_
        refine x_ls (ls2 := [(0, .ref a0), (1, .ref a2), (2, .int (zi (z2 + 1)))]) [1, 2, 0] rfl ?_
        exact ih (z2 + 1) m_isKeeping (c3 + 1) c4 c5 o h hR
      clear hj6
      refine x_ifeq (pc := 12) (tgt := 30) X d_Mod_passes_12 rfl h (fun h => ?_) (fun h => ?_)
      · skip
        refine x_aload_n (pc := 30) X d_Mod_passes_30 1 rfl rfl ?_
        refine x_iload_n (pc := 31) X d_Mod_passes_31 2 rfl rfl ?_
        refine x_aload_n (pc := 32) X d_Mod_passes_32 0 rfl rfl ?_
        refine x_get (pc := 33) X d_Mod_passes_33 0 rfl fl_Mod_43 rfl ?_
        refine x_aload_n (pc := 36) X d_Mod_passes_36 0 rfl rfl ?_
        refine x_get (pc := 37) X d_Mod_passes_37 0 rfl fl_Mod_262 rfl ?_
        refine x_iald (pc := 40) X d_Mod_passes_40 12 rfl (Nat.le_of_ble_eq_true rfl) rfl h (fun h => ?_)
        refine x_iast (pc := 41) (w2 := (w_Mod cI cB a0 a1 a2 a3 a4 a5 a6 a7 a8 a9 a10 a11 a12 a13 a14 a15 m_stepsMade m_stepsMost m_taped m_reading m_statements m_telling m_hasImage m_isKeeping m_cursor m_rowMany m_lots m_refused (uf m_bytes v2 (m_kept m_cursor)) m_owner m_block m_written m_waits m_kinds m_tape m_sort m_sortAt m_told m_kept m_was m_ends m_row)) X d_Mod_passes_41 2 rfl (Nat.le_of_ble_eq_true rfl) rfl rfl h (fun h => ?_)
        exact J7 v2 m_cursor (uf m_bytes v2 (m_kept m_cursor)) m_kept h
      · skip
        refine x_aload_n (pc := 15) X d_Mod_passes_15 0 rfl rfl ?_
        refine x_get (pc := 16) X d_Mod_passes_16 0 rfl fl_Mod_43 rfl ?_
        refine x_aload_n (pc := 19) X d_Mod_passes_19 0 rfl rfl ?_
        refine x_get (pc := 20) X d_Mod_passes_20 0 rfl fl_Mod_262 rfl ?_
        refine x_aload_n (pc := 23) X d_Mod_passes_23 1 rfl rfl ?_
        refine x_iload_n (pc := 24) X d_Mod_passes_24 2 rfl rfl ?_
        refine x_iald (pc := 25) X d_Mod_passes_25 2 rfl (Nat.le_of_ble_eq_true rfl) rfl h (fun h => ?_)
        refine x_iast (pc := 26) (w2 := (w_Mod cI cB a0 a1 a2 a3 a4 a5 a6 a7 a8 a9 a10 a11 a12 a13 a14 a15 m_stepsMade m_stepsMost m_taped m_reading m_statements m_telling m_hasImage m_isKeeping m_cursor m_rowMany m_lots m_refused m_bytes m_owner m_block m_written m_waits m_kinds m_tape m_sort m_sortAt m_told (uf m_kept m_cursor (m_bytes v2)) m_was m_ends m_row)) X d_Mod_passes_26 12 rfl (Nat.le_of_ble_eq_true rfl) rfl rfl h (fun h => ?_)
        refine x_goto (pc := 27) (tgt := 42) X d_Mod_passes_27 rfl ?_
        exact J7 v2 m_cursor m_bytes (uf m_kept m_cursor (m_bytes v2)) h
set_option maxHeartbeats 4000000 in
set_option maxRecDepth 100000 in
theorem c_Mod_passes_bytes (l : Launch) (D : va_G) (cI cB : ClassId) (a0 a1 a2 a3 a4 a5 a6 a7 a8 a9 a10 a11 a12 a13 a14 a15 : Nat) (m_stepsMade : Int) (m_stepsMost : Int) (m_taped : Int) (m_reading : Int) (m_statements : Int) (m_telling : Int) (m_hasImage : Int) (m_isKeeping : Int) (m_cursor : Int) (m_rowMany : Int) (m_lots : Int) (m_refused : Int → Int) (m_bytes : Int → Int) (m_owner : Int → Int) (m_block : Int → Int) (m_written : Int → Int) (m_waits : Int → Int) (m_kinds : Int → Int) (m_tape : Int → Int) (m_sort : Int → Int) (m_sortAt : Int → Int) (m_told : Int → Int) (m_kept : Int → Int) (m_was : Int → Int) (m_ends : Int → Int) (m_row : Int → Int)  {o : Int × (Int → Int) × (Int → Int)} (h : m_Mod_passes_bytes m_isKeeping m_cursor m_bytes m_kept = some o) : Ct l D cI cB y_Mod_passes b_Mod_passes 3 none { frames := 0, cells := 0, slots := 0, locals := 0 } [.ref a0, .ref a2] (w_Mod cI cB a0 a1 a2 a3 a4 a5 a6 a7 a8 a9 a10 a11 a12 a13 a14 a15 m_stepsMade m_stepsMost m_taped m_reading m_statements m_telling m_hasImage m_isKeeping m_cursor m_rowMany m_lots m_refused m_bytes m_owner m_block m_written m_waits m_kinds m_tape m_sort m_sortAt m_told m_kept m_was m_ends m_row) (w_Mod cI cB a0 a1 a2 a3 a4 a5 a6 a7 a8 a9 a10 a11 a12 a13 a14 a15 m_stepsMade m_stepsMost m_taped m_reading m_statements m_telling m_hasImage m_isKeeping o.1 m_rowMany m_lots m_refused o.2.1 m_owner m_block m_written m_waits m_kinds m_tape m_sort m_sortAt m_told o.2.2 m_was m_ends m_row) none := by
  refine Ct.start (by decide) (Nat.le_of_ble_eq_true rfl) (fun G X hR => ?_)
  refine x_ls (ls2 := [(0, .ref a0), (1, .ref a2)]) [0, 1] rfl ?_
  unfold m_Mod_passes_bytes at h
  refine x_iconst (pc := 0) X d_Mod_passes_0  ?_
  refine x_istore_n (pc := 1) (ls2 := [(2, .int (zi 0)), (0, .ref a0), (1, .ref a2)]) X d_Mod_passes_1 rfl (Nat.le_of_ble_eq_true rfl) rfl ?_
  refine x_ls (ls2 := [(0, .ref a0), (1, .ref a2), (2, .int (zi 0))]) [1, 2, 0] rfl ?_
  exact l_Mod_passes_bytes_2 X 5000 0 m_isKeeping m_cursor m_bytes m_kept o h hR
def m_Mod_passes_owner_2 : Nat → Int → Int → Int → (Int → Int) → (Int → Int) → Option (Int × (Int → Int) × (Int → Int))
  | 0, _, _, _, _, _ => none
  | fuel + 1, v2, m_isKeeping, m_cursor, m_owner, m_kept =>
  clt v2 64 (jn (fun (z2 : Int) (c3 : Int) (c4 : Int → Int) (c5 : Int → Int) => m_Mod_passes_owner_2 fuel (z2 + 1) m_isKeeping (c3 + 1) c4 c5) (fun j1 => ceq m_isKeeping 0 (gd (zx m_cursor 1260) (gd (zx v2 64) (j1 v2 m_cursor (uf m_owner v2 (m_kept m_cursor)) m_kept))) (gd (zx v2 64) (gd (zx m_cursor 1260) (j1 v2 m_cursor m_owner (uf m_kept m_cursor (m_owner v2))))))) (some (m_cursor, m_owner, m_kept))
def m_Mod_passes_owner  (m_isKeeping : Int) (m_cursor : Int) (m_owner : Int → Int) (m_kept : Int → Int) : Option (Int × (Int → Int) × (Int → Int)) :=
  m_Mod_passes_owner_2 5000 0 m_isKeeping m_cursor m_owner m_kept
set_option maxHeartbeats 4000000 in
set_option maxRecDepth 100000 in
theorem l_Mod_passes_owner_2 {G : GT} {l : Launch} {D : va_G} {cI cB : ClassId} {a0 a1 a2 a3 a4 a5 a6 a7 a8 a9 a10 a11 a12 a13 a14 a15 : Nat} {m_stepsMade : Int} {m_stepsMost : Int} {m_taped : Int} {m_reading : Int} {m_statements : Int} {m_telling : Int} {m_hasImage : Int} {m_rowMany : Int} {m_lots : Int} {m_refused : Int → Int} {m_bytes : Int → Int} {m_block : Int → Int} {m_written : Int → Int} {m_waits : Int → Int} {m_kinds : Int → Int} {m_tape : Int → Int} {m_sort : Int → Int} {m_sortAt : Int → Int} {m_told : Int → Int} {m_was : Int → Int} {m_ends : Int → Int} {m_row : Int → Int} (X : Cx G l D cI cB b_Mod_passes y_Mod_passes.cls 3 { frames := 0, cells := 0, slots := 0, locals := 0 }) : ∀ (fuel : Nat) (v2 : Int) (m_isKeeping : Int) (m_cursor : Int) (m_owner : Int → Int) (m_kept : Int → Int) (o : Int × (Int → Int) × (Int → Int)), m_Mod_passes_owner_2 fuel v2 m_isKeeping m_cursor m_owner m_kept = some o → Rt G none none (w_Mod cI cB a0 a1 a2 a3 a4 a5 a6 a7 a8 a9 a10 a11 a12 a13 a14 a15 m_stepsMade m_stepsMost m_taped m_reading m_statements m_telling m_hasImage m_isKeeping o.1 m_rowMany m_lots m_refused m_bytes o.2.1 m_block m_written m_waits m_kinds m_tape m_sort m_sortAt m_told o.2.2 m_was m_ends m_row) → Wx G 0 0 2 [(0, .ref a0), (1, .ref a3), (2, .int (zi v2))] [] (w_Mod cI cB a0 a1 a2 a3 a4 a5 a6 a7 a8 a9 a10 a11 a12 a13 a14 a15 m_stepsMade m_stepsMost m_taped m_reading m_statements m_telling m_hasImage m_isKeeping m_cursor m_rowMany m_lots m_refused m_bytes m_owner m_block m_written m_waits m_kinds m_tape m_sort m_sortAt m_told m_kept m_was m_ends m_row) := by
  intro fuel
  induction fuel with
  | zero =>
    intro v2 m_isKeeping m_cursor m_owner m_kept o h
    exact absurd h (by simp [m_Mod_passes_owner_2])
  | succ fuel ih =>
    intro v2 m_isKeeping m_cursor m_owner m_kept o h hR
    rw [m_Mod_passes_owner_2] at h
    refine x_iload_n (pc := 2) X d_Mod_passes_2 2 rfl rfl ?_
    refine x_aload_n (pc := 3) X d_Mod_passes_3 1 rfl rfl ?_
    refine x_alen (pc := 4) (M := 64) X d_Mod_passes_4 3 rfl rfl ?_
    refine x_icmpge (pc := 5) (tgt := 58) X d_Mod_passes_5 rfl h (fun h => ?_) (fun h => ?_)
    · skip
      cases h
      exact x_vret (pc := 58) X hR d_Mod_passes_58
    · skip
      refine x_aload_n (pc := 8) X d_Mod_passes_8 0 rfl rfl ?_
      refine x_get (pc := 9) X d_Mod_passes_9 0 rfl fl_Mod_258 rfl ?_
      obtain ⟨j1, hj6, h⟩ := jn_e h
      have J7 : ∀ (z2 : Int) (c3 : Int) (c4 : Int → Int) (c5 : Int → Int), j1 z2 c3 c4 c5 = some o → Wx G 0 0 42 [(0, .ref a0), (1, .ref a3), (2, .int (zi z2))] [] (w_Mod cI cB a0 a1 a2 a3 a4 a5 a6 a7 a8 a9 a10 a11 a12 a13 a14 a15 m_stepsMade m_stepsMost m_taped m_reading m_statements m_telling m_hasImage m_isKeeping c3 m_rowMany m_lots m_refused m_bytes c4 m_block m_written m_waits m_kinds m_tape m_sort m_sortAt m_told c5 m_was m_ends m_row) := by
        intro z2 c3 c4 c5 h
        rw [hj6] at h
        (try dsimp only at h)
        refine x_aload_n (pc := 42) X d_Mod_passes_42 0 rfl rfl ?_
        refine x_dup (pc := 43) X d_Mod_passes_43 rfl ?_
        refine x_get (pc := 44) X d_Mod_passes_44 0 rfl fl_Mod_262 rfl ?_
        refine x_iconst (pc := 47) X d_Mod_passes_47  ?_
        refine x_iadd (pc := 48) X d_Mod_passes_48  ?_
        refine x_put (pc := 49) (w2 := (w_Mod cI cB a0 a1 a2 a3 a4 a5 a6 a7 a8 a9 a10 a11 a12 a13 a14 a15 m_stepsMade m_stepsMost m_taped m_reading m_statements m_telling m_hasImage m_isKeeping (c3 + 1) m_rowMany m_lots m_refused m_bytes c4 m_block m_written m_waits m_kinds m_tape m_sort m_sortAt m_told c5 m_was m_ends m_row)) X d_Mod_passes_49 0 rfl (fp_Mod_262 _) (Nat.le_of_ble_eq_true rfl) rfl ?_
        refine x_iinc (pc := 52) (ls2 := [(2, .int (zi (z2 + 1))), (0, .ref a0), (1, .ref a3)]) X d_Mod_passes_52 2 (Nat.le_of_ble_eq_true rfl) rfl rfl ?_
        refine x_goto (pc := 55) (tgt := 2) X d_Mod_passes_55 rfl ?_
        refine x_ls (ls2 := [(0, .ref a0), (1, .ref a3), (2, .int (zi (z2 + 1)))]) [1, 2, 0] rfl ?_
        exact ih (z2 + 1) m_isKeeping (c3 + 1) c4 c5 o h hR
      clear hj6
      refine x_ifeq (pc := 12) (tgt := 30) X d_Mod_passes_12 rfl h (fun h => ?_) (fun h => ?_)
      · skip
        refine x_aload_n (pc := 30) X d_Mod_passes_30 1 rfl rfl ?_
        refine x_iload_n (pc := 31) X d_Mod_passes_31 2 rfl rfl ?_
        refine x_aload_n (pc := 32) X d_Mod_passes_32 0 rfl rfl ?_
        refine x_get (pc := 33) X d_Mod_passes_33 0 rfl fl_Mod_43 rfl ?_
        refine x_aload_n (pc := 36) X d_Mod_passes_36 0 rfl rfl ?_
        refine x_get (pc := 37) X d_Mod_passes_37 0 rfl fl_Mod_262 rfl ?_
        refine x_iald (pc := 40) X d_Mod_passes_40 12 rfl (Nat.le_of_ble_eq_true rfl) rfl h (fun h => ?_)
        refine x_iast (pc := 41) (w2 := (w_Mod cI cB a0 a1 a2 a3 a4 a5 a6 a7 a8 a9 a10 a11 a12 a13 a14 a15 m_stepsMade m_stepsMost m_taped m_reading m_statements m_telling m_hasImage m_isKeeping m_cursor m_rowMany m_lots m_refused m_bytes (uf m_owner v2 (m_kept m_cursor)) m_block m_written m_waits m_kinds m_tape m_sort m_sortAt m_told m_kept m_was m_ends m_row)) X d_Mod_passes_41 3 rfl (Nat.le_of_ble_eq_true rfl) rfl rfl h (fun h => ?_)
        exact J7 v2 m_cursor (uf m_owner v2 (m_kept m_cursor)) m_kept h
      · skip
        refine x_aload_n (pc := 15) X d_Mod_passes_15 0 rfl rfl ?_
        refine x_get (pc := 16) X d_Mod_passes_16 0 rfl fl_Mod_43 rfl ?_
        refine x_aload_n (pc := 19) X d_Mod_passes_19 0 rfl rfl ?_
        refine x_get (pc := 20) X d_Mod_passes_20 0 rfl fl_Mod_262 rfl ?_
        refine x_aload_n (pc := 23) X d_Mod_passes_23 1 rfl rfl ?_
        refine x_iload_n (pc := 24) X d_Mod_passes_24 2 rfl rfl ?_
        refine x_iald (pc := 25) X d_Mod_passes_25 3 rfl (Nat.le_of_ble_eq_true rfl) rfl h (fun h => ?_)
        refine x_iast (pc := 26) (w2 := (w_Mod cI cB a0 a1 a2 a3 a4 a5 a6 a7 a8 a9 a10 a11 a12 a13 a14 a15 m_stepsMade m_stepsMost m_taped m_reading m_statements m_telling m_hasImage m_isKeeping m_cursor m_rowMany m_lots m_refused m_bytes m_owner m_block m_written m_waits m_kinds m_tape m_sort m_sortAt m_told (uf m_kept m_cursor (m_owner v2)) m_was m_ends m_row)) X d_Mod_passes_26 12 rfl (Nat.le_of_ble_eq_true rfl) rfl rfl h (fun h => ?_)
        refine x_goto (pc := 27) (tgt := 42) X d_Mod_passes_27 rfl ?_
        exact J7 v2 m_cursor m_owner (uf m_kept m_cursor (m_owner v2)) h
set_option maxHeartbeats 4000000 in
set_option maxRecDepth 100000 in
theorem c_Mod_passes_owner (l : Launch) (D : va_G) (cI cB : ClassId) (a0 a1 a2 a3 a4 a5 a6 a7 a8 a9 a10 a11 a12 a13 a14 a15 : Nat) (m_stepsMade : Int) (m_stepsMost : Int) (m_taped : Int) (m_reading : Int) (m_statements : Int) (m_telling : Int) (m_hasImage : Int) (m_isKeeping : Int) (m_cursor : Int) (m_rowMany : Int) (m_lots : Int) (m_refused : Int → Int) (m_bytes : Int → Int) (m_owner : Int → Int) (m_block : Int → Int) (m_written : Int → Int) (m_waits : Int → Int) (m_kinds : Int → Int) (m_tape : Int → Int) (m_sort : Int → Int) (m_sortAt : Int → Int) (m_told : Int → Int) (m_kept : Int → Int) (m_was : Int → Int) (m_ends : Int → Int) (m_row : Int → Int)  {o : Int × (Int → Int) × (Int → Int)} (h : m_Mod_passes_owner m_isKeeping m_cursor m_owner m_kept = some o) : Ct l D cI cB y_Mod_passes b_Mod_passes 3 none { frames := 0, cells := 0, slots := 0, locals := 0 } [.ref a0, .ref a3] (w_Mod cI cB a0 a1 a2 a3 a4 a5 a6 a7 a8 a9 a10 a11 a12 a13 a14 a15 m_stepsMade m_stepsMost m_taped m_reading m_statements m_telling m_hasImage m_isKeeping m_cursor m_rowMany m_lots m_refused m_bytes m_owner m_block m_written m_waits m_kinds m_tape m_sort m_sortAt m_told m_kept m_was m_ends m_row) (w_Mod cI cB a0 a1 a2 a3 a4 a5 a6 a7 a8 a9 a10 a11 a12 a13 a14 a15 m_stepsMade m_stepsMost m_taped m_reading m_statements m_telling m_hasImage m_isKeeping o.1 m_rowMany m_lots m_refused m_bytes o.2.1 m_block m_written m_waits m_kinds m_tape m_sort m_sortAt m_told o.2.2 m_was m_ends m_row) none := by
  refine Ct.start (by decide) (Nat.le_of_ble_eq_true rfl) (fun G X hR => ?_)
  refine x_ls (ls2 := [(0, .ref a0), (1, .ref a3)]) [0, 1] rfl ?_
  unfold m_Mod_passes_owner at h
  refine x_iconst (pc := 0) X d_Mod_passes_0  ?_
  refine x_istore_n (pc := 1) (ls2 := [(2, .int (zi 0)), (0, .ref a0), (1, .ref a3)]) X d_Mod_passes_1 rfl (Nat.le_of_ble_eq_true rfl) rfl ?_
  refine x_ls (ls2 := [(0, .ref a0), (1, .ref a3), (2, .int (zi 0))]) [1, 2, 0] rfl ?_
  exact l_Mod_passes_owner_2 X 5000 0 m_isKeeping m_cursor m_owner m_kept o h hR
def m_Mod_passes_block_2 : Nat → Int → Int → Int → (Int → Int) → (Int → Int) → Option (Int × (Int → Int) × (Int → Int))
  | 0, _, _, _, _, _ => none
  | fuel + 1, v2, m_isKeeping, m_cursor, m_block, m_kept =>
  clt v2 96 (jn (fun (z2 : Int) (c3 : Int) (c4 : Int → Int) (c5 : Int → Int) => m_Mod_passes_block_2 fuel (z2 + 1) m_isKeeping (c3 + 1) c4 c5) (fun j1 => ceq m_isKeeping 0 (gd (zx m_cursor 1260) (gd (zx v2 96) (j1 v2 m_cursor (uf m_block v2 (m_kept m_cursor)) m_kept))) (gd (zx v2 96) (gd (zx m_cursor 1260) (j1 v2 m_cursor m_block (uf m_kept m_cursor (m_block v2))))))) (some (m_cursor, m_block, m_kept))
def m_Mod_passes_block  (m_isKeeping : Int) (m_cursor : Int) (m_block : Int → Int) (m_kept : Int → Int) : Option (Int × (Int → Int) × (Int → Int)) :=
  m_Mod_passes_block_2 5000 0 m_isKeeping m_cursor m_block m_kept
set_option maxHeartbeats 4000000 in
set_option maxRecDepth 100000 in
theorem l_Mod_passes_block_2 {G : GT} {l : Launch} {D : va_G} {cI cB : ClassId} {a0 a1 a2 a3 a4 a5 a6 a7 a8 a9 a10 a11 a12 a13 a14 a15 : Nat} {m_stepsMade : Int} {m_stepsMost : Int} {m_taped : Int} {m_reading : Int} {m_statements : Int} {m_telling : Int} {m_hasImage : Int} {m_rowMany : Int} {m_lots : Int} {m_refused : Int → Int} {m_bytes : Int → Int} {m_owner : Int → Int} {m_written : Int → Int} {m_waits : Int → Int} {m_kinds : Int → Int} {m_tape : Int → Int} {m_sort : Int → Int} {m_sortAt : Int → Int} {m_told : Int → Int} {m_was : Int → Int} {m_ends : Int → Int} {m_row : Int → Int} (X : Cx G l D cI cB b_Mod_passes y_Mod_passes.cls 3 { frames := 0, cells := 0, slots := 0, locals := 0 }) : ∀ (fuel : Nat) (v2 : Int) (m_isKeeping : Int) (m_cursor : Int) (m_block : Int → Int) (m_kept : Int → Int) (o : Int × (Int → Int) × (Int → Int)), m_Mod_passes_block_2 fuel v2 m_isKeeping m_cursor m_block m_kept = some o → Rt G none none (w_Mod cI cB a0 a1 a2 a3 a4 a5 a6 a7 a8 a9 a10 a11 a12 a13 a14 a15 m_stepsMade m_stepsMost m_taped m_reading m_statements m_telling m_hasImage m_isKeeping o.1 m_rowMany m_lots m_refused m_bytes m_owner o.2.1 m_written m_waits m_kinds m_tape m_sort m_sortAt m_told o.2.2 m_was m_ends m_row) → Wx G 0 0 2 [(0, .ref a0), (1, .ref a4), (2, .int (zi v2))] [] (w_Mod cI cB a0 a1 a2 a3 a4 a5 a6 a7 a8 a9 a10 a11 a12 a13 a14 a15 m_stepsMade m_stepsMost m_taped m_reading m_statements m_telling m_hasImage m_isKeeping m_cursor m_rowMany m_lots m_refused m_bytes m_owner m_block m_written m_waits m_kinds m_tape m_sort m_sortAt m_told m_kept m_was m_ends m_row) := by
  intro fuel
  induction fuel with
  | zero =>
    intro v2 m_isKeeping m_cursor m_block m_kept o h
    exact absurd h (by simp [m_Mod_passes_block_2])
  | succ fuel ih =>
    intro v2 m_isKeeping m_cursor m_block m_kept o h hR
    rw [m_Mod_passes_block_2] at h
    refine x_iload_n (pc := 2) X d_Mod_passes_2 2 rfl rfl ?_
    refine x_aload_n (pc := 3) X d_Mod_passes_3 1 rfl rfl ?_
    refine x_alen (pc := 4) (M := 96) X d_Mod_passes_4 4 rfl rfl ?_
    refine x_icmpge (pc := 5) (tgt := 58) X d_Mod_passes_5 rfl h (fun h => ?_) (fun h => ?_)
    · skip
      cases h
      exact x_vret (pc := 58) X hR d_Mod_passes_58
    · skip
      refine x_aload_n (pc := 8) X d_Mod_passes_8 0 rfl rfl ?_
      refine x_get (pc := 9) X d_Mod_passes_9 0 rfl fl_Mod_258 rfl ?_
      obtain ⟨j1, hj6, h⟩ := jn_e h
      have J7 : ∀ (z2 : Int) (c3 : Int) (c4 : Int → Int) (c5 : Int → Int), j1 z2 c3 c4 c5 = some o → Wx G 0 0 42 [(0, .ref a0), (1, .ref a4), (2, .int (zi z2))] [] (w_Mod cI cB a0 a1 a2 a3 a4 a5 a6 a7 a8 a9 a10 a11 a12 a13 a14 a15 m_stepsMade m_stepsMost m_taped m_reading m_statements m_telling m_hasImage m_isKeeping c3 m_rowMany m_lots m_refused m_bytes m_owner c4 m_written m_waits m_kinds m_tape m_sort m_sortAt m_told c5 m_was m_ends m_row) := by
        intro z2 c3 c4 c5 h
        rw [hj6] at h
        (try dsimp only at h)
        refine x_aload_n (pc := 42) X d_Mod_passes_42 0 rfl rfl ?_
        refine x_dup (pc := 43) X d_Mod_passes_43 rfl ?_
        refine x_get (pc := 44) X d_Mod_passes_44 0 rfl fl_Mod_262 rfl ?_
        refine x_iconst (pc := 47) X d_Mod_passes_47  ?_
        refine x_iadd (pc := 48) X d_Mod_passes_48  ?_
        refine x_put (pc := 49) (w2 := (w_Mod cI cB a0 a1 a2 a3 a4 a5 a6 a7 a8 a9 a10 a11 a12 a13 a14 a15 m_stepsMade m_stepsMost m_taped m_reading m_statements m_telling m_hasImage m_isKeeping (c3 + 1) m_rowMany m_lots m_refused m_bytes m_owner c4 m_written m_waits m_kinds m_tape m_sort m_sortAt m_told c5 m_was m_ends m_row)) X d_Mod_passes_49 0 rfl (fp_Mod_262 _) (Nat.le_of_ble_eq_true rfl) rfl ?_
        refine x_iinc (pc := 52) (ls2 := [(2, .int (zi (z2 + 1))), (0, .ref a0), (1, .ref a4)]) X d_Mod_passes_52 2 (Nat.le_of_ble_eq_true rfl) rfl rfl ?_
        refine x_goto (pc := 55) (tgt := 2) X d_Mod_passes_55 rfl ?_
        refine x_ls (ls2 := [(0, .ref a0), (1, .ref a4), (2, .int (zi (z2 + 1)))]) [1, 2, 0] rfl ?_
        exact ih (z2 + 1) m_isKeeping (c3 + 1) c4 c5 o h hR
      clear hj6
      refine x_ifeq (pc := 12) (tgt := 30) X d_Mod_passes_12 rfl h (fun h => ?_) (fun h => ?_)
      · skip
        refine x_aload_n (pc := 30) X d_Mod_passes_30 1 rfl rfl ?_
        refine x_iload_n (pc := 31) X d_Mod_passes_31 2 rfl rfl ?_
        refine x_aload_n (pc := 32) X d_Mod_passes_32 0 rfl rfl ?_
        refine x_get (pc := 33) X d_Mod_passes_33 0 rfl fl_Mod_43 rfl ?_
        refine x_aload_n (pc := 36) X d_Mod_passes_36 0 rfl rfl ?_
        refine x_get (pc := 37) X d_Mod_passes_37 0 rfl fl_Mod_262 rfl ?_
        refine x_iald (pc := 40) X d_Mod_passes_40 12 rfl (Nat.le_of_ble_eq_true rfl) rfl h (fun h => ?_)
        refine x_iast (pc := 41) (w2 := (w_Mod cI cB a0 a1 a2 a3 a4 a5 a6 a7 a8 a9 a10 a11 a12 a13 a14 a15 m_stepsMade m_stepsMost m_taped m_reading m_statements m_telling m_hasImage m_isKeeping m_cursor m_rowMany m_lots m_refused m_bytes m_owner (uf m_block v2 (m_kept m_cursor)) m_written m_waits m_kinds m_tape m_sort m_sortAt m_told m_kept m_was m_ends m_row)) X d_Mod_passes_41 4 rfl (Nat.le_of_ble_eq_true rfl) rfl rfl h (fun h => ?_)
        exact J7 v2 m_cursor (uf m_block v2 (m_kept m_cursor)) m_kept h
      · skip
        refine x_aload_n (pc := 15) X d_Mod_passes_15 0 rfl rfl ?_
        refine x_get (pc := 16) X d_Mod_passes_16 0 rfl fl_Mod_43 rfl ?_
        refine x_aload_n (pc := 19) X d_Mod_passes_19 0 rfl rfl ?_
        refine x_get (pc := 20) X d_Mod_passes_20 0 rfl fl_Mod_262 rfl ?_
        refine x_aload_n (pc := 23) X d_Mod_passes_23 1 rfl rfl ?_
        refine x_iload_n (pc := 24) X d_Mod_passes_24 2 rfl rfl ?_
        refine x_iald (pc := 25) X d_Mod_passes_25 4 rfl (Nat.le_of_ble_eq_true rfl) rfl h (fun h => ?_)
        refine x_iast (pc := 26) (w2 := (w_Mod cI cB a0 a1 a2 a3 a4 a5 a6 a7 a8 a9 a10 a11 a12 a13 a14 a15 m_stepsMade m_stepsMost m_taped m_reading m_statements m_telling m_hasImage m_isKeeping m_cursor m_rowMany m_lots m_refused m_bytes m_owner m_block m_written m_waits m_kinds m_tape m_sort m_sortAt m_told (uf m_kept m_cursor (m_block v2)) m_was m_ends m_row)) X d_Mod_passes_26 12 rfl (Nat.le_of_ble_eq_true rfl) rfl rfl h (fun h => ?_)
        refine x_goto (pc := 27) (tgt := 42) X d_Mod_passes_27 rfl ?_
        exact J7 v2 m_cursor m_block (uf m_kept m_cursor (m_block v2)) h
set_option maxHeartbeats 4000000 in
set_option maxRecDepth 100000 in
theorem c_Mod_passes_block (l : Launch) (D : va_G) (cI cB : ClassId) (a0 a1 a2 a3 a4 a5 a6 a7 a8 a9 a10 a11 a12 a13 a14 a15 : Nat) (m_stepsMade : Int) (m_stepsMost : Int) (m_taped : Int) (m_reading : Int) (m_statements : Int) (m_telling : Int) (m_hasImage : Int) (m_isKeeping : Int) (m_cursor : Int) (m_rowMany : Int) (m_lots : Int) (m_refused : Int → Int) (m_bytes : Int → Int) (m_owner : Int → Int) (m_block : Int → Int) (m_written : Int → Int) (m_waits : Int → Int) (m_kinds : Int → Int) (m_tape : Int → Int) (m_sort : Int → Int) (m_sortAt : Int → Int) (m_told : Int → Int) (m_kept : Int → Int) (m_was : Int → Int) (m_ends : Int → Int) (m_row : Int → Int)  {o : Int × (Int → Int) × (Int → Int)} (h : m_Mod_passes_block m_isKeeping m_cursor m_block m_kept = some o) : Ct l D cI cB y_Mod_passes b_Mod_passes 3 none { frames := 0, cells := 0, slots := 0, locals := 0 } [.ref a0, .ref a4] (w_Mod cI cB a0 a1 a2 a3 a4 a5 a6 a7 a8 a9 a10 a11 a12 a13 a14 a15 m_stepsMade m_stepsMost m_taped m_reading m_statements m_telling m_hasImage m_isKeeping m_cursor m_rowMany m_lots m_refused m_bytes m_owner m_block m_written m_waits m_kinds m_tape m_sort m_sortAt m_told m_kept m_was m_ends m_row) (w_Mod cI cB a0 a1 a2 a3 a4 a5 a6 a7 a8 a9 a10 a11 a12 a13 a14 a15 m_stepsMade m_stepsMost m_taped m_reading m_statements m_telling m_hasImage m_isKeeping o.1 m_rowMany m_lots m_refused m_bytes m_owner o.2.1 m_written m_waits m_kinds m_tape m_sort m_sortAt m_told o.2.2 m_was m_ends m_row) none := by
  refine Ct.start (by decide) (Nat.le_of_ble_eq_true rfl) (fun G X hR => ?_)
  refine x_ls (ls2 := [(0, .ref a0), (1, .ref a4)]) [0, 1] rfl ?_
  unfold m_Mod_passes_block at h
  refine x_iconst (pc := 0) X d_Mod_passes_0  ?_
  refine x_istore_n (pc := 1) (ls2 := [(2, .int (zi 0)), (0, .ref a0), (1, .ref a4)]) X d_Mod_passes_1 rfl (Nat.le_of_ble_eq_true rfl) rfl ?_
  refine x_ls (ls2 := [(0, .ref a0), (1, .ref a4), (2, .int (zi 0))]) [1, 2, 0] rfl ?_
  exact l_Mod_passes_block_2 X 5000 0 m_isKeeping m_cursor m_block m_kept o h hR
def m_Mod_passes_written_2 : Nat → Int → Int → Int → (Int → Int) → (Int → Int) → Option (Int × (Int → Int) × (Int → Int))
  | 0, _, _, _, _, _ => none
  | fuel + 1, v2, m_isKeeping, m_cursor, m_written, m_kept =>
  clt v2 96 (jn (fun (z2 : Int) (c3 : Int) (c4 : Int → Int) (c5 : Int → Int) => m_Mod_passes_written_2 fuel (z2 + 1) m_isKeeping (c3 + 1) c4 c5) (fun j1 => ceq m_isKeeping 0 (gd (zx m_cursor 1260) (gd (zx v2 96) (j1 v2 m_cursor (uf m_written v2 (m_kept m_cursor)) m_kept))) (gd (zx v2 96) (gd (zx m_cursor 1260) (j1 v2 m_cursor m_written (uf m_kept m_cursor (m_written v2))))))) (some (m_cursor, m_written, m_kept))
def m_Mod_passes_written  (m_isKeeping : Int) (m_cursor : Int) (m_written : Int → Int) (m_kept : Int → Int) : Option (Int × (Int → Int) × (Int → Int)) :=
  m_Mod_passes_written_2 5000 0 m_isKeeping m_cursor m_written m_kept
set_option maxHeartbeats 4000000 in
set_option maxRecDepth 100000 in
theorem l_Mod_passes_written_2 {G : GT} {l : Launch} {D : va_G} {cI cB : ClassId} {a0 a1 a2 a3 a4 a5 a6 a7 a8 a9 a10 a11 a12 a13 a14 a15 : Nat} {m_stepsMade : Int} {m_stepsMost : Int} {m_taped : Int} {m_reading : Int} {m_statements : Int} {m_telling : Int} {m_hasImage : Int} {m_rowMany : Int} {m_lots : Int} {m_refused : Int → Int} {m_bytes : Int → Int} {m_owner : Int → Int} {m_block : Int → Int} {m_waits : Int → Int} {m_kinds : Int → Int} {m_tape : Int → Int} {m_sort : Int → Int} {m_sortAt : Int → Int} {m_told : Int → Int} {m_was : Int → Int} {m_ends : Int → Int} {m_row : Int → Int} (X : Cx G l D cI cB b_Mod_passes y_Mod_passes.cls 3 { frames := 0, cells := 0, slots := 0, locals := 0 }) : ∀ (fuel : Nat) (v2 : Int) (m_isKeeping : Int) (m_cursor : Int) (m_written : Int → Int) (m_kept : Int → Int) (o : Int × (Int → Int) × (Int → Int)), m_Mod_passes_written_2 fuel v2 m_isKeeping m_cursor m_written m_kept = some o → Rt G none none (w_Mod cI cB a0 a1 a2 a3 a4 a5 a6 a7 a8 a9 a10 a11 a12 a13 a14 a15 m_stepsMade m_stepsMost m_taped m_reading m_statements m_telling m_hasImage m_isKeeping o.1 m_rowMany m_lots m_refused m_bytes m_owner m_block o.2.1 m_waits m_kinds m_tape m_sort m_sortAt m_told o.2.2 m_was m_ends m_row) → Wx G 0 0 2 [(0, .ref a0), (1, .ref a5), (2, .int (zi v2))] [] (w_Mod cI cB a0 a1 a2 a3 a4 a5 a6 a7 a8 a9 a10 a11 a12 a13 a14 a15 m_stepsMade m_stepsMost m_taped m_reading m_statements m_telling m_hasImage m_isKeeping m_cursor m_rowMany m_lots m_refused m_bytes m_owner m_block m_written m_waits m_kinds m_tape m_sort m_sortAt m_told m_kept m_was m_ends m_row) := by
  intro fuel
  induction fuel with
  | zero =>
    intro v2 m_isKeeping m_cursor m_written m_kept o h
    exact absurd h (by simp [m_Mod_passes_written_2])
  | succ fuel ih =>
    intro v2 m_isKeeping m_cursor m_written m_kept o h hR
    rw [m_Mod_passes_written_2] at h
    refine x_iload_n (pc := 2) X d_Mod_passes_2 2 rfl rfl ?_
    refine x_aload_n (pc := 3) X d_Mod_passes_3 1 rfl rfl ?_
    refine x_alen (pc := 4) (M := 96) X d_Mod_passes_4 5 rfl rfl ?_
    refine x_icmpge (pc := 5) (tgt := 58) X d_Mod_passes_5 rfl h (fun h => ?_) (fun h => ?_)
    · skip
      cases h
      exact x_vret (pc := 58) X hR d_Mod_passes_58
    · skip
      refine x_aload_n (pc := 8) X d_Mod_passes_8 0 rfl rfl ?_
      refine x_get (pc := 9) X d_Mod_passes_9 0 rfl fl_Mod_258 rfl ?_
      obtain ⟨j1, hj6, h⟩ := jn_e h
      have J7 : ∀ (z2 : Int) (c3 : Int) (c4 : Int → Int) (c5 : Int → Int), j1 z2 c3 c4 c5 = some o → Wx G 0 0 42 [(0, .ref a0), (1, .ref a5), (2, .int (zi z2))] [] (w_Mod cI cB a0 a1 a2 a3 a4 a5 a6 a7 a8 a9 a10 a11 a12 a13 a14 a15 m_stepsMade m_stepsMost m_taped m_reading m_statements m_telling m_hasImage m_isKeeping c3 m_rowMany m_lots m_refused m_bytes m_owner m_block c4 m_waits m_kinds m_tape m_sort m_sortAt m_told c5 m_was m_ends m_row) := by
        intro z2 c3 c4 c5 h
        rw [hj6] at h
        (try dsimp only at h)
        refine x_aload_n (pc := 42) X d_Mod_passes_42 0 rfl rfl ?_
        refine x_dup (pc := 43) X d_Mod_passes_43 rfl ?_
        refine x_get (pc := 44) X d_Mod_passes_44 0 rfl fl_Mod_262 rfl ?_
        refine x_iconst (pc := 47) X d_Mod_passes_47  ?_
        refine x_iadd (pc := 48) X d_Mod_passes_48  ?_
        refine x_put (pc := 49) (w2 := (w_Mod cI cB a0 a1 a2 a3 a4 a5 a6 a7 a8 a9 a10 a11 a12 a13 a14 a15 m_stepsMade m_stepsMost m_taped m_reading m_statements m_telling m_hasImage m_isKeeping (c3 + 1) m_rowMany m_lots m_refused m_bytes m_owner m_block c4 m_waits m_kinds m_tape m_sort m_sortAt m_told c5 m_was m_ends m_row)) X d_Mod_passes_49 0 rfl (fp_Mod_262 _) (Nat.le_of_ble_eq_true rfl) rfl ?_
        refine x_iinc (pc := 52) (ls2 := [(2, .int (zi (z2 + 1))), (0, .ref a0), (1, .ref a5)]) X d_Mod_passes_52 2 (Nat.le_of_ble_eq_true rfl) rfl rfl ?_
        refine x_goto (pc := 55) (tgt := 2) X d_Mod_passes_55 rfl ?_
        refine x_ls (ls2 := [(0, .ref a0), (1, .ref a5), (2, .int (zi (z2 + 1)))]) [1, 2, 0] rfl ?_
        exact ih (z2 + 1) m_isKeeping (c3 + 1) c4 c5 o h hR
      clear hj6
      refine x_ifeq (pc := 12) (tgt := 30) X d_Mod_passes_12 rfl h (fun h => ?_) (fun h => ?_)
      · skip
        refine x_aload_n (pc := 30) X d_Mod_passes_30 1 rfl rfl ?_
        refine x_iload_n (pc := 31) X d_Mod_passes_31 2 rfl rfl ?_
        refine x_aload_n (pc := 32) X d_Mod_passes_32 0 rfl rfl ?_
        refine x_get (pc := 33) X d_Mod_passes_33 0 rfl fl_Mod_43 rfl ?_
        refine x_aload_n (pc := 36) X d_Mod_passes_36 0 rfl rfl ?_
        refine x_get (pc := 37) X d_Mod_passes_37 0 rfl fl_Mod_262 rfl ?_
        refine x_iald (pc := 40) X d_Mod_passes_40 12 rfl (Nat.le_of_ble_eq_true rfl) rfl h (fun h => ?_)
        refine x_iast (pc := 41) (w2 := (w_Mod cI cB a0 a1 a2 a3 a4 a5 a6 a7 a8 a9 a10 a11 a12 a13 a14 a15 m_stepsMade m_stepsMost m_taped m_reading m_statements m_telling m_hasImage m_isKeeping m_cursor m_rowMany m_lots m_refused m_bytes m_owner m_block (uf m_written v2 (m_kept m_cursor)) m_waits m_kinds m_tape m_sort m_sortAt m_told m_kept m_was m_ends m_row)) X d_Mod_passes_41 5 rfl (Nat.le_of_ble_eq_true rfl) rfl rfl h (fun h => ?_)
        exact J7 v2 m_cursor (uf m_written v2 (m_kept m_cursor)) m_kept h
      · skip
        refine x_aload_n (pc := 15) X d_Mod_passes_15 0 rfl rfl ?_
        refine x_get (pc := 16) X d_Mod_passes_16 0 rfl fl_Mod_43 rfl ?_
        refine x_aload_n (pc := 19) X d_Mod_passes_19 0 rfl rfl ?_
        refine x_get (pc := 20) X d_Mod_passes_20 0 rfl fl_Mod_262 rfl ?_
        refine x_aload_n (pc := 23) X d_Mod_passes_23 1 rfl rfl ?_
        refine x_iload_n (pc := 24) X d_Mod_passes_24 2 rfl rfl ?_
        refine x_iald (pc := 25) X d_Mod_passes_25 5 rfl (Nat.le_of_ble_eq_true rfl) rfl h (fun h => ?_)
        refine x_iast (pc := 26) (w2 := (w_Mod cI cB a0 a1 a2 a3 a4 a5 a6 a7 a8 a9 a10 a11 a12 a13 a14 a15 m_stepsMade m_stepsMost m_taped m_reading m_statements m_telling m_hasImage m_isKeeping m_cursor m_rowMany m_lots m_refused m_bytes m_owner m_block m_written m_waits m_kinds m_tape m_sort m_sortAt m_told (uf m_kept m_cursor (m_written v2)) m_was m_ends m_row)) X d_Mod_passes_26 12 rfl (Nat.le_of_ble_eq_true rfl) rfl rfl h (fun h => ?_)
        refine x_goto (pc := 27) (tgt := 42) X d_Mod_passes_27 rfl ?_
        exact J7 v2 m_cursor m_written (uf m_kept m_cursor (m_written v2)) h
set_option maxHeartbeats 4000000 in
set_option maxRecDepth 100000 in
theorem c_Mod_passes_written (l : Launch) (D : va_G) (cI cB : ClassId) (a0 a1 a2 a3 a4 a5 a6 a7 a8 a9 a10 a11 a12 a13 a14 a15 : Nat) (m_stepsMade : Int) (m_stepsMost : Int) (m_taped : Int) (m_reading : Int) (m_statements : Int) (m_telling : Int) (m_hasImage : Int) (m_isKeeping : Int) (m_cursor : Int) (m_rowMany : Int) (m_lots : Int) (m_refused : Int → Int) (m_bytes : Int → Int) (m_owner : Int → Int) (m_block : Int → Int) (m_written : Int → Int) (m_waits : Int → Int) (m_kinds : Int → Int) (m_tape : Int → Int) (m_sort : Int → Int) (m_sortAt : Int → Int) (m_told : Int → Int) (m_kept : Int → Int) (m_was : Int → Int) (m_ends : Int → Int) (m_row : Int → Int)  {o : Int × (Int → Int) × (Int → Int)} (h : m_Mod_passes_written m_isKeeping m_cursor m_written m_kept = some o) : Ct l D cI cB y_Mod_passes b_Mod_passes 3 none { frames := 0, cells := 0, slots := 0, locals := 0 } [.ref a0, .ref a5] (w_Mod cI cB a0 a1 a2 a3 a4 a5 a6 a7 a8 a9 a10 a11 a12 a13 a14 a15 m_stepsMade m_stepsMost m_taped m_reading m_statements m_telling m_hasImage m_isKeeping m_cursor m_rowMany m_lots m_refused m_bytes m_owner m_block m_written m_waits m_kinds m_tape m_sort m_sortAt m_told m_kept m_was m_ends m_row) (w_Mod cI cB a0 a1 a2 a3 a4 a5 a6 a7 a8 a9 a10 a11 a12 a13 a14 a15 m_stepsMade m_stepsMost m_taped m_reading m_statements m_telling m_hasImage m_isKeeping o.1 m_rowMany m_lots m_refused m_bytes m_owner m_block o.2.1 m_waits m_kinds m_tape m_sort m_sortAt m_told o.2.2 m_was m_ends m_row) none := by
  refine Ct.start (by decide) (Nat.le_of_ble_eq_true rfl) (fun G X hR => ?_)
  refine x_ls (ls2 := [(0, .ref a0), (1, .ref a5)]) [0, 1] rfl ?_
  unfold m_Mod_passes_written at h
  refine x_iconst (pc := 0) X d_Mod_passes_0  ?_
  refine x_istore_n (pc := 1) (ls2 := [(2, .int (zi 0)), (0, .ref a0), (1, .ref a5)]) X d_Mod_passes_1 rfl (Nat.le_of_ble_eq_true rfl) rfl ?_
  refine x_ls (ls2 := [(0, .ref a0), (1, .ref a5), (2, .int (zi 0))]) [1, 2, 0] rfl ?_
  exact l_Mod_passes_written_2 X 5000 0 m_isKeeping m_cursor m_written m_kept o h hR
def m_Mod_passes_waits_2 : Nat → Int → Int → Int → (Int → Int) → (Int → Int) → Option (Int × (Int → Int) × (Int → Int))
  | 0, _, _, _, _, _ => none
  | fuel + 1, v2, m_isKeeping, m_cursor, m_waits, m_kept =>
  clt v2 96 (jn (fun (z2 : Int) (c3 : Int) (c4 : Int → Int) (c5 : Int → Int) => m_Mod_passes_waits_2 fuel (z2 + 1) m_isKeeping (c3 + 1) c4 c5) (fun j1 => ceq m_isKeeping 0 (gd (zx m_cursor 1260) (gd (zx v2 96) (j1 v2 m_cursor (uf m_waits v2 (m_kept m_cursor)) m_kept))) (gd (zx v2 96) (gd (zx m_cursor 1260) (j1 v2 m_cursor m_waits (uf m_kept m_cursor (m_waits v2))))))) (some (m_cursor, m_waits, m_kept))
def m_Mod_passes_waits  (m_isKeeping : Int) (m_cursor : Int) (m_waits : Int → Int) (m_kept : Int → Int) : Option (Int × (Int → Int) × (Int → Int)) :=
  m_Mod_passes_waits_2 5000 0 m_isKeeping m_cursor m_waits m_kept
set_option maxHeartbeats 4000000 in
set_option maxRecDepth 100000 in
theorem l_Mod_passes_waits_2 {G : GT} {l : Launch} {D : va_G} {cI cB : ClassId} {a0 a1 a2 a3 a4 a5 a6 a7 a8 a9 a10 a11 a12 a13 a14 a15 : Nat} {m_stepsMade : Int} {m_stepsMost : Int} {m_taped : Int} {m_reading : Int} {m_statements : Int} {m_telling : Int} {m_hasImage : Int} {m_rowMany : Int} {m_lots : Int} {m_refused : Int → Int} {m_bytes : Int → Int} {m_owner : Int → Int} {m_block : Int → Int} {m_written : Int → Int} {m_kinds : Int → Int} {m_tape : Int → Int} {m_sort : Int → Int} {m_sortAt : Int → Int} {m_told : Int → Int} {m_was : Int → Int} {m_ends : Int → Int} {m_row : Int → Int} (X : Cx G l D cI cB b_Mod_passes y_Mod_passes.cls 3 { frames := 0, cells := 0, slots := 0, locals := 0 }) : ∀ (fuel : Nat) (v2 : Int) (m_isKeeping : Int) (m_cursor : Int) (m_waits : Int → Int) (m_kept : Int → Int) (o : Int × (Int → Int) × (Int → Int)), m_Mod_passes_waits_2 fuel v2 m_isKeeping m_cursor m_waits m_kept = some o → Rt G none none (w_Mod cI cB a0 a1 a2 a3 a4 a5 a6 a7 a8 a9 a10 a11 a12 a13 a14 a15 m_stepsMade m_stepsMost m_taped m_reading m_statements m_telling m_hasImage m_isKeeping o.1 m_rowMany m_lots m_refused m_bytes m_owner m_block m_written o.2.1 m_kinds m_tape m_sort m_sortAt m_told o.2.2 m_was m_ends m_row) → Wx G 0 0 2 [(0, .ref a0), (1, .ref a6), (2, .int (zi v2))] [] (w_Mod cI cB a0 a1 a2 a3 a4 a5 a6 a7 a8 a9 a10 a11 a12 a13 a14 a15 m_stepsMade m_stepsMost m_taped m_reading m_statements m_telling m_hasImage m_isKeeping m_cursor m_rowMany m_lots m_refused m_bytes m_owner m_block m_written m_waits m_kinds m_tape m_sort m_sortAt m_told m_kept m_was m_ends m_row) := by
  intro fuel
  induction fuel with
  | zero =>
    intro v2 m_isKeeping m_cursor m_waits m_kept o h
    exact absurd h (by simp [m_Mod_passes_waits_2])
  | succ fuel ih =>
    intro v2 m_isKeeping m_cursor m_waits m_kept o h hR
    rw [m_Mod_passes_waits_2] at h
    refine x_iload_n (pc := 2) X d_Mod_passes_2 2 rfl rfl ?_
    refine x_aload_n (pc := 3) X d_Mod_passes_3 1 rfl rfl ?_
    refine x_alen (pc := 4) (M := 96) X d_Mod_passes_4 6 rfl rfl ?_
    refine x_icmpge (pc := 5) (tgt := 58) X d_Mod_passes_5 rfl h (fun h => ?_) (fun h => ?_)
    · skip
      cases h
      exact x_vret (pc := 58) X hR d_Mod_passes_58
    · skip
      refine x_aload_n (pc := 8) X d_Mod_passes_8 0 rfl rfl ?_
      refine x_get (pc := 9) X d_Mod_passes_9 0 rfl fl_Mod_258 rfl ?_
      obtain ⟨j1, hj6, h⟩ := jn_e h
      have J7 : ∀ (z2 : Int) (c3 : Int) (c4 : Int → Int) (c5 : Int → Int), j1 z2 c3 c4 c5 = some o → Wx G 0 0 42 [(0, .ref a0), (1, .ref a6), (2, .int (zi z2))] [] (w_Mod cI cB a0 a1 a2 a3 a4 a5 a6 a7 a8 a9 a10 a11 a12 a13 a14 a15 m_stepsMade m_stepsMost m_taped m_reading m_statements m_telling m_hasImage m_isKeeping c3 m_rowMany m_lots m_refused m_bytes m_owner m_block m_written c4 m_kinds m_tape m_sort m_sortAt m_told c5 m_was m_ends m_row) := by
        intro z2 c3 c4 c5 h
        rw [hj6] at h
        (try dsimp only at h)
        refine x_aload_n (pc := 42) X d_Mod_passes_42 0 rfl rfl ?_
        refine x_dup (pc := 43) X d_Mod_passes_43 rfl ?_
        refine x_get (pc := 44) X d_Mod_passes_44 0 rfl fl_Mod_262 rfl ?_
        refine x_iconst (pc := 47) X d_Mod_passes_47  ?_
        refine x_iadd (pc := 48) X d_Mod_passes_48  ?_
        refine x_put (pc := 49) (w2 := (w_Mod cI cB a0 a1 a2 a3 a4 a5 a6 a7 a8 a9 a10 a11 a12 a13 a14 a15 m_stepsMade m_stepsMost m_taped m_reading m_statements m_telling m_hasImage m_isKeeping (c3 + 1) m_rowMany m_lots m_refused m_bytes m_owner m_block m_written c4 m_kinds m_tape m_sort m_sortAt m_told c5 m_was m_ends m_row)) X d_Mod_passes_49 0 rfl (fp_Mod_262 _) (Nat.le_of_ble_eq_true rfl) rfl ?_
        refine x_iinc (pc := 52) (ls2 := [(2, .int (zi (z2 + 1))), (0, .ref a0), (1, .ref a6)]) X d_Mod_passes_52 2 (Nat.le_of_ble_eq_true rfl) rfl rfl ?_
        refine x_goto (pc := 55) (tgt := 2) X d_Mod_passes_55 rfl ?_
        refine x_ls (ls2 := [(0, .ref a0), (1, .ref a6), (2, .int (zi (z2 + 1)))]) [1, 2, 0] rfl ?_
        exact ih (z2 + 1) m_isKeeping (c3 + 1) c4 c5 o h hR
      clear hj6
      refine x_ifeq (pc := 12) (tgt := 30) X d_Mod_passes_12 rfl h (fun h => ?_) (fun h => ?_)
      · skip
        refine x_aload_n (pc := 30) X d_Mod_passes_30 1 rfl rfl ?_
        refine x_iload_n (pc := 31) X d_Mod_passes_31 2 rfl rfl ?_
        refine x_aload_n (pc := 32) X d_Mod_passes_32 0 rfl rfl ?_
        refine x_get (pc := 33) X d_Mod_passes_33 0 rfl fl_Mod_43 rfl ?_
        refine x_aload_n (pc := 36) X d_Mod_passes_36 0 rfl rfl ?_
        refine x_get (pc := 37) X d_Mod_passes_37 0 rfl fl_Mod_262 rfl ?_
        refine x_iald (pc := 40) X d_Mod_passes_40 12 rfl (Nat.le_of_ble_eq_true rfl) rfl h (fun h => ?_)
        refine x_iast (pc := 41) (w2 := (w_Mod cI cB a0 a1 a2 a3 a4 a5 a6 a7 a8 a9 a10 a11 a12 a13 a14 a15 m_stepsMade m_stepsMost m_taped m_reading m_statements m_telling m_hasImage m_isKeeping m_cursor m_rowMany m_lots m_refused m_bytes m_owner m_block m_written (uf m_waits v2 (m_kept m_cursor)) m_kinds m_tape m_sort m_sortAt m_told m_kept m_was m_ends m_row)) X d_Mod_passes_41 6 rfl (Nat.le_of_ble_eq_true rfl) rfl rfl h (fun h => ?_)
        exact J7 v2 m_cursor (uf m_waits v2 (m_kept m_cursor)) m_kept h
      · skip
        refine x_aload_n (pc := 15) X d_Mod_passes_15 0 rfl rfl ?_
        refine x_get (pc := 16) X d_Mod_passes_16 0 rfl fl_Mod_43 rfl ?_
        refine x_aload_n (pc := 19) X d_Mod_passes_19 0 rfl rfl ?_
        refine x_get (pc := 20) X d_Mod_passes_20 0 rfl fl_Mod_262 rfl ?_
        refine x_aload_n (pc := 23) X d_Mod_passes_23 1 rfl rfl ?_
        refine x_iload_n (pc := 24) X d_Mod_passes_24 2 rfl rfl ?_
        refine x_iald (pc := 25) X d_Mod_passes_25 6 rfl (Nat.le_of_ble_eq_true rfl) rfl h (fun h => ?_)
        refine x_iast (pc := 26) (w2 := (w_Mod cI cB a0 a1 a2 a3 a4 a5 a6 a7 a8 a9 a10 a11 a12 a13 a14 a15 m_stepsMade m_stepsMost m_taped m_reading m_statements m_telling m_hasImage m_isKeeping m_cursor m_rowMany m_lots m_refused m_bytes m_owner m_block m_written m_waits m_kinds m_tape m_sort m_sortAt m_told (uf m_kept m_cursor (m_waits v2)) m_was m_ends m_row)) X d_Mod_passes_26 12 rfl (Nat.le_of_ble_eq_true rfl) rfl rfl h (fun h => ?_)
        refine x_goto (pc := 27) (tgt := 42) X d_Mod_passes_27 rfl ?_
        exact J7 v2 m_cursor m_waits (uf m_kept m_cursor (m_waits v2)) h
set_option maxHeartbeats 4000000 in
set_option maxRecDepth 100000 in
theorem c_Mod_passes_waits (l : Launch) (D : va_G) (cI cB : ClassId) (a0 a1 a2 a3 a4 a5 a6 a7 a8 a9 a10 a11 a12 a13 a14 a15 : Nat) (m_stepsMade : Int) (m_stepsMost : Int) (m_taped : Int) (m_reading : Int) (m_statements : Int) (m_telling : Int) (m_hasImage : Int) (m_isKeeping : Int) (m_cursor : Int) (m_rowMany : Int) (m_lots : Int) (m_refused : Int → Int) (m_bytes : Int → Int) (m_owner : Int → Int) (m_block : Int → Int) (m_written : Int → Int) (m_waits : Int → Int) (m_kinds : Int → Int) (m_tape : Int → Int) (m_sort : Int → Int) (m_sortAt : Int → Int) (m_told : Int → Int) (m_kept : Int → Int) (m_was : Int → Int) (m_ends : Int → Int) (m_row : Int → Int)  {o : Int × (Int → Int) × (Int → Int)} (h : m_Mod_passes_waits m_isKeeping m_cursor m_waits m_kept = some o) : Ct l D cI cB y_Mod_passes b_Mod_passes 3 none { frames := 0, cells := 0, slots := 0, locals := 0 } [.ref a0, .ref a6] (w_Mod cI cB a0 a1 a2 a3 a4 a5 a6 a7 a8 a9 a10 a11 a12 a13 a14 a15 m_stepsMade m_stepsMost m_taped m_reading m_statements m_telling m_hasImage m_isKeeping m_cursor m_rowMany m_lots m_refused m_bytes m_owner m_block m_written m_waits m_kinds m_tape m_sort m_sortAt m_told m_kept m_was m_ends m_row) (w_Mod cI cB a0 a1 a2 a3 a4 a5 a6 a7 a8 a9 a10 a11 a12 a13 a14 a15 m_stepsMade m_stepsMost m_taped m_reading m_statements m_telling m_hasImage m_isKeeping o.1 m_rowMany m_lots m_refused m_bytes m_owner m_block m_written o.2.1 m_kinds m_tape m_sort m_sortAt m_told o.2.2 m_was m_ends m_row) none := by
  refine Ct.start (by decide) (Nat.le_of_ble_eq_true rfl) (fun G X hR => ?_)
  refine x_ls (ls2 := [(0, .ref a0), (1, .ref a6)]) [0, 1] rfl ?_
  unfold m_Mod_passes_waits at h
  refine x_iconst (pc := 0) X d_Mod_passes_0  ?_
  refine x_istore_n (pc := 1) (ls2 := [(2, .int (zi 0)), (0, .ref a0), (1, .ref a6)]) X d_Mod_passes_1 rfl (Nat.le_of_ble_eq_true rfl) rfl ?_
  refine x_ls (ls2 := [(0, .ref a0), (1, .ref a6), (2, .int (zi 0))]) [1, 2, 0] rfl ?_
  exact l_Mod_passes_waits_2 X 5000 0 m_isKeeping m_cursor m_waits m_kept o h hR
def m_Mod_passes_kinds_2 : Nat → Int → Int → Int → (Int → Int) → (Int → Int) → Option (Int × (Int → Int) × (Int → Int))
  | 0, _, _, _, _, _ => none
  | fuel + 1, v2, m_isKeeping, m_cursor, m_kinds, m_kept =>
  clt v2 4 (jn (fun (z2 : Int) (c3 : Int) (c4 : Int → Int) (c5 : Int → Int) => m_Mod_passes_kinds_2 fuel (z2 + 1) m_isKeeping (c3 + 1) c4 c5) (fun j1 => ceq m_isKeeping 0 (gd (zx m_cursor 1260) (gd (zx v2 4) (j1 v2 m_cursor (uf m_kinds v2 (m_kept m_cursor)) m_kept))) (gd (zx v2 4) (gd (zx m_cursor 1260) (j1 v2 m_cursor m_kinds (uf m_kept m_cursor (m_kinds v2))))))) (some (m_cursor, m_kinds, m_kept))
def m_Mod_passes_kinds  (m_isKeeping : Int) (m_cursor : Int) (m_kinds : Int → Int) (m_kept : Int → Int) : Option (Int × (Int → Int) × (Int → Int)) :=
  m_Mod_passes_kinds_2 5000 0 m_isKeeping m_cursor m_kinds m_kept
set_option maxHeartbeats 4000000 in
set_option maxRecDepth 100000 in
theorem l_Mod_passes_kinds_2 {G : GT} {l : Launch} {D : va_G} {cI cB : ClassId} {a0 a1 a2 a3 a4 a5 a6 a7 a8 a9 a10 a11 a12 a13 a14 a15 : Nat} {m_stepsMade : Int} {m_stepsMost : Int} {m_taped : Int} {m_reading : Int} {m_statements : Int} {m_telling : Int} {m_hasImage : Int} {m_rowMany : Int} {m_lots : Int} {m_refused : Int → Int} {m_bytes : Int → Int} {m_owner : Int → Int} {m_block : Int → Int} {m_written : Int → Int} {m_waits : Int → Int} {m_tape : Int → Int} {m_sort : Int → Int} {m_sortAt : Int → Int} {m_told : Int → Int} {m_was : Int → Int} {m_ends : Int → Int} {m_row : Int → Int} (X : Cx G l D cI cB b_Mod_passes y_Mod_passes.cls 3 { frames := 0, cells := 0, slots := 0, locals := 0 }) : ∀ (fuel : Nat) (v2 : Int) (m_isKeeping : Int) (m_cursor : Int) (m_kinds : Int → Int) (m_kept : Int → Int) (o : Int × (Int → Int) × (Int → Int)), m_Mod_passes_kinds_2 fuel v2 m_isKeeping m_cursor m_kinds m_kept = some o → Rt G none none (w_Mod cI cB a0 a1 a2 a3 a4 a5 a6 a7 a8 a9 a10 a11 a12 a13 a14 a15 m_stepsMade m_stepsMost m_taped m_reading m_statements m_telling m_hasImage m_isKeeping o.1 m_rowMany m_lots m_refused m_bytes m_owner m_block m_written m_waits o.2.1 m_tape m_sort m_sortAt m_told o.2.2 m_was m_ends m_row) → Wx G 0 0 2 [(0, .ref a0), (1, .ref a7), (2, .int (zi v2))] [] (w_Mod cI cB a0 a1 a2 a3 a4 a5 a6 a7 a8 a9 a10 a11 a12 a13 a14 a15 m_stepsMade m_stepsMost m_taped m_reading m_statements m_telling m_hasImage m_isKeeping m_cursor m_rowMany m_lots m_refused m_bytes m_owner m_block m_written m_waits m_kinds m_tape m_sort m_sortAt m_told m_kept m_was m_ends m_row) := by
  intro fuel
  induction fuel with
  | zero =>
    intro v2 m_isKeeping m_cursor m_kinds m_kept o h
    exact absurd h (by simp [m_Mod_passes_kinds_2])
  | succ fuel ih =>
    intro v2 m_isKeeping m_cursor m_kinds m_kept o h hR
    rw [m_Mod_passes_kinds_2] at h
    refine x_iload_n (pc := 2) X d_Mod_passes_2 2 rfl rfl ?_
    refine x_aload_n (pc := 3) X d_Mod_passes_3 1 rfl rfl ?_
    refine x_alen (pc := 4) (M := 4) X d_Mod_passes_4 7 rfl rfl ?_
    refine x_icmpge (pc := 5) (tgt := 58) X d_Mod_passes_5 rfl h (fun h => ?_) (fun h => ?_)
    · skip
      cases h
      exact x_vret (pc := 58) X hR d_Mod_passes_58
    · skip
      refine x_aload_n (pc := 8) X d_Mod_passes_8 0 rfl rfl ?_
      refine x_get (pc := 9) X d_Mod_passes_9 0 rfl fl_Mod_258 rfl ?_
      obtain ⟨j1, hj6, h⟩ := jn_e h
      have J7 : ∀ (z2 : Int) (c3 : Int) (c4 : Int → Int) (c5 : Int → Int), j1 z2 c3 c4 c5 = some o → Wx G 0 0 42 [(0, .ref a0), (1, .ref a7), (2, .int (zi z2))] [] (w_Mod cI cB a0 a1 a2 a3 a4 a5 a6 a7 a8 a9 a10 a11 a12 a13 a14 a15 m_stepsMade m_stepsMost m_taped m_reading m_statements m_telling m_hasImage m_isKeeping c3 m_rowMany m_lots m_refused m_bytes m_owner m_block m_written m_waits c4 m_tape m_sort m_sortAt m_told c5 m_was m_ends m_row) := by
        intro z2 c3 c4 c5 h
        rw [hj6] at h
        (try dsimp only at h)
        refine x_aload_n (pc := 42) X d_Mod_passes_42 0 rfl rfl ?_
        refine x_dup (pc := 43) X d_Mod_passes_43 rfl ?_
        refine x_get (pc := 44) X d_Mod_passes_44 0 rfl fl_Mod_262 rfl ?_
        refine x_iconst (pc := 47) X d_Mod_passes_47  ?_
        refine x_iadd (pc := 48) X d_Mod_passes_48  ?_
        refine x_put (pc := 49) (w2 := (w_Mod cI cB a0 a1 a2 a3 a4 a5 a6 a7 a8 a9 a10 a11 a12 a13 a14 a15 m_stepsMade m_stepsMost m_taped m_reading m_statements m_telling m_hasImage m_isKeeping (c3 + 1) m_rowMany m_lots m_refused m_bytes m_owner m_block m_written m_waits c4 m_tape m_sort m_sortAt m_told c5 m_was m_ends m_row)) X d_Mod_passes_49 0 rfl (fp_Mod_262 _) (Nat.le_of_ble_eq_true rfl) rfl ?_
        refine x_iinc (pc := 52) (ls2 := [(2, .int (zi (z2 + 1))), (0, .ref a0), (1, .ref a7)]) X d_Mod_passes_52 2 (Nat.le_of_ble_eq_true rfl) rfl rfl ?_
        refine x_goto (pc := 55) (tgt := 2) X d_Mod_passes_55 rfl ?_
        refine x_ls (ls2 := [(0, .ref a0), (1, .ref a7), (2, .int (zi (z2 + 1)))]) [1, 2, 0] rfl ?_
        exact ih (z2 + 1) m_isKeeping (c3 + 1) c4 c5 o h hR
      clear hj6
      refine x_ifeq (pc := 12) (tgt := 30) X d_Mod_passes_12 rfl h (fun h => ?_) (fun h => ?_)
      · skip
        refine x_aload_n (pc := 30) X d_Mod_passes_30 1 rfl rfl ?_
        refine x_iload_n (pc := 31) X d_Mod_passes_31 2 rfl rfl ?_
        refine x_aload_n (pc := 32) X d_Mod_passes_32 0 rfl rfl ?_
        refine x_get (pc := 33) X d_Mod_passes_33 0 rfl fl_Mod_43 rfl ?_
        refine x_aload_n (pc := 36) X d_Mod_passes_36 0 rfl rfl ?_
        refine x_get (pc := 37) X d_Mod_passes_37 0 rfl fl_Mod_262 rfl ?_
        refine x_iald (pc := 40) X d_Mod_passes_40 12 rfl (Nat.le_of_ble_eq_true rfl) rfl h (fun h => ?_)
        refine x_iast (pc := 41) (w2 := (w_Mod cI cB a0 a1 a2 a3 a4 a5 a6 a7 a8 a9 a10 a11 a12 a13 a14 a15 m_stepsMade m_stepsMost m_taped m_reading m_statements m_telling m_hasImage m_isKeeping m_cursor m_rowMany m_lots m_refused m_bytes m_owner m_block m_written m_waits (uf m_kinds v2 (m_kept m_cursor)) m_tape m_sort m_sortAt m_told m_kept m_was m_ends m_row)) X d_Mod_passes_41 7 rfl (Nat.le_of_ble_eq_true rfl) rfl rfl h (fun h => ?_)
        exact J7 v2 m_cursor (uf m_kinds v2 (m_kept m_cursor)) m_kept h
      · skip
        refine x_aload_n (pc := 15) X d_Mod_passes_15 0 rfl rfl ?_
        refine x_get (pc := 16) X d_Mod_passes_16 0 rfl fl_Mod_43 rfl ?_
        refine x_aload_n (pc := 19) X d_Mod_passes_19 0 rfl rfl ?_
        refine x_get (pc := 20) X d_Mod_passes_20 0 rfl fl_Mod_262 rfl ?_
        refine x_aload_n (pc := 23) X d_Mod_passes_23 1 rfl rfl ?_
        refine x_iload_n (pc := 24) X d_Mod_passes_24 2 rfl rfl ?_
        refine x_iald (pc := 25) X d_Mod_passes_25 7 rfl (Nat.le_of_ble_eq_true rfl) rfl h (fun h => ?_)
        refine x_iast (pc := 26) (w2 := (w_Mod cI cB a0 a1 a2 a3 a4 a5 a6 a7 a8 a9 a10 a11 a12 a13 a14 a15 m_stepsMade m_stepsMost m_taped m_reading m_statements m_telling m_hasImage m_isKeeping m_cursor m_rowMany m_lots m_refused m_bytes m_owner m_block m_written m_waits m_kinds m_tape m_sort m_sortAt m_told (uf m_kept m_cursor (m_kinds v2)) m_was m_ends m_row)) X d_Mod_passes_26 12 rfl (Nat.le_of_ble_eq_true rfl) rfl rfl h (fun h => ?_)
        refine x_goto (pc := 27) (tgt := 42) X d_Mod_passes_27 rfl ?_
        exact J7 v2 m_cursor m_kinds (uf m_kept m_cursor (m_kinds v2)) h
set_option maxHeartbeats 4000000 in
set_option maxRecDepth 100000 in
theorem c_Mod_passes_kinds (l : Launch) (D : va_G) (cI cB : ClassId) (a0 a1 a2 a3 a4 a5 a6 a7 a8 a9 a10 a11 a12 a13 a14 a15 : Nat) (m_stepsMade : Int) (m_stepsMost : Int) (m_taped : Int) (m_reading : Int) (m_statements : Int) (m_telling : Int) (m_hasImage : Int) (m_isKeeping : Int) (m_cursor : Int) (m_rowMany : Int) (m_lots : Int) (m_refused : Int → Int) (m_bytes : Int → Int) (m_owner : Int → Int) (m_block : Int → Int) (m_written : Int → Int) (m_waits : Int → Int) (m_kinds : Int → Int) (m_tape : Int → Int) (m_sort : Int → Int) (m_sortAt : Int → Int) (m_told : Int → Int) (m_kept : Int → Int) (m_was : Int → Int) (m_ends : Int → Int) (m_row : Int → Int)  {o : Int × (Int → Int) × (Int → Int)} (h : m_Mod_passes_kinds m_isKeeping m_cursor m_kinds m_kept = some o) : Ct l D cI cB y_Mod_passes b_Mod_passes 3 none { frames := 0, cells := 0, slots := 0, locals := 0 } [.ref a0, .ref a7] (w_Mod cI cB a0 a1 a2 a3 a4 a5 a6 a7 a8 a9 a10 a11 a12 a13 a14 a15 m_stepsMade m_stepsMost m_taped m_reading m_statements m_telling m_hasImage m_isKeeping m_cursor m_rowMany m_lots m_refused m_bytes m_owner m_block m_written m_waits m_kinds m_tape m_sort m_sortAt m_told m_kept m_was m_ends m_row) (w_Mod cI cB a0 a1 a2 a3 a4 a5 a6 a7 a8 a9 a10 a11 a12 a13 a14 a15 m_stepsMade m_stepsMost m_taped m_reading m_statements m_telling m_hasImage m_isKeeping o.1 m_rowMany m_lots m_refused m_bytes m_owner m_block m_written m_waits o.2.1 m_tape m_sort m_sortAt m_told o.2.2 m_was m_ends m_row) none := by
  refine Ct.start (by decide) (Nat.le_of_ble_eq_true rfl) (fun G X hR => ?_)
  refine x_ls (ls2 := [(0, .ref a0), (1, .ref a7)]) [0, 1] rfl ?_
  unfold m_Mod_passes_kinds at h
  refine x_iconst (pc := 0) X d_Mod_passes_0  ?_
  refine x_istore_n (pc := 1) (ls2 := [(2, .int (zi 0)), (0, .ref a0), (1, .ref a7)]) X d_Mod_passes_1 rfl (Nat.le_of_ble_eq_true rfl) rfl ?_
  refine x_ls (ls2 := [(0, .ref a0), (1, .ref a7), (2, .int (zi 0))]) [1, 2, 0] rfl ?_
  exact l_Mod_passes_kinds_2 X 5000 0 m_isKeeping m_cursor m_kinds m_kept o h hR
theorem d_Mod_passesAll_0 : decode b_Mod_passesAll 0 = .ok (.aload_n 0, 1) := by decide +kernel
theorem d_Mod_passesAll_1 : decode b_Mod_passesAll 1 = .ok (.sipush 420, 3) := by decide +kernel
theorem d_Mod_passesAll_4 : decode b_Mod_passesAll 4 = .ok (.iload_n 1, 1) := by decide +kernel
theorem d_Mod_passesAll_5 : decode b_Mod_passesAll 5 = .ok (.imul, 1) := by decide +kernel
theorem d_Mod_passesAll_6 : decode b_Mod_passesAll 6 = .ok (.putfield 262, 3) := by decide +kernel
theorem d_Mod_passesAll_9 : decode b_Mod_passesAll 9 = .ok (.aload_n 0, 1) := by decide +kernel
theorem d_Mod_passesAll_10 : decode b_Mod_passesAll 10 = .ok (.iload_n 2, 1) := by decide +kernel
theorem d_Mod_passesAll_11 : decode b_Mod_passesAll 11 = .ok (.putfield 258, 3) := by decide +kernel
theorem d_Mod_passesAll_14 : decode b_Mod_passesAll 14 = .ok (.aload_n 0, 1) := by decide +kernel
theorem d_Mod_passesAll_15 : decode b_Mod_passesAll 15 = .ok (.aload_n 0, 1) := by decide +kernel
theorem d_Mod_passesAll_16 : decode b_Mod_passesAll 16 = .ok (.getfield 13, 3) := by decide +kernel
theorem d_Mod_passesAll_19 : decode b_Mod_passesAll 19 = .ok (.invokevirtual 265, 3) := by decide +kernel
theorem d_Mod_passesAll_22 : decode b_Mod_passesAll 22 = .ok (.aload_n 0, 1) := by decide +kernel
theorem d_Mod_passesAll_23 : decode b_Mod_passesAll 23 = .ok (.aload_n 0, 1) := by decide +kernel
theorem d_Mod_passesAll_24 : decode b_Mod_passesAll 24 = .ok (.getfield 16, 3) := by decide +kernel
theorem d_Mod_passesAll_27 : decode b_Mod_passesAll 27 = .ok (.invokevirtual 265, 3) := by decide +kernel
theorem d_Mod_passesAll_30 : decode b_Mod_passesAll 30 = .ok (.aload_n 0, 1) := by decide +kernel
theorem d_Mod_passesAll_31 : decode b_Mod_passesAll 31 = .ok (.aload_n 0, 1) := by decide +kernel
theorem d_Mod_passesAll_32 : decode b_Mod_passesAll 32 = .ok (.getfield 19, 3) := by decide +kernel
theorem d_Mod_passesAll_35 : decode b_Mod_passesAll 35 = .ok (.invokevirtual 265, 3) := by decide +kernel
theorem d_Mod_passesAll_38 : decode b_Mod_passesAll 38 = .ok (.aload_n 0, 1) := by decide +kernel
theorem d_Mod_passesAll_39 : decode b_Mod_passesAll 39 = .ok (.aload_n 0, 1) := by decide +kernel
theorem d_Mod_passesAll_40 : decode b_Mod_passesAll 40 = .ok (.getfield 22, 3) := by decide +kernel
theorem d_Mod_passesAll_43 : decode b_Mod_passesAll 43 = .ok (.invokevirtual 265, 3) := by decide +kernel
theorem d_Mod_passesAll_46 : decode b_Mod_passesAll 46 = .ok (.aload_n 0, 1) := by decide +kernel
theorem d_Mod_passesAll_47 : decode b_Mod_passesAll 47 = .ok (.aload_n 0, 1) := by decide +kernel
theorem d_Mod_passesAll_48 : decode b_Mod_passesAll 48 = .ok (.getfield 25, 3) := by decide +kernel
theorem d_Mod_passesAll_51 : decode b_Mod_passesAll 51 = .ok (.invokevirtual 265, 3) := by decide +kernel
theorem d_Mod_passesAll_54 : decode b_Mod_passesAll 54 = .ok (.aload_n 0, 1) := by decide +kernel
theorem d_Mod_passesAll_55 : decode b_Mod_passesAll 55 = .ok (.aload_n 0, 1) := by decide +kernel
theorem d_Mod_passesAll_56 : decode b_Mod_passesAll 56 = .ok (.getfield 28, 3) := by decide +kernel
theorem d_Mod_passesAll_59 : decode b_Mod_passesAll 59 = .ok (.invokevirtual 265, 3) := by decide +kernel
theorem d_Mod_passesAll_62 : decode b_Mod_passesAll 62 = .ok (.return_, 1) := by decide +kernel
def m_Mod_passesAll (x1 : Int) (x2 : Int) (m_isKeeping : Int) (m_cursor : Int) (m_bytes : Int → Int) (m_owner : Int → Int) (m_block : Int → Int) (m_written : Int → Int) (m_waits : Int → Int) (m_kinds : Int → Int) (m_kept : Int → Int) : Option (Int × Int × (Int → Int) × (Int → Int) × (Int → Int) × (Int → Int) × (Int → Int) × (Int → Int) × (Int → Int)) :=
  gd (zb x2) (bnd (m_Mod_passes_bytes x2 (420 * x1) m_bytes m_kept) (fun r1 => bnd (m_Mod_passes_owner x2 r1.1 m_owner r1.2.2) (fun r3 => bnd (m_Mod_passes_block x2 r3.1 m_block r3.2.2) (fun r5 => bnd (m_Mod_passes_written x2 r5.1 m_written r5.2.2) (fun r7 => bnd (m_Mod_passes_waits x2 r7.1 m_waits r7.2.2) (fun r9 => bnd (m_Mod_passes_kinds x2 r9.1 m_kinds r9.2.2) (fun r11 => some (x2, r11.1, r1.2.1, r3.2.1, r5.2.1, r7.2.1, r9.2.1, r11.2.1, r11.2.2))))))))
set_option maxHeartbeats 4000000 in
set_option maxRecDepth 100000 in
theorem c_Mod_passesAll (l : Launch) (D : va_G) (cI cB : ClassId) (a0 a1 a2 a3 a4 a5 a6 a7 a8 a9 a10 a11 a12 a13 a14 a15 : Nat) (m_stepsMade : Int) (m_stepsMost : Int) (m_taped : Int) (m_reading : Int) (m_statements : Int) (m_telling : Int) (m_hasImage : Int) (m_isKeeping : Int) (m_cursor : Int) (m_rowMany : Int) (m_lots : Int) (m_refused : Int → Int) (m_bytes : Int → Int) (m_owner : Int → Int) (m_block : Int → Int) (m_written : Int → Int) (m_waits : Int → Int) (m_kinds : Int → Int) (m_tape : Int → Int) (m_sort : Int → Int) (m_sortAt : Int → Int) (m_told : Int → Int) (m_kept : Int → Int) (m_was : Int → Int) (m_ends : Int → Int) (m_row : Int → Int) (x1 : Int) (x2 : Int) {o : Int × Int × (Int → Int) × (Int → Int) × (Int → Int) × (Int → Int) × (Int → Int) × (Int → Int) × (Int → Int)} (h : m_Mod_passesAll x1 x2 m_isKeeping m_cursor m_bytes m_owner m_block m_written m_waits m_kinds m_kept = some o) : Ct l D cI cB y_Mod_passesAll b_Mod_passesAll 3 none { frames := 1, cells := 0, slots := 0, locals := 22 } [.ref a0, .int (zi x1), .int (zi x2)] (w_Mod cI cB a0 a1 a2 a3 a4 a5 a6 a7 a8 a9 a10 a11 a12 a13 a14 a15 m_stepsMade m_stepsMost m_taped m_reading m_statements m_telling m_hasImage m_isKeeping m_cursor m_rowMany m_lots m_refused m_bytes m_owner m_block m_written m_waits m_kinds m_tape m_sort m_sortAt m_told m_kept m_was m_ends m_row) (w_Mod cI cB a0 a1 a2 a3 a4 a5 a6 a7 a8 a9 a10 a11 a12 a13 a14 a15 m_stepsMade m_stepsMost m_taped m_reading m_statements m_telling m_hasImage o.1 o.2.1 m_rowMany m_lots m_refused o.2.2.1 o.2.2.2.1 o.2.2.2.2.1 o.2.2.2.2.2.1 o.2.2.2.2.2.2.1 o.2.2.2.2.2.2.2.1 m_tape m_sort m_sortAt m_told o.2.2.2.2.2.2.2.2 m_was m_ends m_row) none := by
  refine Ct.start (by decide) (Nat.le_of_ble_eq_true rfl) (fun G X hR => ?_)
  refine x_ls (ls2 := [(0, .ref a0), (1, .int (zi x1)), (2, .int (zi x2))]) [0, 1, 2] rfl ?_
  unfold m_Mod_passesAll at h
  refine x_aload_n (pc := 0) X d_Mod_passesAll_0 0 rfl rfl ?_
  refine x_sipush (pc := 1) (v := 420) X d_Mod_passesAll_1 (by decide +kernel) ?_
  refine x_iload_n (pc := 4) X d_Mod_passesAll_4 1 rfl rfl ?_
  refine x_imul (pc := 5) X d_Mod_passesAll_5  ?_
  refine x_put (pc := 6) (w2 := (w_Mod cI cB a0 a1 a2 a3 a4 a5 a6 a7 a8 a9 a10 a11 a12 a13 a14 a15 m_stepsMade m_stepsMost m_taped m_reading m_statements m_telling m_hasImage m_isKeeping (420 * x1) m_rowMany m_lots m_refused m_bytes m_owner m_block m_written m_waits m_kinds m_tape m_sort m_sortAt m_told m_kept m_was m_ends m_row)) X d_Mod_passesAll_6 0 rfl (fp_Mod_262 _) (Nat.le_of_ble_eq_true rfl) rfl ?_
  refine x_aload_n (pc := 9) X d_Mod_passesAll_9 0 rfl rfl ?_
  refine x_iload_n (pc := 10) X d_Mod_passesAll_10 2 rfl rfl ?_
  obtain ⟨hz0, h⟩ := gd_e h
  refine x_put (pc := 11) (w2 := (w_Mod cI cB a0 a1 a2 a3 a4 a5 a6 a7 a8 a9 a10 a11 a12 a13 a14 a15 m_stepsMade m_stepsMost m_taped m_reading m_statements m_telling m_hasImage x2 (420 * x1) m_rowMany m_lots m_refused m_bytes m_owner m_block m_written m_waits m_kinds m_tape m_sort m_sortAt m_told m_kept m_was m_ends m_row)) X d_Mod_passesAll_11 0 rfl (fp_Mod_258 _ hz0) (Nat.le_of_ble_eq_true rfl) rfl ?_
  refine x_aload_n (pc := 14) X d_Mod_passesAll_14 0 rfl rfl ?_
  refine x_aload_n (pc := 15) X d_Mod_passesAll_15 0 rfl rfl ?_
  refine x_get (pc := 16) X d_Mod_passesAll_16 0 rfl fl_Mod_13 rfl ?_
  obtain ⟨r1, h2, h⟩ := bnd_e h
  refine x_callV (pc := 19) (As := [.ref a2]) (rest := []) (w2 := (w_Mod cI cB a0 a1 a2 a3 a4 a5 a6 a7 a8 a9 a10 a11 a12 a13 a14 a15 m_stepsMade m_stepsMost m_taped m_reading m_statements m_telling m_hasImage x2 r1.1 m_rowMany m_lots m_refused r1.2.1 m_owner m_block m_written m_waits m_kinds m_tape m_sort m_sortAt m_told r1.2.2 m_was m_ends m_row)) X d_Mod_passesAll_19 lk_Mod_265 mv_Mod_passes (c_Mod_passes_bytes l D cI cB a0 a1 a2 a3 a4 a5 a6 a7 a8 a9 a10 a11 a12 a13 a14 a15 m_stepsMade m_stepsMost m_taped m_reading m_statements m_telling m_hasImage x2 (420 * x1) m_rowMany m_lots m_refused m_bytes m_owner m_block m_written m_waits m_kinds m_tape m_sort m_sortAt m_told m_kept m_was m_ends m_row h2) ⟨(Nat.le_of_ble_eq_true rfl), (Nat.le_of_ble_eq_true rfl), (Nat.le_of_ble_eq_true rfl), (Nat.le_of_ble_eq_true rfl)⟩ 0 rfl rfl [0, 1, 2, 3, 4, 5, 6, 7, 8, 9, 10, 11, 12, 13, 14, 15] rfl rfl rfl (Up.of [] [] rfl rfl rfl 16 rfl (by decide +kernel)) rfl rfl (Nat.le_of_ble_eq_true rfl) ?_
  refine x_aload_n (pc := 22) X d_Mod_passesAll_22 0 rfl rfl ?_
  refine x_aload_n (pc := 23) X d_Mod_passesAll_23 0 rfl rfl ?_
  refine x_get (pc := 24) X d_Mod_passesAll_24 0 rfl fl_Mod_16 rfl ?_
  obtain ⟨r3, h4, h⟩ := bnd_e h
  refine x_callV (pc := 27) (As := [.ref a3]) (rest := []) (w2 := (w_Mod cI cB a0 a1 a2 a3 a4 a5 a6 a7 a8 a9 a10 a11 a12 a13 a14 a15 m_stepsMade m_stepsMost m_taped m_reading m_statements m_telling m_hasImage x2 r3.1 m_rowMany m_lots m_refused r1.2.1 r3.2.1 m_block m_written m_waits m_kinds m_tape m_sort m_sortAt m_told r3.2.2 m_was m_ends m_row)) X d_Mod_passesAll_27 lk_Mod_265 mv_Mod_passes (c_Mod_passes_owner l D cI cB a0 a1 a2 a3 a4 a5 a6 a7 a8 a9 a10 a11 a12 a13 a14 a15 m_stepsMade m_stepsMost m_taped m_reading m_statements m_telling m_hasImage x2 r1.1 m_rowMany m_lots m_refused r1.2.1 m_owner m_block m_written m_waits m_kinds m_tape m_sort m_sortAt m_told r1.2.2 m_was m_ends m_row h4) ⟨(Nat.le_of_ble_eq_true rfl), (Nat.le_of_ble_eq_true rfl), (Nat.le_of_ble_eq_true rfl), (Nat.le_of_ble_eq_true rfl)⟩ 0 rfl rfl [0, 1, 2, 3, 4, 5, 6, 7, 8, 9, 10, 11, 12, 13, 14, 15] rfl rfl rfl (Up.of [] [] rfl rfl rfl 16 rfl (by decide +kernel)) rfl rfl (Nat.le_of_ble_eq_true rfl) ?_
  refine x_aload_n (pc := 30) X d_Mod_passesAll_30 0 rfl rfl ?_
  refine x_aload_n (pc := 31) X d_Mod_passesAll_31 0 rfl rfl ?_
  refine x_get (pc := 32) X d_Mod_passesAll_32 0 rfl fl_Mod_19 rfl ?_
  obtain ⟨r5, h6, h⟩ := bnd_e h
  refine x_callV (pc := 35) (As := [.ref a4]) (rest := []) (w2 := (w_Mod cI cB a0 a1 a2 a3 a4 a5 a6 a7 a8 a9 a10 a11 a12 a13 a14 a15 m_stepsMade m_stepsMost m_taped m_reading m_statements m_telling m_hasImage x2 r5.1 m_rowMany m_lots m_refused r1.2.1 r3.2.1 r5.2.1 m_written m_waits m_kinds m_tape m_sort m_sortAt m_told r5.2.2 m_was m_ends m_row)) X d_Mod_passesAll_35 lk_Mod_265 mv_Mod_passes (c_Mod_passes_block l D cI cB a0 a1 a2 a3 a4 a5 a6 a7 a8 a9 a10 a11 a12 a13 a14 a15 m_stepsMade m_stepsMost m_taped m_reading m_statements m_telling m_hasImage x2 r3.1 m_rowMany m_lots m_refused r1.2.1 r3.2.1 m_block m_written m_waits m_kinds m_tape m_sort m_sortAt m_told r3.2.2 m_was m_ends m_row h6) ⟨(Nat.le_of_ble_eq_true rfl), (Nat.le_of_ble_eq_true rfl), (Nat.le_of_ble_eq_true rfl), (Nat.le_of_ble_eq_true rfl)⟩ 0 rfl rfl [0, 1, 2, 3, 4, 5, 6, 7, 8, 9, 10, 11, 12, 13, 14, 15] rfl rfl rfl (Up.of [] [] rfl rfl rfl 16 rfl (by decide +kernel)) rfl rfl (Nat.le_of_ble_eq_true rfl) ?_
  refine x_aload_n (pc := 38) X d_Mod_passesAll_38 0 rfl rfl ?_
  refine x_aload_n (pc := 39) X d_Mod_passesAll_39 0 rfl rfl ?_
  refine x_get (pc := 40) X d_Mod_passesAll_40 0 rfl fl_Mod_22 rfl ?_
  obtain ⟨r7, h8, h⟩ := bnd_e h
  refine x_callV (pc := 43) (As := [.ref a5]) (rest := []) (w2 := (w_Mod cI cB a0 a1 a2 a3 a4 a5 a6 a7 a8 a9 a10 a11 a12 a13 a14 a15 m_stepsMade m_stepsMost m_taped m_reading m_statements m_telling m_hasImage x2 r7.1 m_rowMany m_lots m_refused r1.2.1 r3.2.1 r5.2.1 r7.2.1 m_waits m_kinds m_tape m_sort m_sortAt m_told r7.2.2 m_was m_ends m_row)) X d_Mod_passesAll_43 lk_Mod_265 mv_Mod_passes (c_Mod_passes_written l D cI cB a0 a1 a2 a3 a4 a5 a6 a7 a8 a9 a10 a11 a12 a13 a14 a15 m_stepsMade m_stepsMost m_taped m_reading m_statements m_telling m_hasImage x2 r5.1 m_rowMany m_lots m_refused r1.2.1 r3.2.1 r5.2.1 m_written m_waits m_kinds m_tape m_sort m_sortAt m_told r5.2.2 m_was m_ends m_row h8) ⟨(Nat.le_of_ble_eq_true rfl), (Nat.le_of_ble_eq_true rfl), (Nat.le_of_ble_eq_true rfl), (Nat.le_of_ble_eq_true rfl)⟩ 0 rfl rfl [0, 1, 2, 3, 4, 5, 6, 7, 8, 9, 10, 11, 12, 13, 14, 15] rfl rfl rfl (Up.of [] [] rfl rfl rfl 16 rfl (by decide +kernel)) rfl rfl (Nat.le_of_ble_eq_true rfl) ?_
  refine x_aload_n (pc := 46) X d_Mod_passesAll_46 0 rfl rfl ?_
  refine x_aload_n (pc := 47) X d_Mod_passesAll_47 0 rfl rfl ?_
  refine x_get (pc := 48) X d_Mod_passesAll_48 0 rfl fl_Mod_25 rfl ?_
  obtain ⟨r9, h10, h⟩ := bnd_e h
  refine x_callV (pc := 51) (As := [.ref a6]) (rest := []) (w2 := (w_Mod cI cB a0 a1 a2 a3 a4 a5 a6 a7 a8 a9 a10 a11 a12 a13 a14 a15 m_stepsMade m_stepsMost m_taped m_reading m_statements m_telling m_hasImage x2 r9.1 m_rowMany m_lots m_refused r1.2.1 r3.2.1 r5.2.1 r7.2.1 r9.2.1 m_kinds m_tape m_sort m_sortAt m_told r9.2.2 m_was m_ends m_row)) X d_Mod_passesAll_51 lk_Mod_265 mv_Mod_passes (c_Mod_passes_waits l D cI cB a0 a1 a2 a3 a4 a5 a6 a7 a8 a9 a10 a11 a12 a13 a14 a15 m_stepsMade m_stepsMost m_taped m_reading m_statements m_telling m_hasImage x2 r7.1 m_rowMany m_lots m_refused r1.2.1 r3.2.1 r5.2.1 r7.2.1 m_waits m_kinds m_tape m_sort m_sortAt m_told r7.2.2 m_was m_ends m_row h10) ⟨(Nat.le_of_ble_eq_true rfl), (Nat.le_of_ble_eq_true rfl), (Nat.le_of_ble_eq_true rfl), (Nat.le_of_ble_eq_true rfl)⟩ 0 rfl rfl [0, 1, 2, 3, 4, 5, 6, 7, 8, 9, 10, 11, 12, 13, 14, 15] rfl rfl rfl (Up.of [] [] rfl rfl rfl 16 rfl (by decide +kernel)) rfl rfl (Nat.le_of_ble_eq_true rfl) ?_
  refine x_aload_n (pc := 54) X d_Mod_passesAll_54 0 rfl rfl ?_
  refine x_aload_n (pc := 55) X d_Mod_passesAll_55 0 rfl rfl ?_
  refine x_get (pc := 56) X d_Mod_passesAll_56 0 rfl fl_Mod_28 rfl ?_
  obtain ⟨r11, h12, h⟩ := bnd_e h
  refine x_callV (pc := 59) (As := [.ref a7]) (rest := []) (w2 := (w_Mod cI cB a0 a1 a2 a3 a4 a5 a6 a7 a8 a9 a10 a11 a12 a13 a14 a15 m_stepsMade m_stepsMost m_taped m_reading m_statements m_telling m_hasImage x2 r11.1 m_rowMany m_lots m_refused r1.2.1 r3.2.1 r5.2.1 r7.2.1 r9.2.1 r11.2.1 m_tape m_sort m_sortAt m_told r11.2.2 m_was m_ends m_row)) X d_Mod_passesAll_59 lk_Mod_265 mv_Mod_passes (c_Mod_passes_kinds l D cI cB a0 a1 a2 a3 a4 a5 a6 a7 a8 a9 a10 a11 a12 a13 a14 a15 m_stepsMade m_stepsMost m_taped m_reading m_statements m_telling m_hasImage x2 r9.1 m_rowMany m_lots m_refused r1.2.1 r3.2.1 r5.2.1 r7.2.1 r9.2.1 m_kinds m_tape m_sort m_sortAt m_told r9.2.2 m_was m_ends m_row h12) ⟨(Nat.le_of_ble_eq_true rfl), (Nat.le_of_ble_eq_true rfl), (Nat.le_of_ble_eq_true rfl), (Nat.le_of_ble_eq_true rfl)⟩ 0 rfl rfl [0, 1, 2, 3, 4, 5, 6, 7, 8, 9, 10, 11, 12, 13, 14, 15] rfl rfl rfl (Up.of [] [] rfl rfl rfl 16 rfl (by decide +kernel)) rfl rfl (Nat.le_of_ble_eq_true rfl) ?_
  cases h
  exact x_vret (pc := 62) X hR d_Mod_passesAll_62
theorem d_Mod_isWaiting_0 : decode b_Mod_isWaiting 0 = .ok (.aload_n 0, 1) := by decide +kernel
theorem d_Mod_isWaiting_1 : decode b_Mod_isWaiting 1 = .ok (.getfield 25, 3) := by decide +kernel
theorem d_Mod_isWaiting_4 : decode b_Mod_isWaiting 4 = .ok (.iload_n 1, 1) := by decide +kernel
theorem d_Mod_isWaiting_5 : decode b_Mod_isWaiting 5 = .ok (.iaload, 1) := by decide +kernel
theorem d_Mod_isWaiting_6 : decode b_Mod_isWaiting 6 = .ok (.ifCond .lt 7, 3) := by decide +kernel
theorem d_Mod_isWaiting_9 : decode b_Mod_isWaiting 9 = .ok (.iconst 1, 1) := by decide +kernel
theorem d_Mod_isWaiting_10 : decode b_Mod_isWaiting 10 = .ok (.goto 4, 3) := by decide +kernel
theorem d_Mod_isWaiting_13 : decode b_Mod_isWaiting 13 = .ok (.iconst 0, 1) := by decide +kernel
theorem d_Mod_isWaiting_14 : decode b_Mod_isWaiting 14 = .ok (.ireturn, 1) := by decide +kernel
def m_Mod_isWaiting (x1 : Int) (m_waits : Int → Int) : Option (Int) :=
  gd (zx x1 96) (clt (m_waits x1) 0 (some (0)) (some (1)))
set_option maxHeartbeats 4000000 in
set_option maxRecDepth 100000 in
theorem c_Mod_isWaiting (l : Launch) (D : va_G) (cI cB : ClassId) (a0 a1 a2 a3 a4 a5 a6 a7 a8 a9 a10 a11 a12 a13 a14 a15 : Nat) (m_stepsMade : Int) (m_stepsMost : Int) (m_taped : Int) (m_reading : Int) (m_statements : Int) (m_telling : Int) (m_hasImage : Int) (m_isKeeping : Int) (m_cursor : Int) (m_rowMany : Int) (m_lots : Int) (m_refused : Int → Int) (m_bytes : Int → Int) (m_owner : Int → Int) (m_block : Int → Int) (m_written : Int → Int) (m_waits : Int → Int) (m_kinds : Int → Int) (m_tape : Int → Int) (m_sort : Int → Int) (m_sortAt : Int → Int) (m_told : Int → Int) (m_kept : Int → Int) (m_was : Int → Int) (m_ends : Int → Int) (m_row : Int → Int) (x1 : Int) {o : Int} (h : m_Mod_isWaiting x1 m_waits = some o) : Ct l D cI cB y_Mod_isWaiting b_Mod_isWaiting 2 (some .boolean) { frames := 0, cells := 0, slots := 0, locals := 0 } [.ref a0, .int (zi x1)] (w_Mod cI cB a0 a1 a2 a3 a4 a5 a6 a7 a8 a9 a10 a11 a12 a13 a14 a15 m_stepsMade m_stepsMost m_taped m_reading m_statements m_telling m_hasImage m_isKeeping m_cursor m_rowMany m_lots m_refused m_bytes m_owner m_block m_written m_waits m_kinds m_tape m_sort m_sortAt m_told m_kept m_was m_ends m_row) (w_Mod cI cB a0 a1 a2 a3 a4 a5 a6 a7 a8 a9 a10 a11 a12 a13 a14 a15 m_stepsMade m_stepsMost m_taped m_reading m_statements m_telling m_hasImage m_isKeeping m_cursor m_rowMany m_lots m_refused m_bytes m_owner m_block m_written m_waits m_kinds m_tape m_sort m_sortAt m_told m_kept m_was m_ends m_row) (some (.int (zi o))) := by
  refine Ct.start (by decide) (Nat.le_of_ble_eq_true rfl) (fun G X hR => ?_)
  refine x_ls (ls2 := [(0, .ref a0), (1, .int (zi x1))]) [0, 1] rfl ?_
  unfold m_Mod_isWaiting at h
  refine x_aload_n (pc := 0) X d_Mod_isWaiting_0 0 rfl rfl ?_
  refine x_get (pc := 1) X d_Mod_isWaiting_1 0 rfl fl_Mod_25 rfl ?_
  refine x_iload_n (pc := 4) X d_Mod_isWaiting_4 1 rfl rfl ?_
  refine x_iald (pc := 5) X d_Mod_isWaiting_5 6 rfl (Nat.le_of_ble_eq_true rfl) rfl h (fun h => ?_)
  refine x_iflt (pc := 6) (tgt := 13) X d_Mod_isWaiting_6 rfl h (fun h => ?_) (fun h => ?_)
  · skip
    refine x_iconst (pc := 13) X d_Mod_isWaiting_13  ?_
    cases h
    exact x_zret (pc := 14) X hR d_Mod_isWaiting_14 (Or.inl rfl)
  · skip
    refine x_iconst (pc := 9) X d_Mod_isWaiting_9  ?_
    refine x_goto (pc := 10) (tgt := 14) X d_Mod_isWaiting_10 rfl ?_
    cases h
    exact x_zret (pc := 14) X hR d_Mod_isWaiting_14 (Or.inr rfl)
theorem d_Mod_isPlaced_0 : decode b_Mod_isPlaced 0 = .ok (.aload_n 0, 1) := by decide +kernel
theorem d_Mod_isPlaced_1 : decode b_Mod_isPlaced 1 = .ok (.getfield 19, 3) := by decide +kernel
theorem d_Mod_isPlaced_4 : decode b_Mod_isPlaced 4 = .ok (.iload_n 1, 1) := by decide +kernel
theorem d_Mod_isPlaced_5 : decode b_Mod_isPlaced 5 = .ok (.iaload, 1) := by decide +kernel
theorem d_Mod_isPlaced_6 : decode b_Mod_isPlaced 6 = .ok (.ifCond .lt 7, 3) := by decide +kernel
theorem d_Mod_isPlaced_9 : decode b_Mod_isPlaced 9 = .ok (.iconst 1, 1) := by decide +kernel
theorem d_Mod_isPlaced_10 : decode b_Mod_isPlaced 10 = .ok (.goto 4, 3) := by decide +kernel
theorem d_Mod_isPlaced_13 : decode b_Mod_isPlaced 13 = .ok (.iconst 0, 1) := by decide +kernel
theorem d_Mod_isPlaced_14 : decode b_Mod_isPlaced 14 = .ok (.ireturn, 1) := by decide +kernel
def m_Mod_isPlaced (x1 : Int) (m_block : Int → Int) : Option (Int) :=
  gd (zx x1 96) (clt (m_block x1) 0 (some (0)) (some (1)))
set_option maxHeartbeats 4000000 in
set_option maxRecDepth 100000 in
theorem c_Mod_isPlaced (l : Launch) (D : va_G) (cI cB : ClassId) (a0 a1 a2 a3 a4 a5 a6 a7 a8 a9 a10 a11 a12 a13 a14 a15 : Nat) (m_stepsMade : Int) (m_stepsMost : Int) (m_taped : Int) (m_reading : Int) (m_statements : Int) (m_telling : Int) (m_hasImage : Int) (m_isKeeping : Int) (m_cursor : Int) (m_rowMany : Int) (m_lots : Int) (m_refused : Int → Int) (m_bytes : Int → Int) (m_owner : Int → Int) (m_block : Int → Int) (m_written : Int → Int) (m_waits : Int → Int) (m_kinds : Int → Int) (m_tape : Int → Int) (m_sort : Int → Int) (m_sortAt : Int → Int) (m_told : Int → Int) (m_kept : Int → Int) (m_was : Int → Int) (m_ends : Int → Int) (m_row : Int → Int) (x1 : Int) {o : Int} (h : m_Mod_isPlaced x1 m_block = some o) : Ct l D cI cB y_Mod_isPlaced b_Mod_isPlaced 2 (some .boolean) { frames := 0, cells := 0, slots := 0, locals := 0 } [.ref a0, .int (zi x1)] (w_Mod cI cB a0 a1 a2 a3 a4 a5 a6 a7 a8 a9 a10 a11 a12 a13 a14 a15 m_stepsMade m_stepsMost m_taped m_reading m_statements m_telling m_hasImage m_isKeeping m_cursor m_rowMany m_lots m_refused m_bytes m_owner m_block m_written m_waits m_kinds m_tape m_sort m_sortAt m_told m_kept m_was m_ends m_row) (w_Mod cI cB a0 a1 a2 a3 a4 a5 a6 a7 a8 a9 a10 a11 a12 a13 a14 a15 m_stepsMade m_stepsMost m_taped m_reading m_statements m_telling m_hasImage m_isKeeping m_cursor m_rowMany m_lots m_refused m_bytes m_owner m_block m_written m_waits m_kinds m_tape m_sort m_sortAt m_told m_kept m_was m_ends m_row) (some (.int (zi o))) := by
  refine Ct.start (by decide) (Nat.le_of_ble_eq_true rfl) (fun G X hR => ?_)
  refine x_ls (ls2 := [(0, .ref a0), (1, .int (zi x1))]) [0, 1] rfl ?_
  unfold m_Mod_isPlaced at h
  refine x_aload_n (pc := 0) X d_Mod_isPlaced_0 0 rfl rfl ?_
  refine x_get (pc := 1) X d_Mod_isPlaced_1 0 rfl fl_Mod_19 rfl ?_
  refine x_iload_n (pc := 4) X d_Mod_isPlaced_4 1 rfl rfl ?_
  refine x_iald (pc := 5) X d_Mod_isPlaced_5 4 rfl (Nat.le_of_ble_eq_true rfl) rfl h (fun h => ?_)
  refine x_iflt (pc := 6) (tgt := 13) X d_Mod_isPlaced_6 rfl h (fun h => ?_) (fun h => ?_)
  · skip
    refine x_iconst (pc := 13) X d_Mod_isPlaced_13  ?_
    cases h
    exact x_zret (pc := 14) X hR d_Mod_isPlaced_14 (Or.inl rfl)
  · skip
    refine x_iconst (pc := 9) X d_Mod_isPlaced_9  ?_
    refine x_goto (pc := 10) (tgt := 14) X d_Mod_isPlaced_10 rfl ?_
    cases h
    exact x_zret (pc := 14) X hR d_Mod_isPlaced_14 (Or.inr rfl)
theorem d_Mod_isToPlace_0 : decode b_Mod_isToPlace 0 = .ok (.aload_n 0, 1) := by decide +kernel
theorem d_Mod_isToPlace_1 : decode b_Mod_isToPlace 1 = .ok (.iload_n 1, 1) := by decide +kernel
theorem d_Mod_isToPlace_2 : decode b_Mod_isToPlace 2 = .ok (.invokevirtual 66, 3) := by decide +kernel
theorem d_Mod_isToPlace_5 : decode b_Mod_isToPlace 5 = .ok (.ifCond .eq 15, 3) := by decide +kernel
theorem d_Mod_isToPlace_8 : decode b_Mod_isToPlace 8 = .ok (.aload_n 0, 1) := by decide +kernel
theorem d_Mod_isToPlace_9 : decode b_Mod_isToPlace 9 = .ok (.iload_n 1, 1) := by decide +kernel
theorem d_Mod_isToPlace_10 : decode b_Mod_isToPlace 10 = .ok (.invokevirtual 62, 3) := by decide +kernel
theorem d_Mod_isToPlace_13 : decode b_Mod_isToPlace 13 = .ok (.ifCond .ne 7, 3) := by decide +kernel
theorem d_Mod_isToPlace_16 : decode b_Mod_isToPlace 16 = .ok (.iconst 1, 1) := by decide +kernel
theorem d_Mod_isToPlace_17 : decode b_Mod_isToPlace 17 = .ok (.goto 4, 3) := by decide +kernel
theorem d_Mod_isToPlace_20 : decode b_Mod_isToPlace 20 = .ok (.iconst 0, 1) := by decide +kernel
theorem d_Mod_isToPlace_21 : decode b_Mod_isToPlace 21 = .ok (.ireturn, 1) := by decide +kernel
def m_Mod_isToPlace (x1 : Int) (m_block : Int → Int) (m_waits : Int → Int) : Option (Int) :=
  bnd (m_Mod_isWaiting x1 m_waits) (fun r1 => ceq r1 0 (some (0)) (bnd (m_Mod_isPlaced x1 m_block) (fun r3 => ceq r3 0 (some (1)) (some (0)))))
set_option maxHeartbeats 4000000 in
set_option maxRecDepth 100000 in
theorem c_Mod_isToPlace (l : Launch) (D : va_G) (cI cB : ClassId) (a0 a1 a2 a3 a4 a5 a6 a7 a8 a9 a10 a11 a12 a13 a14 a15 : Nat) (m_stepsMade : Int) (m_stepsMost : Int) (m_taped : Int) (m_reading : Int) (m_statements : Int) (m_telling : Int) (m_hasImage : Int) (m_isKeeping : Int) (m_cursor : Int) (m_rowMany : Int) (m_lots : Int) (m_refused : Int → Int) (m_bytes : Int → Int) (m_owner : Int → Int) (m_block : Int → Int) (m_written : Int → Int) (m_waits : Int → Int) (m_kinds : Int → Int) (m_tape : Int → Int) (m_sort : Int → Int) (m_sortAt : Int → Int) (m_told : Int → Int) (m_kept : Int → Int) (m_was : Int → Int) (m_ends : Int → Int) (m_row : Int → Int) (x1 : Int) {o : Int} (h : m_Mod_isToPlace x1 m_block m_waits = some o) : Ct l D cI cB y_Mod_isToPlace b_Mod_isToPlace 2 (some .boolean) { frames := 1, cells := 0, slots := 0, locals := 21 } [.ref a0, .int (zi x1)] (w_Mod cI cB a0 a1 a2 a3 a4 a5 a6 a7 a8 a9 a10 a11 a12 a13 a14 a15 m_stepsMade m_stepsMost m_taped m_reading m_statements m_telling m_hasImage m_isKeeping m_cursor m_rowMany m_lots m_refused m_bytes m_owner m_block m_written m_waits m_kinds m_tape m_sort m_sortAt m_told m_kept m_was m_ends m_row) (w_Mod cI cB a0 a1 a2 a3 a4 a5 a6 a7 a8 a9 a10 a11 a12 a13 a14 a15 m_stepsMade m_stepsMost m_taped m_reading m_statements m_telling m_hasImage m_isKeeping m_cursor m_rowMany m_lots m_refused m_bytes m_owner m_block m_written m_waits m_kinds m_tape m_sort m_sortAt m_told m_kept m_was m_ends m_row) (some (.int (zi o))) := by
  refine Ct.start (by decide) (Nat.le_of_ble_eq_true rfl) (fun G X hR => ?_)
  refine x_ls (ls2 := [(0, .ref a0), (1, .int (zi x1))]) [0, 1] rfl ?_
  unfold m_Mod_isToPlace at h
  refine x_aload_n (pc := 0) X d_Mod_isToPlace_0 0 rfl rfl ?_
  refine x_iload_n (pc := 1) X d_Mod_isToPlace_1 1 rfl rfl ?_
  obtain ⟨r1, h2, h⟩ := bnd_e h
  refine x_callV (pc := 2) (As := [.int (zi x1)]) (rest := []) (w2 := (w_Mod cI cB a0 a1 a2 a3 a4 a5 a6 a7 a8 a9 a10 a11 a12 a13 a14 a15 m_stepsMade m_stepsMost m_taped m_reading m_statements m_telling m_hasImage m_isKeeping m_cursor m_rowMany m_lots m_refused m_bytes m_owner m_block m_written m_waits m_kinds m_tape m_sort m_sortAt m_told m_kept m_was m_ends m_row)) X d_Mod_isToPlace_2 lk_Mod_66 mv_Mod_isWaiting (c_Mod_isWaiting l D cI cB a0 a1 a2 a3 a4 a5 a6 a7 a8 a9 a10 a11 a12 a13 a14 a15 m_stepsMade m_stepsMost m_taped m_reading m_statements m_telling m_hasImage m_isKeeping m_cursor m_rowMany m_lots m_refused m_bytes m_owner m_block m_written m_waits m_kinds m_tape m_sort m_sortAt m_told m_kept m_was m_ends m_row x1 h2) ⟨(Nat.le_of_ble_eq_true rfl), (Nat.le_of_ble_eq_true rfl), (Nat.le_of_ble_eq_true rfl), (Nat.le_of_ble_eq_true rfl)⟩ 0 rfl rfl [0, 1, 2, 3, 4, 5, 6, 7, 8, 9, 10, 11, 12, 13, 14, 15] rfl rfl rfl (Up.same rfl) rfl rfl (Nat.le_of_ble_eq_true rfl) ?_
  refine x_ifeq (pc := 5) (tgt := 20) X d_Mod_isToPlace_5 rfl h (fun h => ?_) (fun h => ?_)
  · skip
    refine x_iconst (pc := 20) X d_Mod_isToPlace_20  ?_
    cases h
    exact x_zret (pc := 21) X hR d_Mod_isToPlace_21 (Or.inl rfl)
  · skip
    refine x_aload_n (pc := 8) X d_Mod_isToPlace_8 0 rfl rfl ?_
    refine x_iload_n (pc := 9) X d_Mod_isToPlace_9 1 rfl rfl ?_
    obtain ⟨r3, h4, h⟩ := bnd_e h
    refine x_callV (pc := 10) (As := [.int (zi x1)]) (rest := []) (w2 := (w_Mod cI cB a0 a1 a2 a3 a4 a5 a6 a7 a8 a9 a10 a11 a12 a13 a14 a15 m_stepsMade m_stepsMost m_taped m_reading m_statements m_telling m_hasImage m_isKeeping m_cursor m_rowMany m_lots m_refused m_bytes m_owner m_block m_written m_waits m_kinds m_tape m_sort m_sortAt m_told m_kept m_was m_ends m_row)) X d_Mod_isToPlace_10 lk_Mod_62 mv_Mod_isPlaced (c_Mod_isPlaced l D cI cB a0 a1 a2 a3 a4 a5 a6 a7 a8 a9 a10 a11 a12 a13 a14 a15 m_stepsMade m_stepsMost m_taped m_reading m_statements m_telling m_hasImage m_isKeeping m_cursor m_rowMany m_lots m_refused m_bytes m_owner m_block m_written m_waits m_kinds m_tape m_sort m_sortAt m_told m_kept m_was m_ends m_row x1 h4) ⟨(Nat.le_of_ble_eq_true rfl), (Nat.le_of_ble_eq_true rfl), (Nat.le_of_ble_eq_true rfl), (Nat.le_of_ble_eq_true rfl)⟩ 0 rfl rfl [0, 1, 2, 3, 4, 5, 6, 7, 8, 9, 10, 11, 12, 13, 14, 15] rfl rfl rfl (Up.same rfl) rfl rfl (Nat.le_of_ble_eq_true rfl) ?_
    refine x_ifne (pc := 13) (tgt := 20) X d_Mod_isToPlace_13 rfl h (fun h => ?_) (fun h => ?_)
    · skip
      refine x_iconst (pc := 20) X d_Mod_isToPlace_20  ?_
      cases h
      exact x_zret (pc := 21) X hR d_Mod_isToPlace_21 (Or.inl rfl)
    · skip
      refine x_iconst (pc := 16) X d_Mod_isToPlace_16  ?_
      refine x_goto (pc := 17) (tgt := 21) X d_Mod_isToPlace_17 rfl ?_
      cases h
      exact x_zret (pc := 21) X hR d_Mod_isToPlace_21 (Or.inr rfl)
theorem d_Mod_seriesToPlace_0 : decode b_Mod_seriesToPlace 0 = .ok (.iconst 0, 1) := by decide +kernel
theorem d_Mod_seriesToPlace_1 : decode b_Mod_seriesToPlace 1 = .ok (.istore_n 3, 1) := by decide +kernel
theorem d_Mod_seriesToPlace_2 : decode b_Mod_seriesToPlace 2 = .ok (.iload_n 2, 1) := by decide +kernel
theorem d_Mod_seriesToPlace_3 : decode b_Mod_seriesToPlace 3 = .ok (.iload_n 3, 1) := by decide +kernel
theorem d_Mod_seriesToPlace_4 : decode b_Mod_seriesToPlace 4 = .ok (.iadd, 1) := by decide +kernel
theorem d_Mod_seriesToPlace_5 : decode b_Mod_seriesToPlace 5 = .ok (.bipush 24, 2) := by decide +kernel
theorem d_Mod_seriesToPlace_7 : decode b_Mod_seriesToPlace 7 = .ok (.if_icmp .ge 24, 3) := by decide +kernel
theorem d_Mod_seriesToPlace_10 : decode b_Mod_seriesToPlace 10 = .ok (.aload_n 0, 1) := by decide +kernel
theorem d_Mod_seriesToPlace_11 : decode b_Mod_seriesToPlace 11 = .ok (.bipush 24, 2) := by decide +kernel
theorem d_Mod_seriesToPlace_13 : decode b_Mod_seriesToPlace 13 = .ok (.iload_n 1, 1) := by decide +kernel
theorem d_Mod_seriesToPlace_14 : decode b_Mod_seriesToPlace 14 = .ok (.imul, 1) := by decide +kernel
theorem d_Mod_seriesToPlace_15 : decode b_Mod_seriesToPlace 15 = .ok (.iload_n 2, 1) := by decide +kernel
theorem d_Mod_seriesToPlace_16 : decode b_Mod_seriesToPlace 16 = .ok (.iadd, 1) := by decide +kernel
theorem d_Mod_seriesToPlace_17 : decode b_Mod_seriesToPlace 17 = .ok (.iload_n 3, 1) := by decide +kernel
theorem d_Mod_seriesToPlace_18 : decode b_Mod_seriesToPlace 18 = .ok (.iadd, 1) := by decide +kernel
theorem d_Mod_seriesToPlace_19 : decode b_Mod_seriesToPlace 19 = .ok (.invokevirtual 69, 3) := by decide +kernel
theorem d_Mod_seriesToPlace_22 : decode b_Mod_seriesToPlace 22 = .ok (.ifCond .eq 9, 3) := by decide +kernel
theorem d_Mod_seriesToPlace_25 : decode b_Mod_seriesToPlace 25 = .ok (.iinc 3 1, 3) := by decide +kernel
theorem d_Mod_seriesToPlace_28 : decode b_Mod_seriesToPlace 28 = .ok (.goto (-26), 3) := by decide +kernel
theorem d_Mod_seriesToPlace_31 : decode b_Mod_seriesToPlace 31 = .ok (.iload_n 3, 1) := by decide +kernel
theorem d_Mod_seriesToPlace_32 : decode b_Mod_seriesToPlace 32 = .ok (.ireturn, 1) := by decide +kernel
def m_Mod_seriesToPlace_2 : Nat → Int → Int → Int → (Int → Int) → (Int → Int) → Option (Int)
  | 0, _, _, _, _, _ => none
  | fuel + 1, v1, v2, v3, m_block, m_waits =>
  clt (v2 + v3) 24 (bnd (m_Mod_isToPlace (((24 * v1) + v2) + v3) m_block m_waits) (fun r1 => ceq r1 0 (some (v3)) (m_Mod_seriesToPlace_2 fuel v1 v2 (v3 + 1) m_block m_waits))) (some (v3))
def m_Mod_seriesToPlace (x1 : Int) (x2 : Int) (m_block : Int → Int) (m_waits : Int → Int) : Option (Int) :=
  m_Mod_seriesToPlace_2 5000 x1 x2 0 m_block m_waits
set_option maxHeartbeats 4000000 in
set_option maxRecDepth 100000 in
theorem l_Mod_seriesToPlace_2 {G : GT} {l : Launch} {D : va_G} {cI cB : ClassId} {a0 a1 a2 a3 a4 a5 a6 a7 a8 a9 a10 a11 a12 a13 a14 a15 : Nat} {m_stepsMade : Int} {m_stepsMost : Int} {m_taped : Int} {m_reading : Int} {m_statements : Int} {m_telling : Int} {m_hasImage : Int} {m_isKeeping : Int} {m_cursor : Int} {m_rowMany : Int} {m_lots : Int} {m_refused : Int → Int} {m_bytes : Int → Int} {m_owner : Int → Int} {m_written : Int → Int} {m_kinds : Int → Int} {m_tape : Int → Int} {m_sort : Int → Int} {m_sortAt : Int → Int} {m_told : Int → Int} {m_kept : Int → Int} {m_was : Int → Int} {m_ends : Int → Int} {m_row : Int → Int} (X : Cx G l D cI cB b_Mod_seriesToPlace y_Mod_seriesToPlace.cls 4 { frames := 2, cells := 0, slots := 0, locals := 42 }) : ∀ (fuel : Nat) (v1 : Int) (v2 : Int) (v3 : Int) (m_block : Int → Int) (m_waits : Int → Int) (o : Int), m_Mod_seriesToPlace_2 fuel v1 v2 v3 m_block m_waits = some o → Rt G (some .int) (some (.int (zi o))) (w_Mod cI cB a0 a1 a2 a3 a4 a5 a6 a7 a8 a9 a10 a11 a12 a13 a14 a15 m_stepsMade m_stepsMost m_taped m_reading m_statements m_telling m_hasImage m_isKeeping m_cursor m_rowMany m_lots m_refused m_bytes m_owner m_block m_written m_waits m_kinds m_tape m_sort m_sortAt m_told m_kept m_was m_ends m_row) → Wx G 0 0 2 [(0, .ref a0), (1, .int (zi v1)), (2, .int (zi v2)), (3, .int (zi v3))] [] (w_Mod cI cB a0 a1 a2 a3 a4 a5 a6 a7 a8 a9 a10 a11 a12 a13 a14 a15 m_stepsMade m_stepsMost m_taped m_reading m_statements m_telling m_hasImage m_isKeeping m_cursor m_rowMany m_lots m_refused m_bytes m_owner m_block m_written m_waits m_kinds m_tape m_sort m_sortAt m_told m_kept m_was m_ends m_row) := by
  intro fuel
  induction fuel with
  | zero =>
    intro v1 v2 v3 m_block m_waits o h
    exact absurd h (by simp [m_Mod_seriesToPlace_2])
  | succ fuel ih =>
    intro v1 v2 v3 m_block m_waits o h hR
    rw [m_Mod_seriesToPlace_2] at h
    refine x_iload_n (pc := 2) X d_Mod_seriesToPlace_2 2 rfl rfl ?_
    refine x_iload_n (pc := 3) X d_Mod_seriesToPlace_3 3 rfl rfl ?_
    refine x_iadd (pc := 4) X d_Mod_seriesToPlace_4  ?_
    refine x_bipush (pc := 5) (v := 24) X d_Mod_seriesToPlace_5 rfl ?_
    refine x_icmpge (pc := 7) (tgt := 31) X d_Mod_seriesToPlace_7 rfl h (fun h => ?_) (fun h => ?_)
    · skip
      refine x_iload_n (pc := 31) X d_Mod_seriesToPlace_31 3 rfl rfl ?_
      cases h
      exact x_iret (pc := 32) X hR d_Mod_seriesToPlace_32
    · skip
      refine x_aload_n (pc := 10) X d_Mod_seriesToPlace_10 0 rfl rfl ?_
      refine x_bipush (pc := 11) (v := 24) X d_Mod_seriesToPlace_11 rfl ?_
      refine x_iload_n (pc := 13) X d_Mod_seriesToPlace_13 1 rfl rfl ?_
      refine x_imul (pc := 14) X d_Mod_seriesToPlace_14  ?_
      refine x_iload_n (pc := 15) X d_Mod_seriesToPlace_15 2 rfl rfl ?_
      refine x_iadd (pc := 16) X d_Mod_seriesToPlace_16  ?_
      refine x_iload_n (pc := 17) X d_Mod_seriesToPlace_17 3 rfl rfl ?_
      refine x_iadd (pc := 18) X d_Mod_seriesToPlace_18  ?_
      obtain ⟨r1, h2, h⟩ := bnd_e h
      refine x_callV (pc := 19) (As := [.int (zi (((24 * v1) + v2) + v3))]) (rest := []) (w2 := (w_Mod cI cB a0 a1 a2 a3 a4 a5 a6 a7 a8 a9 a10 a11 a12 a13 a14 a15 m_stepsMade m_stepsMost m_taped m_reading m_statements m_telling m_hasImage m_isKeeping m_cursor m_rowMany m_lots m_refused m_bytes m_owner m_block m_written m_waits m_kinds m_tape m_sort m_sortAt m_told m_kept m_was m_ends m_row)) X d_Mod_seriesToPlace_19 lk_Mod_69 mv_Mod_isToPlace (c_Mod_isToPlace l D cI cB a0 a1 a2 a3 a4 a5 a6 a7 a8 a9 a10 a11 a12 a13 a14 a15 m_stepsMade m_stepsMost m_taped m_reading m_statements m_telling m_hasImage m_isKeeping m_cursor m_rowMany m_lots m_refused m_bytes m_owner m_block m_written m_waits m_kinds m_tape m_sort m_sortAt m_told m_kept m_was m_ends m_row (((24 * v1) + v2) + v3) h2) ⟨(Nat.le_of_ble_eq_true rfl), (Nat.le_of_ble_eq_true rfl), (Nat.le_of_ble_eq_true rfl), (Nat.le_of_ble_eq_true rfl)⟩ 0 rfl rfl [0, 1, 2, 3, 4, 5, 6, 7, 8, 9, 10, 11, 12, 13, 14, 15] rfl rfl rfl (Up.same rfl) rfl rfl (Nat.le_of_ble_eq_true rfl) ?_
      refine x_ifeq (pc := 22) (tgt := 31) X d_Mod_seriesToPlace_22 rfl h (fun h => ?_) (fun h => ?_)
      · skip
        refine x_iload_n (pc := 31) X d_Mod_seriesToPlace_31 3 rfl rfl ?_
        cases h
        exact x_iret (pc := 32) X hR d_Mod_seriesToPlace_32
      · skip
        refine x_iinc (pc := 25) (ls2 := [(3, .int (zi (v3 + 1))), (0, .ref a0), (1, .int (zi v1)), (2, .int (zi v2))]) X d_Mod_seriesToPlace_25 3 (Nat.le_of_ble_eq_true rfl) rfl rfl ?_
        refine x_goto (pc := 28) (tgt := 2) X d_Mod_seriesToPlace_28 rfl ?_
        refine x_ls (ls2 := [(0, .ref a0), (1, .int (zi v1)), (2, .int (zi v2)), (3, .int (zi (v3 + 1)))]) [1, 2, 3, 0] rfl ?_
        exact ih v1 v2 (v3 + 1) m_block m_waits o h hR
set_option maxHeartbeats 4000000 in
set_option maxRecDepth 100000 in
theorem c_Mod_seriesToPlace (l : Launch) (D : va_G) (cI cB : ClassId) (a0 a1 a2 a3 a4 a5 a6 a7 a8 a9 a10 a11 a12 a13 a14 a15 : Nat) (m_stepsMade : Int) (m_stepsMost : Int) (m_taped : Int) (m_reading : Int) (m_statements : Int) (m_telling : Int) (m_hasImage : Int) (m_isKeeping : Int) (m_cursor : Int) (m_rowMany : Int) (m_lots : Int) (m_refused : Int → Int) (m_bytes : Int → Int) (m_owner : Int → Int) (m_block : Int → Int) (m_written : Int → Int) (m_waits : Int → Int) (m_kinds : Int → Int) (m_tape : Int → Int) (m_sort : Int → Int) (m_sortAt : Int → Int) (m_told : Int → Int) (m_kept : Int → Int) (m_was : Int → Int) (m_ends : Int → Int) (m_row : Int → Int) (x1 : Int) (x2 : Int) {o : Int} (h : m_Mod_seriesToPlace x1 x2 m_block m_waits = some o) : Ct l D cI cB y_Mod_seriesToPlace b_Mod_seriesToPlace 4 (some .int) { frames := 2, cells := 0, slots := 0, locals := 42 } [.ref a0, .int (zi x1), .int (zi x2)] (w_Mod cI cB a0 a1 a2 a3 a4 a5 a6 a7 a8 a9 a10 a11 a12 a13 a14 a15 m_stepsMade m_stepsMost m_taped m_reading m_statements m_telling m_hasImage m_isKeeping m_cursor m_rowMany m_lots m_refused m_bytes m_owner m_block m_written m_waits m_kinds m_tape m_sort m_sortAt m_told m_kept m_was m_ends m_row) (w_Mod cI cB a0 a1 a2 a3 a4 a5 a6 a7 a8 a9 a10 a11 a12 a13 a14 a15 m_stepsMade m_stepsMost m_taped m_reading m_statements m_telling m_hasImage m_isKeeping m_cursor m_rowMany m_lots m_refused m_bytes m_owner m_block m_written m_waits m_kinds m_tape m_sort m_sortAt m_told m_kept m_was m_ends m_row) (some (.int (zi o))) := by
  refine Ct.start (by decide) (Nat.le_of_ble_eq_true rfl) (fun G X hR => ?_)
  refine x_ls (ls2 := [(0, .ref a0), (1, .int (zi x1)), (2, .int (zi x2))]) [0, 1, 2] rfl ?_
  unfold m_Mod_seriesToPlace at h
  refine x_iconst (pc := 0) X d_Mod_seriesToPlace_0  ?_
  refine x_istore_n (pc := 1) (ls2 := [(3, .int (zi 0)), (0, .ref a0), (1, .int (zi x1)), (2, .int (zi x2))]) X d_Mod_seriesToPlace_1 rfl (Nat.le_of_ble_eq_true rfl) rfl ?_
  refine x_ls (ls2 := [(0, .ref a0), (1, .int (zi x1)), (2, .int (zi x2)), (3, .int (zi 0))]) [1, 2, 3, 0] rfl ?_
  exact l_Mod_seriesToPlace_2 X 5000 x1 x2 0 m_block m_waits o h hR
theorem d_Mod_steps__0 : decode b_Mod_steps_ 0 = .ok (.aload_n 0, 1) := by decide +kernel
theorem d_Mod_steps__1 : decode b_Mod_steps_ 1 = .ok (.getfield 99, 3) := by decide +kernel
theorem d_Mod_steps__4 : decode b_Mod_steps_ 4 = .ok (.aload_n 0, 1) := by decide +kernel
theorem d_Mod_steps__5 : decode b_Mod_steps_ 5 = .ok (.getfield 103, 3) := by decide +kernel
theorem d_Mod_steps__8 : decode b_Mod_steps_ 8 = .ok (.if_icmp .ne 5, 3) := by decide +kernel
theorem d_Mod_steps__11 : decode b_Mod_steps_ 11 = .ok (.iconst 0, 1) := by decide +kernel
theorem d_Mod_steps__12 : decode b_Mod_steps_ 12 = .ok (.ireturn, 1) := by decide +kernel
theorem d_Mod_steps__13 : decode b_Mod_steps_ 13 = .ok (.aload_n 0, 1) := by decide +kernel
theorem d_Mod_steps__14 : decode b_Mod_steps_ 14 = .ok (.dup, 1) := by decide +kernel
theorem d_Mod_steps__15 : decode b_Mod_steps_ 15 = .ok (.getfield 99, 3) := by decide +kernel
theorem d_Mod_steps__18 : decode b_Mod_steps_ 18 = .ok (.iconst 1, 1) := by decide +kernel
theorem d_Mod_steps__19 : decode b_Mod_steps_ 19 = .ok (.iadd, 1) := by decide +kernel
theorem d_Mod_steps__20 : decode b_Mod_steps_ 20 = .ok (.putfield 99, 3) := by decide +kernel
theorem d_Mod_steps__23 : decode b_Mod_steps_ 23 = .ok (.iconst 1, 1) := by decide +kernel
theorem d_Mod_steps__24 : decode b_Mod_steps_ 24 = .ok (.ireturn, 1) := by decide +kernel
def m_Mod_steps_  (m_stepsMade : Int) (m_stepsMost : Int) : Option (Int × Int) :=
  ceq m_stepsMade m_stepsMost (some (0, m_stepsMade)) (some (1, (m_stepsMade + 1)))
set_option maxHeartbeats 4000000 in
set_option maxRecDepth 100000 in
theorem c_Mod_steps_ (l : Launch) (D : va_G) (cI cB : ClassId) (a0 a1 a2 a3 a4 a5 a6 a7 a8 a9 a10 a11 a12 a13 a14 a15 : Nat) (m_stepsMade : Int) (m_stepsMost : Int) (m_taped : Int) (m_reading : Int) (m_statements : Int) (m_telling : Int) (m_hasImage : Int) (m_isKeeping : Int) (m_cursor : Int) (m_rowMany : Int) (m_lots : Int) (m_refused : Int → Int) (m_bytes : Int → Int) (m_owner : Int → Int) (m_block : Int → Int) (m_written : Int → Int) (m_waits : Int → Int) (m_kinds : Int → Int) (m_tape : Int → Int) (m_sort : Int → Int) (m_sortAt : Int → Int) (m_told : Int → Int) (m_kept : Int → Int) (m_was : Int → Int) (m_ends : Int → Int) (m_row : Int → Int)  {o : Int × Int} (h : m_Mod_steps_ m_stepsMade m_stepsMost = some o) : Ct l D cI cB y_Mod_steps_ b_Mod_steps_ 1 (some .boolean) { frames := 0, cells := 0, slots := 0, locals := 0 } [.ref a0] (w_Mod cI cB a0 a1 a2 a3 a4 a5 a6 a7 a8 a9 a10 a11 a12 a13 a14 a15 m_stepsMade m_stepsMost m_taped m_reading m_statements m_telling m_hasImage m_isKeeping m_cursor m_rowMany m_lots m_refused m_bytes m_owner m_block m_written m_waits m_kinds m_tape m_sort m_sortAt m_told m_kept m_was m_ends m_row) (w_Mod cI cB a0 a1 a2 a3 a4 a5 a6 a7 a8 a9 a10 a11 a12 a13 a14 a15 o.2 m_stepsMost m_taped m_reading m_statements m_telling m_hasImage m_isKeeping m_cursor m_rowMany m_lots m_refused m_bytes m_owner m_block m_written m_waits m_kinds m_tape m_sort m_sortAt m_told m_kept m_was m_ends m_row) (some (.int (zi o.1))) := by
  refine Ct.start (by decide) (Nat.le_of_ble_eq_true rfl) (fun G X hR => ?_)
  refine x_ls (ls2 := [(0, .ref a0)]) [0] rfl ?_
  unfold m_Mod_steps_ at h
  refine x_aload_n (pc := 0) X d_Mod_steps__0 0 rfl rfl ?_
  refine x_get (pc := 1) X d_Mod_steps__1 0 rfl fl_Mod_99 rfl ?_
  refine x_aload_n (pc := 4) X d_Mod_steps__4 0 rfl rfl ?_
  refine x_get (pc := 5) X d_Mod_steps__5 0 rfl fl_Mod_103 rfl ?_
  refine x_icmpne (pc := 8) (tgt := 13) X d_Mod_steps__8 rfl h (fun h => ?_) (fun h => ?_)
  · skip
    refine x_aload_n (pc := 13) X d_Mod_steps__13 0 rfl rfl ?_
    refine x_dup (pc := 14) X d_Mod_steps__14 rfl ?_
    refine x_get (pc := 15) X d_Mod_steps__15 0 rfl fl_Mod_99 rfl ?_
    refine x_iconst (pc := 18) X d_Mod_steps__18  ?_
    refine x_iadd (pc := 19) X d_Mod_steps__19  ?_
    refine x_put (pc := 20) (w2 := (w_Mod cI cB a0 a1 a2 a3 a4 a5 a6 a7 a8 a9 a10 a11 a12 a13 a14 a15 (m_stepsMade + 1) m_stepsMost m_taped m_reading m_statements m_telling m_hasImage m_isKeeping m_cursor m_rowMany m_lots m_refused m_bytes m_owner m_block m_written m_waits m_kinds m_tape m_sort m_sortAt m_told m_kept m_was m_ends m_row)) X d_Mod_steps__20 0 rfl (fp_Mod_99 _) (Nat.le_of_ble_eq_true rfl) rfl ?_
    refine x_iconst (pc := 23) X d_Mod_steps__23  ?_
    cases h
    exact x_zret (pc := 24) X hR d_Mod_steps__24 (Or.inr rfl)
  · skip
    refine x_iconst (pc := 11) X d_Mod_steps__11  ?_
    cases h
    exact x_zret (pc := 12) X hR d_Mod_steps__12 (Or.inl rfl)
theorem d_Mod_beginsRun_0 : decode b_Mod_beginsRun 0 = .ok (.aload_n 0, 1) := by decide +kernel
theorem d_Mod_beginsRun_1 : decode b_Mod_beginsRun 1 = .ok (.getfield 16, 3) := by decide +kernel
theorem d_Mod_beginsRun_4 : decode b_Mod_beginsRun 4 = .ok (.iload_n 1, 1) := by decide +kernel
theorem d_Mod_beginsRun_5 : decode b_Mod_beginsRun 5 = .ok (.iaload, 1) := by decide +kernel
theorem d_Mod_beginsRun_6 : decode b_Mod_beginsRun 6 = .ok (.ifCond .ge 22, 3) := by decide +kernel
theorem d_Mod_beginsRun_9 : decode b_Mod_beginsRun 9 = .ok (.iload_n 1, 1) := by decide +kernel
theorem d_Mod_beginsRun_10 : decode b_Mod_beginsRun 10 = .ok (.ifCond .eq 14, 3) := by decide +kernel
theorem d_Mod_beginsRun_13 : decode b_Mod_beginsRun 13 = .ok (.aload_n 0, 1) := by decide +kernel
theorem d_Mod_beginsRun_14 : decode b_Mod_beginsRun 14 = .ok (.getfield 16, 3) := by decide +kernel
theorem d_Mod_beginsRun_17 : decode b_Mod_beginsRun 17 = .ok (.iload_n 1, 1) := by decide +kernel
theorem d_Mod_beginsRun_18 : decode b_Mod_beginsRun 18 = .ok (.iconst 1, 1) := by decide +kernel
theorem d_Mod_beginsRun_19 : decode b_Mod_beginsRun 19 = .ok (.isub, 1) := by decide +kernel
theorem d_Mod_beginsRun_20 : decode b_Mod_beginsRun 20 = .ok (.iaload, 1) := by decide +kernel
theorem d_Mod_beginsRun_21 : decode b_Mod_beginsRun 21 = .ok (.ifCond .lt 7, 3) := by decide +kernel
theorem d_Mod_beginsRun_24 : decode b_Mod_beginsRun 24 = .ok (.iconst 1, 1) := by decide +kernel
theorem d_Mod_beginsRun_25 : decode b_Mod_beginsRun 25 = .ok (.goto 4, 3) := by decide +kernel
theorem d_Mod_beginsRun_28 : decode b_Mod_beginsRun 28 = .ok (.iconst 0, 1) := by decide +kernel
theorem d_Mod_beginsRun_29 : decode b_Mod_beginsRun 29 = .ok (.ireturn, 1) := by decide +kernel
def m_Mod_beginsRun (x1 : Int) (m_owner : Int → Int) : Option (Int) :=
  gd (zx x1 64) (clt (m_owner x1) 0 (ceq x1 0 (some (1)) (gd (zx (x1 - 1) 64) (clt (m_owner (x1 - 1)) 0 (some (0)) (some (1))))) (some (0)))
set_option maxHeartbeats 4000000 in
set_option maxRecDepth 100000 in
theorem c_Mod_beginsRun (l : Launch) (D : va_G) (cI cB : ClassId) (a0 a1 a2 a3 a4 a5 a6 a7 a8 a9 a10 a11 a12 a13 a14 a15 : Nat) (m_stepsMade : Int) (m_stepsMost : Int) (m_taped : Int) (m_reading : Int) (m_statements : Int) (m_telling : Int) (m_hasImage : Int) (m_isKeeping : Int) (m_cursor : Int) (m_rowMany : Int) (m_lots : Int) (m_refused : Int → Int) (m_bytes : Int → Int) (m_owner : Int → Int) (m_block : Int → Int) (m_written : Int → Int) (m_waits : Int → Int) (m_kinds : Int → Int) (m_tape : Int → Int) (m_sort : Int → Int) (m_sortAt : Int → Int) (m_told : Int → Int) (m_kept : Int → Int) (m_was : Int → Int) (m_ends : Int → Int) (m_row : Int → Int) (x1 : Int) {o : Int} (h : m_Mod_beginsRun x1 m_owner = some o) : Ct l D cI cB y_Mod_beginsRun b_Mod_beginsRun 2 (some .boolean) { frames := 0, cells := 0, slots := 0, locals := 0 } [.ref a0, .int (zi x1)] (w_Mod cI cB a0 a1 a2 a3 a4 a5 a6 a7 a8 a9 a10 a11 a12 a13 a14 a15 m_stepsMade m_stepsMost m_taped m_reading m_statements m_telling m_hasImage m_isKeeping m_cursor m_rowMany m_lots m_refused m_bytes m_owner m_block m_written m_waits m_kinds m_tape m_sort m_sortAt m_told m_kept m_was m_ends m_row) (w_Mod cI cB a0 a1 a2 a3 a4 a5 a6 a7 a8 a9 a10 a11 a12 a13 a14 a15 m_stepsMade m_stepsMost m_taped m_reading m_statements m_telling m_hasImage m_isKeeping m_cursor m_rowMany m_lots m_refused m_bytes m_owner m_block m_written m_waits m_kinds m_tape m_sort m_sortAt m_told m_kept m_was m_ends m_row) (some (.int (zi o))) := by
  refine Ct.start (by decide) (Nat.le_of_ble_eq_true rfl) (fun G X hR => ?_)
  refine x_ls (ls2 := [(0, .ref a0), (1, .int (zi x1))]) [0, 1] rfl ?_
  unfold m_Mod_beginsRun at h
  refine x_aload_n (pc := 0) X d_Mod_beginsRun_0 0 rfl rfl ?_
  refine x_get (pc := 1) X d_Mod_beginsRun_1 0 rfl fl_Mod_16 rfl ?_
  refine x_iload_n (pc := 4) X d_Mod_beginsRun_4 1 rfl rfl ?_
  refine x_iald (pc := 5) X d_Mod_beginsRun_5 3 rfl (Nat.le_of_ble_eq_true rfl) rfl h (fun h => ?_)
  refine x_ifge (pc := 6) (tgt := 28) X d_Mod_beginsRun_6 rfl h (fun h => ?_) (fun h => ?_)
  · skip
    refine x_iconst (pc := 28) X d_Mod_beginsRun_28  ?_
    cases h
    exact x_zret (pc := 29) X hR d_Mod_beginsRun_29 (Or.inl rfl)
  · skip
    refine x_iload_n (pc := 9) X d_Mod_beginsRun_9 1 rfl rfl ?_
    refine x_ifeq (pc := 10) (tgt := 24) X d_Mod_beginsRun_10 rfl h (fun h => ?_) (fun h => ?_)
    · skip
      refine x_iconst (pc := 24) X d_Mod_beginsRun_24  ?_
      refine x_goto (pc := 25) (tgt := 29) X d_Mod_beginsRun_25 rfl ?_
      cases h
      exact x_zret (pc := 29) X hR d_Mod_beginsRun_29 (Or.inr rfl)
    · skip
      refine x_aload_n (pc := 13) X d_Mod_beginsRun_13 0 rfl rfl ?_
      refine x_get (pc := 14) X d_Mod_beginsRun_14 0 rfl fl_Mod_16 rfl ?_
      refine x_iload_n (pc := 17) X d_Mod_beginsRun_17 1 rfl rfl ?_
      refine x_iconst (pc := 18) X d_Mod_beginsRun_18  ?_
      refine x_isub (pc := 19) X d_Mod_beginsRun_19  ?_
      refine x_iald (pc := 20) X d_Mod_beginsRun_20 3 rfl (Nat.le_of_ble_eq_true rfl) rfl h (fun h => ?_)
      refine x_iflt (pc := 21) (tgt := 28) X d_Mod_beginsRun_21 rfl h (fun h => ?_) (fun h => ?_)
      · skip
        refine x_iconst (pc := 28) X d_Mod_beginsRun_28  ?_
        cases h
        exact x_zret (pc := 29) X hR d_Mod_beginsRun_29 (Or.inl rfl)
      · skip
        refine x_iconst (pc := 24) X d_Mod_beginsRun_24  ?_
        refine x_goto (pc := 25) (tgt := 29) X d_Mod_beginsRun_25 rfl ?_
        cases h
        exact x_zret (pc := 29) X hR d_Mod_beginsRun_29 (Or.inr rfl)
theorem d_Mod_runSize_0 : decode b_Mod_runSize 0 = .ok (.iconst 0, 1) := by decide +kernel
theorem d_Mod_runSize_1 : decode b_Mod_runSize 1 = .ok (.istore_n 2, 1) := by decide +kernel
theorem d_Mod_runSize_2 : decode b_Mod_runSize 2 = .ok (.iload_n 1, 1) := by decide +kernel
theorem d_Mod_runSize_3 : decode b_Mod_runSize 3 = .ok (.iload_n 2, 1) := by decide +kernel
theorem d_Mod_runSize_4 : decode b_Mod_runSize 4 = .ok (.iadd, 1) := by decide +kernel
theorem d_Mod_runSize_5 : decode b_Mod_runSize 5 = .ok (.bipush 64, 2) := by decide +kernel
theorem d_Mod_runSize_7 : decode b_Mod_runSize 7 = .ok (.if_icmp .ge 20, 3) := by decide +kernel
theorem d_Mod_runSize_10 : decode b_Mod_runSize 10 = .ok (.aload_n 0, 1) := by decide +kernel
theorem d_Mod_runSize_11 : decode b_Mod_runSize 11 = .ok (.getfield 16, 3) := by decide +kernel
theorem d_Mod_runSize_14 : decode b_Mod_runSize 14 = .ok (.iload_n 1, 1) := by decide +kernel
theorem d_Mod_runSize_15 : decode b_Mod_runSize 15 = .ok (.iload_n 2, 1) := by decide +kernel
theorem d_Mod_runSize_16 : decode b_Mod_runSize 16 = .ok (.iadd, 1) := by decide +kernel
theorem d_Mod_runSize_17 : decode b_Mod_runSize 17 = .ok (.iaload, 1) := by decide +kernel
theorem d_Mod_runSize_18 : decode b_Mod_runSize 18 = .ok (.ifCond .ge 9, 3) := by decide +kernel
theorem d_Mod_runSize_21 : decode b_Mod_runSize 21 = .ok (.iinc 2 1, 3) := by decide +kernel
theorem d_Mod_runSize_24 : decode b_Mod_runSize 24 = .ok (.goto (-22), 3) := by decide +kernel
theorem d_Mod_runSize_27 : decode b_Mod_runSize 27 = .ok (.iload_n 2, 1) := by decide +kernel
theorem d_Mod_runSize_28 : decode b_Mod_runSize 28 = .ok (.ireturn, 1) := by decide +kernel
def m_Mod_runSize_2 : Nat → Int → Int → (Int → Int) → Option (Int)
  | 0, _, _, _ => none
  | fuel + 1, v1, v2, m_owner =>
  clt (v1 + v2) 64 (gd (zx (v1 + v2) 64) (clt (m_owner (v1 + v2)) 0 (m_Mod_runSize_2 fuel v1 (v2 + 1) m_owner) (some (v2)))) (some (v2))
def m_Mod_runSize (x1 : Int) (m_owner : Int → Int) : Option (Int) :=
  m_Mod_runSize_2 5000 x1 0 m_owner
set_option maxHeartbeats 4000000 in
set_option maxRecDepth 100000 in
theorem l_Mod_runSize_2 {G : GT} {l : Launch} {D : va_G} {cI cB : ClassId} {a0 a1 a2 a3 a4 a5 a6 a7 a8 a9 a10 a11 a12 a13 a14 a15 : Nat} {m_stepsMade : Int} {m_stepsMost : Int} {m_taped : Int} {m_reading : Int} {m_statements : Int} {m_telling : Int} {m_hasImage : Int} {m_isKeeping : Int} {m_cursor : Int} {m_rowMany : Int} {m_lots : Int} {m_refused : Int → Int} {m_bytes : Int → Int} {m_block : Int → Int} {m_written : Int → Int} {m_waits : Int → Int} {m_kinds : Int → Int} {m_tape : Int → Int} {m_sort : Int → Int} {m_sortAt : Int → Int} {m_told : Int → Int} {m_kept : Int → Int} {m_was : Int → Int} {m_ends : Int → Int} {m_row : Int → Int} (X : Cx G l D cI cB b_Mod_runSize y_Mod_runSize.cls 3 { frames := 0, cells := 0, slots := 0, locals := 0 }) : ∀ (fuel : Nat) (v1 : Int) (v2 : Int) (m_owner : Int → Int) (o : Int), m_Mod_runSize_2 fuel v1 v2 m_owner = some o → Rt G (some .int) (some (.int (zi o))) (w_Mod cI cB a0 a1 a2 a3 a4 a5 a6 a7 a8 a9 a10 a11 a12 a13 a14 a15 m_stepsMade m_stepsMost m_taped m_reading m_statements m_telling m_hasImage m_isKeeping m_cursor m_rowMany m_lots m_refused m_bytes m_owner m_block m_written m_waits m_kinds m_tape m_sort m_sortAt m_told m_kept m_was m_ends m_row) → Wx G 0 0 2 [(0, .ref a0), (1, .int (zi v1)), (2, .int (zi v2))] [] (w_Mod cI cB a0 a1 a2 a3 a4 a5 a6 a7 a8 a9 a10 a11 a12 a13 a14 a15 m_stepsMade m_stepsMost m_taped m_reading m_statements m_telling m_hasImage m_isKeeping m_cursor m_rowMany m_lots m_refused m_bytes m_owner m_block m_written m_waits m_kinds m_tape m_sort m_sortAt m_told m_kept m_was m_ends m_row) := by
  intro fuel
  induction fuel with
  | zero =>
    intro v1 v2 m_owner o h
    exact absurd h (by simp [m_Mod_runSize_2])
  | succ fuel ih =>
    intro v1 v2 m_owner o h hR
    rw [m_Mod_runSize_2] at h
    refine x_iload_n (pc := 2) X d_Mod_runSize_2 1 rfl rfl ?_
    refine x_iload_n (pc := 3) X d_Mod_runSize_3 2 rfl rfl ?_
    refine x_iadd (pc := 4) X d_Mod_runSize_4  ?_
    refine x_bipush (pc := 5) (v := 64) X d_Mod_runSize_5 rfl ?_
    refine x_icmpge (pc := 7) (tgt := 27) X d_Mod_runSize_7 rfl h (fun h => ?_) (fun h => ?_)
    · skip
      refine x_iload_n (pc := 27) X d_Mod_runSize_27 2 rfl rfl ?_
      cases h
      exact x_iret (pc := 28) X hR d_Mod_runSize_28
    · skip
      refine x_aload_n (pc := 10) X d_Mod_runSize_10 0 rfl rfl ?_
      refine x_get (pc := 11) X d_Mod_runSize_11 0 rfl fl_Mod_16 rfl ?_
      refine x_iload_n (pc := 14) X d_Mod_runSize_14 1 rfl rfl ?_
      refine x_iload_n (pc := 15) X d_Mod_runSize_15 2 rfl rfl ?_
      refine x_iadd (pc := 16) X d_Mod_runSize_16  ?_
      refine x_iald (pc := 17) X d_Mod_runSize_17 3 rfl (Nat.le_of_ble_eq_true rfl) rfl h (fun h => ?_)
      refine x_ifge (pc := 18) (tgt := 27) X d_Mod_runSize_18 rfl h (fun h => ?_) (fun h => ?_)
      · skip
        refine x_iload_n (pc := 27) X d_Mod_runSize_27 2 rfl rfl ?_
        cases h
        exact x_iret (pc := 28) X hR d_Mod_runSize_28
      · skip
        refine x_iinc (pc := 21) (ls2 := [(2, .int (zi (v2 + 1))), (0, .ref a0), (1, .int (zi v1))]) X d_Mod_runSize_21 2 (Nat.le_of_ble_eq_true rfl) rfl rfl ?_
        refine x_goto (pc := 24) (tgt := 2) X d_Mod_runSize_24 rfl ?_
        refine x_ls (ls2 := [(0, .ref a0), (1, .int (zi v1)), (2, .int (zi (v2 + 1)))]) [1, 2, 0] rfl ?_
        exact ih v1 (v2 + 1) m_owner o h hR
set_option maxHeartbeats 4000000 in
set_option maxRecDepth 100000 in
theorem c_Mod_runSize (l : Launch) (D : va_G) (cI cB : ClassId) (a0 a1 a2 a3 a4 a5 a6 a7 a8 a9 a10 a11 a12 a13 a14 a15 : Nat) (m_stepsMade : Int) (m_stepsMost : Int) (m_taped : Int) (m_reading : Int) (m_statements : Int) (m_telling : Int) (m_hasImage : Int) (m_isKeeping : Int) (m_cursor : Int) (m_rowMany : Int) (m_lots : Int) (m_refused : Int → Int) (m_bytes : Int → Int) (m_owner : Int → Int) (m_block : Int → Int) (m_written : Int → Int) (m_waits : Int → Int) (m_kinds : Int → Int) (m_tape : Int → Int) (m_sort : Int → Int) (m_sortAt : Int → Int) (m_told : Int → Int) (m_kept : Int → Int) (m_was : Int → Int) (m_ends : Int → Int) (m_row : Int → Int) (x1 : Int) {o : Int} (h : m_Mod_runSize x1 m_owner = some o) : Ct l D cI cB y_Mod_runSize b_Mod_runSize 3 (some .int) { frames := 0, cells := 0, slots := 0, locals := 0 } [.ref a0, .int (zi x1)] (w_Mod cI cB a0 a1 a2 a3 a4 a5 a6 a7 a8 a9 a10 a11 a12 a13 a14 a15 m_stepsMade m_stepsMost m_taped m_reading m_statements m_telling m_hasImage m_isKeeping m_cursor m_rowMany m_lots m_refused m_bytes m_owner m_block m_written m_waits m_kinds m_tape m_sort m_sortAt m_told m_kept m_was m_ends m_row) (w_Mod cI cB a0 a1 a2 a3 a4 a5 a6 a7 a8 a9 a10 a11 a12 a13 a14 a15 m_stepsMade m_stepsMost m_taped m_reading m_statements m_telling m_hasImage m_isKeeping m_cursor m_rowMany m_lots m_refused m_bytes m_owner m_block m_written m_waits m_kinds m_tape m_sort m_sortAt m_told m_kept m_was m_ends m_row) (some (.int (zi o))) := by
  refine Ct.start (by decide) (Nat.le_of_ble_eq_true rfl) (fun G X hR => ?_)
  refine x_ls (ls2 := [(0, .ref a0), (1, .int (zi x1))]) [0, 1] rfl ?_
  unfold m_Mod_runSize at h
  refine x_iconst (pc := 0) X d_Mod_runSize_0  ?_
  refine x_istore_n (pc := 1) (ls2 := [(2, .int (zi 0)), (0, .ref a0), (1, .int (zi x1))]) X d_Mod_runSize_1 rfl (Nat.le_of_ble_eq_true rfl) rfl ?_
  refine x_ls (ls2 := [(0, .ref a0), (1, .int (zi x1)), (2, .int (zi 0))]) [1, 2, 0] rfl ?_
  exact l_Mod_runSize_2 X 5000 x1 0 m_owner o h hR
theorem d_Mod_greatest_0 : decode b_Mod_greatest 0 = .ok (.bipush (-9), 2) := by decide +kernel
theorem d_Mod_greatest_2 : decode b_Mod_greatest 2 = .ok (.istore_n 1, 1) := by decide +kernel
theorem d_Mod_greatest_3 : decode b_Mod_greatest 3 = .ok (.iconst 0, 1) := by decide +kernel
theorem d_Mod_greatest_4 : decode b_Mod_greatest 4 = .ok (.istore_n 2, 1) := by decide +kernel
theorem d_Mod_greatest_5 : decode b_Mod_greatest 5 = .ok (.iload_n 2, 1) := by decide +kernel
theorem d_Mod_greatest_6 : decode b_Mod_greatest 6 = .ok (.bipush 64, 2) := by decide +kernel
theorem d_Mod_greatest_8 : decode b_Mod_greatest 8 = .ok (.if_icmp .ge 36, 3) := by decide +kernel
theorem d_Mod_greatest_11 : decode b_Mod_greatest 11 = .ok (.aload_n 0, 1) := by decide +kernel
theorem d_Mod_greatest_12 : decode b_Mod_greatest 12 = .ok (.iload_n 2, 1) := by decide +kernel
theorem d_Mod_greatest_13 : decode b_Mod_greatest 13 = .ok (.invokevirtual 86, 3) := by decide +kernel
theorem d_Mod_greatest_16 : decode b_Mod_greatest 16 = .ok (.ifCond .eq 22, 3) := by decide +kernel
theorem d_Mod_greatest_19 : decode b_Mod_greatest 19 = .ok (.iload_n 1, 1) := by decide +kernel
theorem d_Mod_greatest_20 : decode b_Mod_greatest 20 = .ok (.ifCond .lt 16, 3) := by decide +kernel
theorem d_Mod_greatest_23 : decode b_Mod_greatest 23 = .ok (.aload_n 0, 1) := by decide +kernel
theorem d_Mod_greatest_24 : decode b_Mod_greatest 24 = .ok (.iload_n 2, 1) := by decide +kernel
theorem d_Mod_greatest_25 : decode b_Mod_greatest 25 = .ok (.invokevirtual 89, 3) := by decide +kernel
theorem d_Mod_greatest_28 : decode b_Mod_greatest 28 = .ok (.aload_n 0, 1) := by decide +kernel
theorem d_Mod_greatest_29 : decode b_Mod_greatest 29 = .ok (.iload_n 1, 1) := by decide +kernel
theorem d_Mod_greatest_30 : decode b_Mod_greatest 30 = .ok (.invokevirtual 89, 3) := by decide +kernel
theorem d_Mod_greatest_33 : decode b_Mod_greatest 33 = .ok (.if_icmp .le 5, 3) := by decide +kernel
theorem d_Mod_greatest_36 : decode b_Mod_greatest 36 = .ok (.iload_n 2, 1) := by decide +kernel
theorem d_Mod_greatest_37 : decode b_Mod_greatest 37 = .ok (.istore_n 1, 1) := by decide +kernel
theorem d_Mod_greatest_38 : decode b_Mod_greatest 38 = .ok (.iinc 2 1, 3) := by decide +kernel
theorem d_Mod_greatest_41 : decode b_Mod_greatest 41 = .ok (.goto (-36), 3) := by decide +kernel
theorem d_Mod_greatest_44 : decode b_Mod_greatest 44 = .ok (.iload_n 1, 1) := by decide +kernel
theorem d_Mod_greatest_45 : decode b_Mod_greatest 45 = .ok (.ireturn, 1) := by decide +kernel
def m_Mod_greatest_5 : Nat → Int → Int → (Int → Int) → Option (Int)
  | 0, _, _, _ => none
  | fuel + 1, v1, v2, m_owner =>
  clt v2 64 (bnd (m_Mod_beginsRun v2 m_owner) (fun r1 => ceq r1 0 (m_Mod_greatest_5 fuel v1 (v2 + 1) m_owner) (clt v1 0 (m_Mod_greatest_5 fuel v2 (v2 + 1) m_owner) (bnd (m_Mod_runSize v2 m_owner) (fun r3 => bnd (m_Mod_runSize v1 m_owner) (fun r5 => cle r3 r5 (m_Mod_greatest_5 fuel v1 (v2 + 1) m_owner) (m_Mod_greatest_5 fuel v2 (v2 + 1) m_owner))))))) (some (v1))
def m_Mod_greatest  (m_owner : Int → Int) : Option (Int) :=
  m_Mod_greatest_5 5000 (-9) 0 m_owner
set_option maxHeartbeats 4000000 in
set_option maxRecDepth 100000 in
theorem l_Mod_greatest_5 {G : GT} {l : Launch} {D : va_G} {cI cB : ClassId} {a0 a1 a2 a3 a4 a5 a6 a7 a8 a9 a10 a11 a12 a13 a14 a15 : Nat} {m_stepsMade : Int} {m_stepsMost : Int} {m_taped : Int} {m_reading : Int} {m_statements : Int} {m_telling : Int} {m_hasImage : Int} {m_isKeeping : Int} {m_cursor : Int} {m_rowMany : Int} {m_lots : Int} {m_refused : Int → Int} {m_bytes : Int → Int} {m_block : Int → Int} {m_written : Int → Int} {m_waits : Int → Int} {m_kinds : Int → Int} {m_tape : Int → Int} {m_sort : Int → Int} {m_sortAt : Int → Int} {m_told : Int → Int} {m_kept : Int → Int} {m_was : Int → Int} {m_ends : Int → Int} {m_row : Int → Int} (X : Cx G l D cI cB b_Mod_greatest y_Mod_greatest.cls 3 { frames := 1, cells := 0, slots := 0, locals := 22 }) : ∀ (fuel : Nat) (v1 : Int) (v2 : Int) (m_owner : Int → Int) (o : Int), m_Mod_greatest_5 fuel v1 v2 m_owner = some o → Rt G (some .int) (some (.int (zi o))) (w_Mod cI cB a0 a1 a2 a3 a4 a5 a6 a7 a8 a9 a10 a11 a12 a13 a14 a15 m_stepsMade m_stepsMost m_taped m_reading m_statements m_telling m_hasImage m_isKeeping m_cursor m_rowMany m_lots m_refused m_bytes m_owner m_block m_written m_waits m_kinds m_tape m_sort m_sortAt m_told m_kept m_was m_ends m_row) → Wx G 0 0 5 [(0, .ref a0), (1, .int (zi v1)), (2, .int (zi v2))] [] (w_Mod cI cB a0 a1 a2 a3 a4 a5 a6 a7 a8 a9 a10 a11 a12 a13 a14 a15 m_stepsMade m_stepsMost m_taped m_reading m_statements m_telling m_hasImage m_isKeeping m_cursor m_rowMany m_lots m_refused m_bytes m_owner m_block m_written m_waits m_kinds m_tape m_sort m_sortAt m_told m_kept m_was m_ends m_row) := by
  intro fuel
  induction fuel with
  | zero =>
    intro v1 v2 m_owner o h
    exact absurd h (by simp [m_Mod_greatest_5])
  | succ fuel ih =>
    intro v1 v2 m_owner o h hR
    rw [m_Mod_greatest_5] at h
    refine x_iload_n (pc := 5) X d_Mod_greatest_5 2 rfl rfl ?_
    refine x_bipush (pc := 6) (v := 64) X d_Mod_greatest_6 rfl ?_
    refine x_icmpge (pc := 8) (tgt := 44) X d_Mod_greatest_8 rfl h (fun h => ?_) (fun h => ?_)
    · skip
      refine x_iload_n (pc := 44) X d_Mod_greatest_44 1 rfl rfl ?_
      cases h
      exact x_iret (pc := 45) X hR d_Mod_greatest_45
    · skip
      refine x_aload_n (pc := 11) X d_Mod_greatest_11 0 rfl rfl ?_
      refine x_iload_n (pc := 12) X d_Mod_greatest_12 2 rfl rfl ?_
      obtain ⟨r1, h2, h⟩ := bnd_e h
      refine x_callV (pc := 13) (As := [.int (zi v2)]) (rest := []) (w2 := (w_Mod cI cB a0 a1 a2 a3 a4 a5 a6 a7 a8 a9 a10 a11 a12 a13 a14 a15 m_stepsMade m_stepsMost m_taped m_reading m_statements m_telling m_hasImage m_isKeeping m_cursor m_rowMany m_lots m_refused m_bytes m_owner m_block m_written m_waits m_kinds m_tape m_sort m_sortAt m_told m_kept m_was m_ends m_row)) X d_Mod_greatest_13 lk_Mod_86 mv_Mod_beginsRun (c_Mod_beginsRun l D cI cB a0 a1 a2 a3 a4 a5 a6 a7 a8 a9 a10 a11 a12 a13 a14 a15 m_stepsMade m_stepsMost m_taped m_reading m_statements m_telling m_hasImage m_isKeeping m_cursor m_rowMany m_lots m_refused m_bytes m_owner m_block m_written m_waits m_kinds m_tape m_sort m_sortAt m_told m_kept m_was m_ends m_row v2 h2) ⟨(Nat.le_of_ble_eq_true rfl), (Nat.le_of_ble_eq_true rfl), (Nat.le_of_ble_eq_true rfl), (Nat.le_of_ble_eq_true rfl)⟩ 0 rfl rfl [0, 1, 2, 3, 4, 5, 6, 7, 8, 9, 10, 11, 12, 13, 14, 15] rfl rfl rfl (Up.same rfl) rfl rfl (Nat.le_of_ble_eq_true rfl) ?_
      refine x_ifeq (pc := 16) (tgt := 38) X d_Mod_greatest_16 rfl h (fun h => ?_) (fun h => ?_)
      · skip
        refine x_iinc (pc := 38) (ls2 := [(2, .int (zi (v2 + 1))), (0, .ref a0), (1, .int (zi v1))]) X d_Mod_greatest_38 2 (Nat.le_of_ble_eq_true rfl) rfl rfl ?_
        refine x_goto (pc := 41) (tgt := 5) X d_Mod_greatest_41 rfl ?_
        refine x_ls (ls2 := [(0, .ref a0), (1, .int (zi v1)), (2, .int (zi (v2 + 1)))]) [1, 2, 0] rfl ?_
        exact ih v1 (v2 + 1) m_owner o h hR
      · skip
        refine x_iload_n (pc := 19) X d_Mod_greatest_19 1 rfl rfl ?_
        refine x_iflt (pc := 20) (tgt := 36) X d_Mod_greatest_20 rfl h (fun h => ?_) (fun h => ?_)
        · skip
          refine x_iload_n (pc := 36) X d_Mod_greatest_36 2 rfl rfl ?_
          refine x_istore_n (pc := 37) (ls2 := [(1, .int (zi v2)), (0, .ref a0), (2, .int (zi v2))]) X d_Mod_greatest_37 rfl (Nat.le_of_ble_eq_true rfl) rfl ?_
          refine x_iinc (pc := 38) (ls2 := [(2, .int (zi (v2 + 1))), (1, .int (zi v2)), (0, .ref a0)]) X d_Mod_greatest_38 2 (Nat.le_of_ble_eq_true rfl) rfl rfl ?_
          refine x_goto (pc := 41) (tgt := 5) X d_Mod_greatest_41 rfl ?_
          refine x_ls (ls2 := [(0, .ref a0), (1, .int (zi v2)), (2, .int (zi (v2 + 1)))]) [2, 1, 0] rfl ?_
          exact ih v2 (v2 + 1) m_owner o h hR
        · skip
          refine x_aload_n (pc := 23) X d_Mod_greatest_23 0 rfl rfl ?_
          refine x_iload_n (pc := 24) X d_Mod_greatest_24 2 rfl rfl ?_
          obtain ⟨r3, h4, h⟩ := bnd_e h
          refine x_callV (pc := 25) (As := [.int (zi v2)]) (rest := []) (w2 := (w_Mod cI cB a0 a1 a2 a3 a4 a5 a6 a7 a8 a9 a10 a11 a12 a13 a14 a15 m_stepsMade m_stepsMost m_taped m_reading m_statements m_telling m_hasImage m_isKeeping m_cursor m_rowMany m_lots m_refused m_bytes m_owner m_block m_written m_waits m_kinds m_tape m_sort m_sortAt m_told m_kept m_was m_ends m_row)) X d_Mod_greatest_25 lk_Mod_89 mv_Mod_runSize (c_Mod_runSize l D cI cB a0 a1 a2 a3 a4 a5 a6 a7 a8 a9 a10 a11 a12 a13 a14 a15 m_stepsMade m_stepsMost m_taped m_reading m_statements m_telling m_hasImage m_isKeeping m_cursor m_rowMany m_lots m_refused m_bytes m_owner m_block m_written m_waits m_kinds m_tape m_sort m_sortAt m_told m_kept m_was m_ends m_row v2 h4) ⟨(Nat.le_of_ble_eq_true rfl), (Nat.le_of_ble_eq_true rfl), (Nat.le_of_ble_eq_true rfl), (Nat.le_of_ble_eq_true rfl)⟩ 0 rfl rfl [0, 1, 2, 3, 4, 5, 6, 7, 8, 9, 10, 11, 12, 13, 14, 15] rfl rfl rfl (Up.same rfl) rfl rfl (Nat.le_of_ble_eq_true rfl) ?_
          refine x_aload_n (pc := 28) X d_Mod_greatest_28 0 rfl rfl ?_
          refine x_iload_n (pc := 29) X d_Mod_greatest_29 1 rfl rfl ?_
          obtain ⟨r5, h6, h⟩ := bnd_e h
          refine x_callV (pc := 30) (As := [.int (zi v1)]) (rest := [.int (zi r3)]) (w2 := (w_Mod cI cB a0 a1 a2 a3 a4 a5 a6 a7 a8 a9 a10 a11 a12 a13 a14 a15 m_stepsMade m_stepsMost m_taped m_reading m_statements m_telling m_hasImage m_isKeeping m_cursor m_rowMany m_lots m_refused m_bytes m_owner m_block m_written m_waits m_kinds m_tape m_sort m_sortAt m_told m_kept m_was m_ends m_row)) X d_Mod_greatest_30 lk_Mod_89 mv_Mod_runSize (c_Mod_runSize l D cI cB a0 a1 a2 a3 a4 a5 a6 a7 a8 a9 a10 a11 a12 a13 a14 a15 m_stepsMade m_stepsMost m_taped m_reading m_statements m_telling m_hasImage m_isKeeping m_cursor m_rowMany m_lots m_refused m_bytes m_owner m_block m_written m_waits m_kinds m_tape m_sort m_sortAt m_told m_kept m_was m_ends m_row v1 h6) ⟨(Nat.le_of_ble_eq_true rfl), (Nat.le_of_ble_eq_true rfl), (Nat.le_of_ble_eq_true rfl), (Nat.le_of_ble_eq_true rfl)⟩ 0 rfl rfl [0, 1, 2, 3, 4, 5, 6, 7, 8, 9, 10, 11, 12, 13, 14, 15] rfl rfl rfl (Up.same rfl) rfl rfl (Nat.le_of_ble_eq_true rfl) ?_
          refine x_icmple (pc := 33) (tgt := 38) X d_Mod_greatest_33 rfl h (fun h => ?_) (fun h => ?_)
          · skip
            refine x_iinc (pc := 38) (ls2 := [(2, .int (zi (v2 + 1))), (0, .ref a0), (1, .int (zi v1))]) X d_Mod_greatest_38 2 (Nat.le_of_ble_eq_true rfl) rfl rfl ?_
            refine x_goto (pc := 41) (tgt := 5) X d_Mod_greatest_41 rfl ?_
            refine x_ls (ls2 := [(0, .ref a0), (1, .int (zi v1)), (2, .int (zi (v2 + 1)))]) [1, 2, 0] rfl ?_
            exact ih v1 (v2 + 1) m_owner o h hR
          · skip
            refine x_iload_n (pc := 36) X d_Mod_greatest_36 2 rfl rfl ?_
            refine x_istore_n (pc := 37) (ls2 := [(1, .int (zi v2)), (0, .ref a0), (2, .int (zi v2))]) X d_Mod_greatest_37 rfl (Nat.le_of_ble_eq_true rfl) rfl ?_
            refine x_iinc (pc := 38) (ls2 := [(2, .int (zi (v2 + 1))), (1, .int (zi v2)), (0, .ref a0)]) X d_Mod_greatest_38 2 (Nat.le_of_ble_eq_true rfl) rfl rfl ?_
            refine x_goto (pc := 41) (tgt := 5) X d_Mod_greatest_41 rfl ?_
            refine x_ls (ls2 := [(0, .ref a0), (1, .int (zi v2)), (2, .int (zi (v2 + 1)))]) [2, 1, 0] rfl ?_
            exact ih v2 (v2 + 1) m_owner o h hR
set_option maxHeartbeats 4000000 in
set_option maxRecDepth 100000 in
theorem c_Mod_greatest (l : Launch) (D : va_G) (cI cB : ClassId) (a0 a1 a2 a3 a4 a5 a6 a7 a8 a9 a10 a11 a12 a13 a14 a15 : Nat) (m_stepsMade : Int) (m_stepsMost : Int) (m_taped : Int) (m_reading : Int) (m_statements : Int) (m_telling : Int) (m_hasImage : Int) (m_isKeeping : Int) (m_cursor : Int) (m_rowMany : Int) (m_lots : Int) (m_refused : Int → Int) (m_bytes : Int → Int) (m_owner : Int → Int) (m_block : Int → Int) (m_written : Int → Int) (m_waits : Int → Int) (m_kinds : Int → Int) (m_tape : Int → Int) (m_sort : Int → Int) (m_sortAt : Int → Int) (m_told : Int → Int) (m_kept : Int → Int) (m_was : Int → Int) (m_ends : Int → Int) (m_row : Int → Int)  {o : Int} (h : m_Mod_greatest m_owner = some o) : Ct l D cI cB y_Mod_greatest b_Mod_greatest 3 (some .int) { frames := 1, cells := 0, slots := 0, locals := 22 } [.ref a0] (w_Mod cI cB a0 a1 a2 a3 a4 a5 a6 a7 a8 a9 a10 a11 a12 a13 a14 a15 m_stepsMade m_stepsMost m_taped m_reading m_statements m_telling m_hasImage m_isKeeping m_cursor m_rowMany m_lots m_refused m_bytes m_owner m_block m_written m_waits m_kinds m_tape m_sort m_sortAt m_told m_kept m_was m_ends m_row) (w_Mod cI cB a0 a1 a2 a3 a4 a5 a6 a7 a8 a9 a10 a11 a12 a13 a14 a15 m_stepsMade m_stepsMost m_taped m_reading m_statements m_telling m_hasImage m_isKeeping m_cursor m_rowMany m_lots m_refused m_bytes m_owner m_block m_written m_waits m_kinds m_tape m_sort m_sortAt m_told m_kept m_was m_ends m_row) (some (.int (zi o))) := by
  refine Ct.start (by decide) (Nat.le_of_ble_eq_true rfl) (fun G X hR => ?_)
  refine x_ls (ls2 := [(0, .ref a0)]) [0] rfl ?_
  unfold m_Mod_greatest at h
  refine x_bipush (pc := 0) (v := -9) X d_Mod_greatest_0 rfl ?_
  refine x_istore_n (pc := 2) (ls2 := [(1, .int (zi (-9))), (0, .ref a0)]) X d_Mod_greatest_2 rfl (Nat.le_of_ble_eq_true rfl) rfl ?_
  refine x_iconst (pc := 3) X d_Mod_greatest_3  ?_
  refine x_istore_n (pc := 4) (ls2 := [(2, .int (zi 0)), (1, .int (zi (-9))), (0, .ref a0)]) X d_Mod_greatest_4 rfl (Nat.le_of_ble_eq_true rfl) rfl ?_
  refine x_ls (ls2 := [(0, .ref a0), (1, .int (zi (-9))), (2, .int (zi 0))]) [2, 1, 0] rfl ?_
  exact l_Mod_greatest_5 X 5000 (-9) 0 m_owner o h hR
theorem d_Mod_greatestSize_0 : decode b_Mod_greatestSize 0 = .ok (.aload_n 0, 1) := by decide +kernel
theorem d_Mod_greatestSize_1 : decode b_Mod_greatestSize 1 = .ok (.invokevirtual 92, 3) := by decide +kernel
theorem d_Mod_greatestSize_4 : decode b_Mod_greatestSize 4 = .ok (.istore_n 1, 1) := by decide +kernel
theorem d_Mod_greatestSize_5 : decode b_Mod_greatestSize 5 = .ok (.iload_n 1, 1) := by decide +kernel
theorem d_Mod_greatestSize_6 : decode b_Mod_greatestSize 6 = .ok (.ifCond .ge 7, 3) := by decide +kernel
theorem d_Mod_greatestSize_9 : decode b_Mod_greatestSize 9 = .ok (.iconst 0, 1) := by decide +kernel
theorem d_Mod_greatestSize_10 : decode b_Mod_greatestSize 10 = .ok (.goto 8, 3) := by decide +kernel
theorem d_Mod_greatestSize_13 : decode b_Mod_greatestSize 13 = .ok (.aload_n 0, 1) := by decide +kernel
theorem d_Mod_greatestSize_14 : decode b_Mod_greatestSize 14 = .ok (.iload_n 1, 1) := by decide +kernel
theorem d_Mod_greatestSize_15 : decode b_Mod_greatestSize 15 = .ok (.invokevirtual 89, 3) := by decide +kernel
theorem d_Mod_greatestSize_18 : decode b_Mod_greatestSize 18 = .ok (.ireturn, 1) := by decide +kernel
def m_Mod_greatestSize  (m_owner : Int → Int) : Option (Int) :=
  bnd (m_Mod_greatest m_owner) (fun r1 => clt r1 0 (some (0)) (bnd (m_Mod_runSize r1 m_owner) (fun r3 => some (r3))))
set_option maxHeartbeats 4000000 in
set_option maxRecDepth 100000 in
theorem c_Mod_greatestSize (l : Launch) (D : va_G) (cI cB : ClassId) (a0 a1 a2 a3 a4 a5 a6 a7 a8 a9 a10 a11 a12 a13 a14 a15 : Nat) (m_stepsMade : Int) (m_stepsMost : Int) (m_taped : Int) (m_reading : Int) (m_statements : Int) (m_telling : Int) (m_hasImage : Int) (m_isKeeping : Int) (m_cursor : Int) (m_rowMany : Int) (m_lots : Int) (m_refused : Int → Int) (m_bytes : Int → Int) (m_owner : Int → Int) (m_block : Int → Int) (m_written : Int → Int) (m_waits : Int → Int) (m_kinds : Int → Int) (m_tape : Int → Int) (m_sort : Int → Int) (m_sortAt : Int → Int) (m_told : Int → Int) (m_kept : Int → Int) (m_was : Int → Int) (m_ends : Int → Int) (m_row : Int → Int)  {o : Int} (h : m_Mod_greatestSize m_owner = some o) : Ct l D cI cB y_Mod_greatestSize b_Mod_greatestSize 2 (some .int) { frames := 2, cells := 0, slots := 0, locals := 44 } [.ref a0] (w_Mod cI cB a0 a1 a2 a3 a4 a5 a6 a7 a8 a9 a10 a11 a12 a13 a14 a15 m_stepsMade m_stepsMost m_taped m_reading m_statements m_telling m_hasImage m_isKeeping m_cursor m_rowMany m_lots m_refused m_bytes m_owner m_block m_written m_waits m_kinds m_tape m_sort m_sortAt m_told m_kept m_was m_ends m_row) (w_Mod cI cB a0 a1 a2 a3 a4 a5 a6 a7 a8 a9 a10 a11 a12 a13 a14 a15 m_stepsMade m_stepsMost m_taped m_reading m_statements m_telling m_hasImage m_isKeeping m_cursor m_rowMany m_lots m_refused m_bytes m_owner m_block m_written m_waits m_kinds m_tape m_sort m_sortAt m_told m_kept m_was m_ends m_row) (some (.int (zi o))) := by
  refine Ct.start (by decide) (Nat.le_of_ble_eq_true rfl) (fun G X hR => ?_)
  refine x_ls (ls2 := [(0, .ref a0)]) [0] rfl ?_
  unfold m_Mod_greatestSize at h
  refine x_aload_n (pc := 0) X d_Mod_greatestSize_0 0 rfl rfl ?_
  obtain ⟨r1, h2, h⟩ := bnd_e h
  refine x_callV (pc := 1) (As := []) (rest := []) (w2 := (w_Mod cI cB a0 a1 a2 a3 a4 a5 a6 a7 a8 a9 a10 a11 a12 a13 a14 a15 m_stepsMade m_stepsMost m_taped m_reading m_statements m_telling m_hasImage m_isKeeping m_cursor m_rowMany m_lots m_refused m_bytes m_owner m_block m_written m_waits m_kinds m_tape m_sort m_sortAt m_told m_kept m_was m_ends m_row)) X d_Mod_greatestSize_1 lk_Mod_92 mv_Mod_greatest (c_Mod_greatest l D cI cB a0 a1 a2 a3 a4 a5 a6 a7 a8 a9 a10 a11 a12 a13 a14 a15 m_stepsMade m_stepsMost m_taped m_reading m_statements m_telling m_hasImage m_isKeeping m_cursor m_rowMany m_lots m_refused m_bytes m_owner m_block m_written m_waits m_kinds m_tape m_sort m_sortAt m_told m_kept m_was m_ends m_row h2) ⟨(Nat.le_of_ble_eq_true rfl), (Nat.le_of_ble_eq_true rfl), (Nat.le_of_ble_eq_true rfl), (Nat.le_of_ble_eq_true rfl)⟩ 0 rfl rfl [0, 1, 2, 3, 4, 5, 6, 7, 8, 9, 10, 11, 12, 13, 14, 15] rfl rfl rfl (Up.same rfl) rfl rfl (Nat.le_of_ble_eq_true rfl) ?_
  refine x_istore_n (pc := 4) (ls2 := [(1, .int (zi r1)), (0, .ref a0)]) X d_Mod_greatestSize_4 rfl (Nat.le_of_ble_eq_true rfl) rfl ?_
  refine x_iload_n (pc := 5) X d_Mod_greatestSize_5 0 rfl rfl ?_
  refine x_ifge (pc := 6) (tgt := 13) X d_Mod_greatestSize_6 rfl h (fun h => ?_) (fun h => ?_)
  · skip
    refine x_aload_n (pc := 13) X d_Mod_greatestSize_13 1 rfl rfl ?_
    refine x_iload_n (pc := 14) X d_Mod_greatestSize_14 0 rfl rfl ?_
    obtain ⟨r3, h4, h⟩ := bnd_e h
    refine x_callV (pc := 15) (As := [.int (zi r1)]) (rest := []) (w2 := (w_Mod cI cB a0 a1 a2 a3 a4 a5 a6 a7 a8 a9 a10 a11 a12 a13 a14 a15 m_stepsMade m_stepsMost m_taped m_reading m_statements m_telling m_hasImage m_isKeeping m_cursor m_rowMany m_lots m_refused m_bytes m_owner m_block m_written m_waits m_kinds m_tape m_sort m_sortAt m_told m_kept m_was m_ends m_row)) X d_Mod_greatestSize_15 lk_Mod_89 mv_Mod_runSize (c_Mod_runSize l D cI cB a0 a1 a2 a3 a4 a5 a6 a7 a8 a9 a10 a11 a12 a13 a14 a15 m_stepsMade m_stepsMost m_taped m_reading m_statements m_telling m_hasImage m_isKeeping m_cursor m_rowMany m_lots m_refused m_bytes m_owner m_block m_written m_waits m_kinds m_tape m_sort m_sortAt m_told m_kept m_was m_ends m_row r1 h4) ⟨(Nat.le_of_ble_eq_true rfl), (Nat.le_of_ble_eq_true rfl), (Nat.le_of_ble_eq_true rfl), (Nat.le_of_ble_eq_true rfl)⟩ 0 rfl rfl [0, 1, 2, 3, 4, 5, 6, 7, 8, 9, 10, 11, 12, 13, 14, 15] rfl rfl rfl (Up.same rfl) rfl rfl (Nat.le_of_ble_eq_true rfl) ?_
    cases h
    exact x_iret (pc := 18) X hR d_Mod_greatestSize_18
  · skip
    refine x_iconst (pc := 9) X d_Mod_greatestSize_9  ?_
    refine x_goto (pc := 10) (tgt := 18) X d_Mod_greatestSize_10 rfl ?_
    cases h
    exact x_iret (pc := 18) X hR d_Mod_greatestSize_18
theorem d_Mod_goalOf_0 : decode b_Mod_goalOf 0 = .ok (.iload_n 1, 1) := by decide +kernel
theorem d_Mod_goalOf_1 : decode b_Mod_goalOf 1 = .ok (.bipush 24, 2) := by decide +kernel
theorem d_Mod_goalOf_3 : decode b_Mod_goalOf 3 = .ok (.irem, 1) := by decide +kernel
theorem d_Mod_goalOf_4 : decode b_Mod_goalOf 4 = .ok (.ifCond .eq 28, 3) := by decide +kernel
theorem d_Mod_goalOf_7 : decode b_Mod_goalOf 7 = .ok (.aload_n 0, 1) := by decide +kernel
theorem d_Mod_goalOf_8 : decode b_Mod_goalOf 8 = .ok (.iload_n 1, 1) := by decide +kernel
theorem d_Mod_goalOf_9 : decode b_Mod_goalOf 9 = .ok (.iconst 1, 1) := by decide +kernel
theorem d_Mod_goalOf_10 : decode b_Mod_goalOf 10 = .ok (.isub, 1) := by decide +kernel
theorem d_Mod_goalOf_11 : decode b_Mod_goalOf 11 = .ok (.invokevirtual 62, 3) := by decide +kernel
theorem d_Mod_goalOf_14 : decode b_Mod_goalOf 14 = .ok (.ifCond .eq 18, 3) := by decide +kernel
theorem d_Mod_goalOf_17 : decode b_Mod_goalOf 17 = .ok (.aload_n 0, 1) := by decide +kernel
theorem d_Mod_goalOf_18 : decode b_Mod_goalOf 18 = .ok (.getfield 19, 3) := by decide +kernel
theorem d_Mod_goalOf_21 : decode b_Mod_goalOf 21 = .ok (.iload_n 1, 1) := by decide +kernel
theorem d_Mod_goalOf_22 : decode b_Mod_goalOf 22 = .ok (.iconst 1, 1) := by decide +kernel
theorem d_Mod_goalOf_23 : decode b_Mod_goalOf 23 = .ok (.isub, 1) := by decide +kernel
theorem d_Mod_goalOf_24 : decode b_Mod_goalOf 24 = .ok (.iaload, 1) := by decide +kernel
theorem d_Mod_goalOf_25 : decode b_Mod_goalOf 25 = .ok (.iconst 1, 1) := by decide +kernel
theorem d_Mod_goalOf_26 : decode b_Mod_goalOf 26 = .ok (.iadd, 1) := by decide +kernel
theorem d_Mod_goalOf_27 : decode b_Mod_goalOf 27 = .ok (.bipush 64, 2) := by decide +kernel
theorem d_Mod_goalOf_29 : decode b_Mod_goalOf 29 = .ok (.if_icmp .ne 6, 3) := by decide +kernel
theorem d_Mod_goalOf_32 : decode b_Mod_goalOf 32 = .ok (.bipush (-9), 2) := by decide +kernel
theorem d_Mod_goalOf_34 : decode b_Mod_goalOf 34 = .ok (.ireturn, 1) := by decide +kernel
theorem d_Mod_goalOf_35 : decode b_Mod_goalOf 35 = .ok (.aload_n 0, 1) := by decide +kernel
theorem d_Mod_goalOf_36 : decode b_Mod_goalOf 36 = .ok (.getfield 19, 3) := by decide +kernel
theorem d_Mod_goalOf_39 : decode b_Mod_goalOf 39 = .ok (.iload_n 1, 1) := by decide +kernel
theorem d_Mod_goalOf_40 : decode b_Mod_goalOf 40 = .ok (.iconst 1, 1) := by decide +kernel
theorem d_Mod_goalOf_41 : decode b_Mod_goalOf 41 = .ok (.isub, 1) := by decide +kernel
theorem d_Mod_goalOf_42 : decode b_Mod_goalOf 42 = .ok (.iaload, 1) := by decide +kernel
theorem d_Mod_goalOf_43 : decode b_Mod_goalOf 43 = .ok (.iconst 1, 1) := by decide +kernel
theorem d_Mod_goalOf_44 : decode b_Mod_goalOf 44 = .ok (.iadd, 1) := by decide +kernel
theorem d_Mod_goalOf_45 : decode b_Mod_goalOf 45 = .ok (.ireturn, 1) := by decide +kernel
def m_Mod_goalOf (x1 : Int) (m_block : Int → Int) : Option (Int) :=
  gd (zx x1 2147483648 ∧ zp 24 2147483648) (ceq (x1 % 24) 0 (some ((-9))) (bnd (m_Mod_isPlaced (x1 - 1) m_block) (fun r1 => ceq r1 0 (some ((-9))) (gd (zx (x1 - 1) 96) (ceq ((m_block (x1 - 1)) + 1) 64 (some ((-9))) (gd (zx (x1 - 1) 96) (some (((m_block (x1 - 1)) + 1)))))))))
set_option maxHeartbeats 4000000 in
set_option maxRecDepth 100000 in
theorem c_Mod_goalOf (l : Launch) (D : va_G) (cI cB : ClassId) (a0 a1 a2 a3 a4 a5 a6 a7 a8 a9 a10 a11 a12 a13 a14 a15 : Nat) (m_stepsMade : Int) (m_stepsMost : Int) (m_taped : Int) (m_reading : Int) (m_statements : Int) (m_telling : Int) (m_hasImage : Int) (m_isKeeping : Int) (m_cursor : Int) (m_rowMany : Int) (m_lots : Int) (m_refused : Int → Int) (m_bytes : Int → Int) (m_owner : Int → Int) (m_block : Int → Int) (m_written : Int → Int) (m_waits : Int → Int) (m_kinds : Int → Int) (m_tape : Int → Int) (m_sort : Int → Int) (m_sortAt : Int → Int) (m_told : Int → Int) (m_kept : Int → Int) (m_was : Int → Int) (m_ends : Int → Int) (m_row : Int → Int) (x1 : Int) {o : Int} (h : m_Mod_goalOf x1 m_block = some o) : Ct l D cI cB y_Mod_goalOf b_Mod_goalOf 2 (some .int) { frames := 1, cells := 0, slots := 0, locals := 21 } [.ref a0, .int (zi x1)] (w_Mod cI cB a0 a1 a2 a3 a4 a5 a6 a7 a8 a9 a10 a11 a12 a13 a14 a15 m_stepsMade m_stepsMost m_taped m_reading m_statements m_telling m_hasImage m_isKeeping m_cursor m_rowMany m_lots m_refused m_bytes m_owner m_block m_written m_waits m_kinds m_tape m_sort m_sortAt m_told m_kept m_was m_ends m_row) (w_Mod cI cB a0 a1 a2 a3 a4 a5 a6 a7 a8 a9 a10 a11 a12 a13 a14 a15 m_stepsMade m_stepsMost m_taped m_reading m_statements m_telling m_hasImage m_isKeeping m_cursor m_rowMany m_lots m_refused m_bytes m_owner m_block m_written m_waits m_kinds m_tape m_sort m_sortAt m_told m_kept m_was m_ends m_row) (some (.int (zi o))) := by
  refine Ct.start (by decide) (Nat.le_of_ble_eq_true rfl) (fun G X hR => ?_)
  refine x_ls (ls2 := [(0, .ref a0), (1, .int (zi x1))]) [0, 1] rfl ?_
  unfold m_Mod_goalOf at h
  refine x_iload_n (pc := 0) X d_Mod_goalOf_0 1 rfl rfl ?_
  refine x_bipush (pc := 1) (v := 24) X d_Mod_goalOf_1 rfl ?_
  refine x_irem (pc := 3) X d_Mod_goalOf_3 h (fun h => ?_)
  refine x_ifeq (pc := 4) (tgt := 32) X d_Mod_goalOf_4 rfl h (fun h => ?_) (fun h => ?_)
  · skip
    refine x_bipush (pc := 32) (v := -9) X d_Mod_goalOf_32 rfl ?_
    cases h
    exact x_iret (pc := 34) X hR d_Mod_goalOf_34
  · skip
    refine x_aload_n (pc := 7) X d_Mod_goalOf_7 0 rfl rfl ?_
    refine x_iload_n (pc := 8) X d_Mod_goalOf_8 1 rfl rfl ?_
    refine x_iconst (pc := 9) X d_Mod_goalOf_9  ?_
    refine x_isub (pc := 10) X d_Mod_goalOf_10  ?_
    obtain ⟨r1, h2, h⟩ := bnd_e h
    refine x_callV (pc := 11) (As := [.int (zi (x1 - 1))]) (rest := []) (w2 := (w_Mod cI cB a0 a1 a2 a3 a4 a5 a6 a7 a8 a9 a10 a11 a12 a13 a14 a15 m_stepsMade m_stepsMost m_taped m_reading m_statements m_telling m_hasImage m_isKeeping m_cursor m_rowMany m_lots m_refused m_bytes m_owner m_block m_written m_waits m_kinds m_tape m_sort m_sortAt m_told m_kept m_was m_ends m_row)) X d_Mod_goalOf_11 lk_Mod_62 mv_Mod_isPlaced (c_Mod_isPlaced l D cI cB a0 a1 a2 a3 a4 a5 a6 a7 a8 a9 a10 a11 a12 a13 a14 a15 m_stepsMade m_stepsMost m_taped m_reading m_statements m_telling m_hasImage m_isKeeping m_cursor m_rowMany m_lots m_refused m_bytes m_owner m_block m_written m_waits m_kinds m_tape m_sort m_sortAt m_told m_kept m_was m_ends m_row (x1 - 1) h2) ⟨(Nat.le_of_ble_eq_true rfl), (Nat.le_of_ble_eq_true rfl), (Nat.le_of_ble_eq_true rfl), (Nat.le_of_ble_eq_true rfl)⟩ 0 rfl rfl [0, 1, 2, 3, 4, 5, 6, 7, 8, 9, 10, 11, 12, 13, 14, 15] rfl rfl rfl (Up.same rfl) rfl rfl (Nat.le_of_ble_eq_true rfl) ?_
    refine x_ifeq (pc := 14) (tgt := 32) X d_Mod_goalOf_14 rfl h (fun h => ?_) (fun h => ?_)
    · skip
      refine x_bipush (pc := 32) (v := -9) X d_Mod_goalOf_32 rfl ?_
      cases h
      exact x_iret (pc := 34) X hR d_Mod_goalOf_34
    · skip
      refine x_aload_n (pc := 17) X d_Mod_goalOf_17 0 rfl rfl ?_
      refine x_get (pc := 18) X d_Mod_goalOf_18 0 rfl fl_Mod_19 rfl ?_
      refine x_iload_n (pc := 21) X d_Mod_goalOf_21 1 rfl rfl ?_
      refine x_iconst (pc := 22) X d_Mod_goalOf_22  ?_
      refine x_isub (pc := 23) X d_Mod_goalOf_23  ?_
      refine x_iald (pc := 24) X d_Mod_goalOf_24 4 rfl (Nat.le_of_ble_eq_true rfl) rfl h (fun h => ?_)
      refine x_iconst (pc := 25) X d_Mod_goalOf_25  ?_
      refine x_iadd (pc := 26) X d_Mod_goalOf_26  ?_
      refine x_bipush (pc := 27) (v := 64) X d_Mod_goalOf_27 rfl ?_
      refine x_icmpne (pc := 29) (tgt := 35) X d_Mod_goalOf_29 rfl h (fun h => ?_) (fun h => ?_)
      · skip
        refine x_aload_n (pc := 35) X d_Mod_goalOf_35 0 rfl rfl ?_
        refine x_get (pc := 36) X d_Mod_goalOf_36 0 rfl fl_Mod_19 rfl ?_
        refine x_iload_n (pc := 39) X d_Mod_goalOf_39 1 rfl rfl ?_
        refine x_iconst (pc := 40) X d_Mod_goalOf_40  ?_
        refine x_isub (pc := 41) X d_Mod_goalOf_41  ?_
        refine x_iald (pc := 42) X d_Mod_goalOf_42 4 rfl (Nat.le_of_ble_eq_true rfl) rfl h (fun h => ?_)
        refine x_iconst (pc := 43) X d_Mod_goalOf_43  ?_
        refine x_iadd (pc := 44) X d_Mod_goalOf_44  ?_
        cases h
        exact x_iret (pc := 45) X hR d_Mod_goalOf_45
      · skip
        refine x_bipush (pc := 32) (v := -9) X d_Mod_goalOf_32 rfl ?_
        cases h
        exact x_iret (pc := 34) X hR d_Mod_goalOf_34
theorem d_Mod_fitOf_0 : decode b_Mod_fitOf 0 = .ok (.bipush (-9), 2) := by decide +kernel
theorem d_Mod_fitOf_2 : decode b_Mod_fitOf 2 = .ok (.istore_n 2, 1) := by decide +kernel
theorem d_Mod_fitOf_3 : decode b_Mod_fitOf 3 = .ok (.iconst 0, 1) := by decide +kernel
theorem d_Mod_fitOf_4 : decode b_Mod_fitOf 4 = .ok (.istore_n 3, 1) := by decide +kernel
theorem d_Mod_fitOf_5 : decode b_Mod_fitOf 5 = .ok (.iload_n 3, 1) := by decide +kernel
theorem d_Mod_fitOf_6 : decode b_Mod_fitOf 6 = .ok (.bipush 64, 2) := by decide +kernel
theorem d_Mod_fitOf_8 : decode b_Mod_fitOf 8 = .ok (.if_icmp .ge 45, 3) := by decide +kernel
theorem d_Mod_fitOf_11 : decode b_Mod_fitOf 11 = .ok (.aload_n 0, 1) := by decide +kernel
theorem d_Mod_fitOf_12 : decode b_Mod_fitOf 12 = .ok (.iload_n 3, 1) := by decide +kernel
theorem d_Mod_fitOf_13 : decode b_Mod_fitOf 13 = .ok (.invokevirtual 86, 3) := by decide +kernel
theorem d_Mod_fitOf_16 : decode b_Mod_fitOf 16 = .ok (.ifCond .eq 31, 3) := by decide +kernel
theorem d_Mod_fitOf_19 : decode b_Mod_fitOf 19 = .ok (.aload_n 0, 1) := by decide +kernel
theorem d_Mod_fitOf_20 : decode b_Mod_fitOf 20 = .ok (.iload_n 3, 1) := by decide +kernel
theorem d_Mod_fitOf_21 : decode b_Mod_fitOf 21 = .ok (.invokevirtual 89, 3) := by decide +kernel
theorem d_Mod_fitOf_24 : decode b_Mod_fitOf 24 = .ok (.iload_n 1, 1) := by decide +kernel
theorem d_Mod_fitOf_25 : decode b_Mod_fitOf 25 = .ok (.if_icmp .lt 22, 3) := by decide +kernel
theorem d_Mod_fitOf_28 : decode b_Mod_fitOf 28 = .ok (.iload_n 2, 1) := by decide +kernel
theorem d_Mod_fitOf_29 : decode b_Mod_fitOf 29 = .ok (.ifCond .lt 16, 3) := by decide +kernel
theorem d_Mod_fitOf_32 : decode b_Mod_fitOf 32 = .ok (.aload_n 0, 1) := by decide +kernel
theorem d_Mod_fitOf_33 : decode b_Mod_fitOf 33 = .ok (.iload_n 3, 1) := by decide +kernel
theorem d_Mod_fitOf_34 : decode b_Mod_fitOf 34 = .ok (.invokevirtual 89, 3) := by decide +kernel
theorem d_Mod_fitOf_37 : decode b_Mod_fitOf 37 = .ok (.aload_n 0, 1) := by decide +kernel
theorem d_Mod_fitOf_38 : decode b_Mod_fitOf 38 = .ok (.iload_n 2, 1) := by decide +kernel
theorem d_Mod_fitOf_39 : decode b_Mod_fitOf 39 = .ok (.invokevirtual 89, 3) := by decide +kernel
theorem d_Mod_fitOf_42 : decode b_Mod_fitOf 42 = .ok (.if_icmp .ge 5, 3) := by decide +kernel
theorem d_Mod_fitOf_45 : decode b_Mod_fitOf 45 = .ok (.iload_n 3, 1) := by decide +kernel
theorem d_Mod_fitOf_46 : decode b_Mod_fitOf 46 = .ok (.istore_n 2, 1) := by decide +kernel
theorem d_Mod_fitOf_47 : decode b_Mod_fitOf 47 = .ok (.iinc 3 1, 3) := by decide +kernel
theorem d_Mod_fitOf_50 : decode b_Mod_fitOf 50 = .ok (.goto (-45), 3) := by decide +kernel
theorem d_Mod_fitOf_53 : decode b_Mod_fitOf 53 = .ok (.iload_n 2, 1) := by decide +kernel
theorem d_Mod_fitOf_54 : decode b_Mod_fitOf 54 = .ok (.ireturn, 1) := by decide +kernel
def m_Mod_fitOf_5 : Nat → Int → Int → Int → (Int → Int) → Option (Int)
  | 0, _, _, _, _ => none
  | fuel + 1, v1, v2, v3, m_owner =>
  clt v3 64 (bnd (m_Mod_beginsRun v3 m_owner) (fun r1 => ceq r1 0 (m_Mod_fitOf_5 fuel v1 v2 (v3 + 1) m_owner) (bnd (m_Mod_runSize v3 m_owner) (fun r3 => clt r3 v1 (m_Mod_fitOf_5 fuel v1 v2 (v3 + 1) m_owner) (clt v2 0 (m_Mod_fitOf_5 fuel v1 v3 (v3 + 1) m_owner) (bnd (m_Mod_runSize v3 m_owner) (fun r5 => bnd (m_Mod_runSize v2 m_owner) (fun r7 => clt r5 r7 (m_Mod_fitOf_5 fuel v1 v3 (v3 + 1) m_owner) (m_Mod_fitOf_5 fuel v1 v2 (v3 + 1) m_owner))))))))) (some (v2))
def m_Mod_fitOf (x1 : Int) (m_owner : Int → Int) : Option (Int) :=
  m_Mod_fitOf_5 5000 x1 (-9) 0 m_owner
set_option maxHeartbeats 4000000 in
set_option maxRecDepth 100000 in
theorem l_Mod_fitOf_5 {G : GT} {l : Launch} {D : va_G} {cI cB : ClassId} {a0 a1 a2 a3 a4 a5 a6 a7 a8 a9 a10 a11 a12 a13 a14 a15 : Nat} {m_stepsMade : Int} {m_stepsMost : Int} {m_taped : Int} {m_reading : Int} {m_statements : Int} {m_telling : Int} {m_hasImage : Int} {m_isKeeping : Int} {m_cursor : Int} {m_rowMany : Int} {m_lots : Int} {m_refused : Int → Int} {m_bytes : Int → Int} {m_block : Int → Int} {m_written : Int → Int} {m_waits : Int → Int} {m_kinds : Int → Int} {m_tape : Int → Int} {m_sort : Int → Int} {m_sortAt : Int → Int} {m_told : Int → Int} {m_kept : Int → Int} {m_was : Int → Int} {m_ends : Int → Int} {m_row : Int → Int} (X : Cx G l D cI cB b_Mod_fitOf y_Mod_fitOf.cls 4 { frames := 1, cells := 0, slots := 0, locals := 22 }) : ∀ (fuel : Nat) (v1 : Int) (v2 : Int) (v3 : Int) (m_owner : Int → Int) (o : Int), m_Mod_fitOf_5 fuel v1 v2 v3 m_owner = some o → Rt G (some .int) (some (.int (zi o))) (w_Mod cI cB a0 a1 a2 a3 a4 a5 a6 a7 a8 a9 a10 a11 a12 a13 a14 a15 m_stepsMade m_stepsMost m_taped m_reading m_statements m_telling m_hasImage m_isKeeping m_cursor m_rowMany m_lots m_refused m_bytes m_owner m_block m_written m_waits m_kinds m_tape m_sort m_sortAt m_told m_kept m_was m_ends m_row) → Wx G 0 0 5 [(0, .ref a0), (1, .int (zi v1)), (2, .int (zi v2)), (3, .int (zi v3))] [] (w_Mod cI cB a0 a1 a2 a3 a4 a5 a6 a7 a8 a9 a10 a11 a12 a13 a14 a15 m_stepsMade m_stepsMost m_taped m_reading m_statements m_telling m_hasImage m_isKeeping m_cursor m_rowMany m_lots m_refused m_bytes m_owner m_block m_written m_waits m_kinds m_tape m_sort m_sortAt m_told m_kept m_was m_ends m_row) := by
  intro fuel
  induction fuel with
  | zero =>
    intro v1 v2 v3 m_owner o h
    exact absurd h (by simp [m_Mod_fitOf_5])
  | succ fuel ih =>
    intro v1 v2 v3 m_owner o h hR
    rw [m_Mod_fitOf_5] at h
    refine x_iload_n (pc := 5) X d_Mod_fitOf_5 3 rfl rfl ?_
    refine x_bipush (pc := 6) (v := 64) X d_Mod_fitOf_6 rfl ?_
    refine x_icmpge (pc := 8) (tgt := 53) X d_Mod_fitOf_8 rfl h (fun h => ?_) (fun h => ?_)
    · skip
      refine x_iload_n (pc := 53) X d_Mod_fitOf_53 2 rfl rfl ?_
      cases h
      exact x_iret (pc := 54) X hR d_Mod_fitOf_54
    · skip
      refine x_aload_n (pc := 11) X d_Mod_fitOf_11 0 rfl rfl ?_
      refine x_iload_n (pc := 12) X d_Mod_fitOf_12 3 rfl rfl ?_
      obtain ⟨r1, h2, h⟩ := bnd_e h
      refine x_callV (pc := 13) (As := [.int (zi v3)]) (rest := []) (w2 := (w_Mod cI cB a0 a1 a2 a3 a4 a5 a6 a7 a8 a9 a10 a11 a12 a13 a14 a15 m_stepsMade m_stepsMost m_taped m_reading m_statements m_telling m_hasImage m_isKeeping m_cursor m_rowMany m_lots m_refused m_bytes m_owner m_block m_written m_waits m_kinds m_tape m_sort m_sortAt m_told m_kept m_was m_ends m_row)) X d_Mod_fitOf_13 lk_Mod_86 mv_Mod_beginsRun (c_Mod_beginsRun l D cI cB a0 a1 a2 a3 a4 a5 a6 a7 a8 a9 a10 a11 a12 a13 a14 a15 m_stepsMade m_stepsMost m_taped m_reading m_statements m_telling m_hasImage m_isKeeping m_cursor m_rowMany m_lots m_refused m_bytes m_owner m_block m_written m_waits m_kinds m_tape m_sort m_sortAt m_told m_kept m_was m_ends m_row v3 h2) ⟨(Nat.le_of_ble_eq_true rfl), (Nat.le_of_ble_eq_true rfl), (Nat.le_of_ble_eq_true rfl), (Nat.le_of_ble_eq_true rfl)⟩ 0 rfl rfl [0, 1, 2, 3, 4, 5, 6, 7, 8, 9, 10, 11, 12, 13, 14, 15] rfl rfl rfl (Up.same rfl) rfl rfl (Nat.le_of_ble_eq_true rfl) ?_
      refine x_ifeq (pc := 16) (tgt := 47) X d_Mod_fitOf_16 rfl h (fun h => ?_) (fun h => ?_)
      · skip
        refine x_iinc (pc := 47) (ls2 := [(3, .int (zi (v3 + 1))), (0, .ref a0), (1, .int (zi v1)), (2, .int (zi v2))]) X d_Mod_fitOf_47 3 (Nat.le_of_ble_eq_true rfl) rfl rfl ?_
        refine x_goto (pc := 50) (tgt := 5) X d_Mod_fitOf_50 rfl ?_
        refine x_ls (ls2 := [(0, .ref a0), (1, .int (zi v1)), (2, .int (zi v2)), (3, .int (zi (v3 + 1)))]) [1, 2, 3, 0] rfl ?_
        exact ih v1 v2 (v3 + 1) m_owner o h hR
      · skip
        refine x_aload_n (pc := 19) X d_Mod_fitOf_19 0 rfl rfl ?_
        refine x_iload_n (pc := 20) X d_Mod_fitOf_20 3 rfl rfl ?_
        obtain ⟨r3, h4, h⟩ := bnd_e h
        refine x_callV (pc := 21) (As := [.int (zi v3)]) (rest := []) (w2 := (w_Mod cI cB a0 a1 a2 a3 a4 a5 a6 a7 a8 a9 a10 a11 a12 a13 a14 a15 m_stepsMade m_stepsMost m_taped m_reading m_statements m_telling m_hasImage m_isKeeping m_cursor m_rowMany m_lots m_refused m_bytes m_owner m_block m_written m_waits m_kinds m_tape m_sort m_sortAt m_told m_kept m_was m_ends m_row)) X d_Mod_fitOf_21 lk_Mod_89 mv_Mod_runSize (c_Mod_runSize l D cI cB a0 a1 a2 a3 a4 a5 a6 a7 a8 a9 a10 a11 a12 a13 a14 a15 m_stepsMade m_stepsMost m_taped m_reading m_statements m_telling m_hasImage m_isKeeping m_cursor m_rowMany m_lots m_refused m_bytes m_owner m_block m_written m_waits m_kinds m_tape m_sort m_sortAt m_told m_kept m_was m_ends m_row v3 h4) ⟨(Nat.le_of_ble_eq_true rfl), (Nat.le_of_ble_eq_true rfl), (Nat.le_of_ble_eq_true rfl), (Nat.le_of_ble_eq_true rfl)⟩ 0 rfl rfl [0, 1, 2, 3, 4, 5, 6, 7, 8, 9, 10, 11, 12, 13, 14, 15] rfl rfl rfl (Up.same rfl) rfl rfl (Nat.le_of_ble_eq_true rfl) ?_
        refine x_iload_n (pc := 24) X d_Mod_fitOf_24 1 rfl rfl ?_
        refine x_icmplt (pc := 25) (tgt := 47) X d_Mod_fitOf_25 rfl h (fun h => ?_) (fun h => ?_)
        · skip
          refine x_iinc (pc := 47) (ls2 := [(3, .int (zi (v3 + 1))), (0, .ref a0), (1, .int (zi v1)), (2, .int (zi v2))]) X d_Mod_fitOf_47 3 (Nat.le_of_ble_eq_true rfl) rfl rfl ?_
          refine x_goto (pc := 50) (tgt := 5) X d_Mod_fitOf_50 rfl ?_
          refine x_ls (ls2 := [(0, .ref a0), (1, .int (zi v1)), (2, .int (zi v2)), (3, .int (zi (v3 + 1)))]) [1, 2, 3, 0] rfl ?_
          exact ih v1 v2 (v3 + 1) m_owner o h hR
        · skip
          refine x_iload_n (pc := 28) X d_Mod_fitOf_28 2 rfl rfl ?_
          refine x_iflt (pc := 29) (tgt := 45) X d_Mod_fitOf_29 rfl h (fun h => ?_) (fun h => ?_)
          · skip
            refine x_iload_n (pc := 45) X d_Mod_fitOf_45 3 rfl rfl ?_
            refine x_istore_n (pc := 46) (ls2 := [(2, .int (zi v3)), (0, .ref a0), (1, .int (zi v1)), (3, .int (zi v3))]) X d_Mod_fitOf_46 rfl (Nat.le_of_ble_eq_true rfl) rfl ?_
            refine x_iinc (pc := 47) (ls2 := [(3, .int (zi (v3 + 1))), (2, .int (zi v3)), (0, .ref a0), (1, .int (zi v1))]) X d_Mod_fitOf_47 3 (Nat.le_of_ble_eq_true rfl) rfl rfl ?_
            refine x_goto (pc := 50) (tgt := 5) X d_Mod_fitOf_50 rfl ?_
            refine x_ls (ls2 := [(0, .ref a0), (1, .int (zi v1)), (2, .int (zi v3)), (3, .int (zi (v3 + 1)))]) [2, 3, 1, 0] rfl ?_
            exact ih v1 v3 (v3 + 1) m_owner o h hR
          · skip
            refine x_aload_n (pc := 32) X d_Mod_fitOf_32 0 rfl rfl ?_
            refine x_iload_n (pc := 33) X d_Mod_fitOf_33 3 rfl rfl ?_
            obtain ⟨r5, h6, h⟩ := bnd_e h
            refine x_callV (pc := 34) (As := [.int (zi v3)]) (rest := []) (w2 := (w_Mod cI cB a0 a1 a2 a3 a4 a5 a6 a7 a8 a9 a10 a11 a12 a13 a14 a15 m_stepsMade m_stepsMost m_taped m_reading m_statements m_telling m_hasImage m_isKeeping m_cursor m_rowMany m_lots m_refused m_bytes m_owner m_block m_written m_waits m_kinds m_tape m_sort m_sortAt m_told m_kept m_was m_ends m_row)) X d_Mod_fitOf_34 lk_Mod_89 mv_Mod_runSize (c_Mod_runSize l D cI cB a0 a1 a2 a3 a4 a5 a6 a7 a8 a9 a10 a11 a12 a13 a14 a15 m_stepsMade m_stepsMost m_taped m_reading m_statements m_telling m_hasImage m_isKeeping m_cursor m_rowMany m_lots m_refused m_bytes m_owner m_block m_written m_waits m_kinds m_tape m_sort m_sortAt m_told m_kept m_was m_ends m_row v3 h6) ⟨(Nat.le_of_ble_eq_true rfl), (Nat.le_of_ble_eq_true rfl), (Nat.le_of_ble_eq_true rfl), (Nat.le_of_ble_eq_true rfl)⟩ 0 rfl rfl [0, 1, 2, 3, 4, 5, 6, 7, 8, 9, 10, 11, 12, 13, 14, 15] rfl rfl rfl (Up.same rfl) rfl rfl (Nat.le_of_ble_eq_true rfl) ?_
            refine x_aload_n (pc := 37) X d_Mod_fitOf_37 0 rfl rfl ?_
            refine x_iload_n (pc := 38) X d_Mod_fitOf_38 2 rfl rfl ?_
            obtain ⟨r7, h8, h⟩ := bnd_e h
            refine x_callV (pc := 39) (As := [.int (zi v2)]) (rest := [.int (zi r5)]) (w2 := (w_Mod cI cB a0 a1 a2 a3 a4 a5 a6 a7 a8 a9 a10 a11 a12 a13 a14 a15 m_stepsMade m_stepsMost m_taped m_reading m_statements m_telling m_hasImage m_isKeeping m_cursor m_rowMany m_lots m_refused m_bytes m_owner m_block m_written m_waits m_kinds m_tape m_sort m_sortAt m_told m_kept m_was m_ends m_row)) X d_Mod_fitOf_39 lk_Mod_89 mv_Mod_runSize (c_Mod_runSize l D cI cB a0 a1 a2 a3 a4 a5 a6 a7 a8 a9 a10 a11 a12 a13 a14 a15 m_stepsMade m_stepsMost m_taped m_reading m_statements m_telling m_hasImage m_isKeeping m_cursor m_rowMany m_lots m_refused m_bytes m_owner m_block m_written m_waits m_kinds m_tape m_sort m_sortAt m_told m_kept m_was m_ends m_row v2 h8) ⟨(Nat.le_of_ble_eq_true rfl), (Nat.le_of_ble_eq_true rfl), (Nat.le_of_ble_eq_true rfl), (Nat.le_of_ble_eq_true rfl)⟩ 0 rfl rfl [0, 1, 2, 3, 4, 5, 6, 7, 8, 9, 10, 11, 12, 13, 14, 15] rfl rfl rfl (Up.same rfl) rfl rfl (Nat.le_of_ble_eq_true rfl) ?_
            refine x_icmpge (pc := 42) (tgt := 47) X d_Mod_fitOf_42 rfl h (fun h => ?_) (fun h => ?_)
            · skip
              refine x_iinc (pc := 47) (ls2 := [(3, .int (zi (v3 + 1))), (0, .ref a0), (1, .int (zi v1)), (2, .int (zi v2))]) X d_Mod_fitOf_47 3 (Nat.le_of_ble_eq_true rfl) rfl rfl ?_
              refine x_goto (pc := 50) (tgt := 5) X d_Mod_fitOf_50 rfl ?_
              refine x_ls (ls2 := [(0, .ref a0), (1, .int (zi v1)), (2, .int (zi v2)), (3, .int (zi (v3 + 1)))]) [1, 2, 3, 0] rfl ?_
              exact ih v1 v2 (v3 + 1) m_owner o h hR
            · skip
              refine x_iload_n (pc := 45) X d_Mod_fitOf_45 3 rfl rfl ?_
              refine x_istore_n (pc := 46) (ls2 := [(2, .int (zi v3)), (0, .ref a0), (1, .int (zi v1)), (3, .int (zi v3))]) X d_Mod_fitOf_46 rfl (Nat.le_of_ble_eq_true rfl) rfl ?_
              refine x_iinc (pc := 47) (ls2 := [(3, .int (zi (v3 + 1))), (2, .int (zi v3)), (0, .ref a0), (1, .int (zi v1))]) X d_Mod_fitOf_47 3 (Nat.le_of_ble_eq_true rfl) rfl rfl ?_
              refine x_goto (pc := 50) (tgt := 5) X d_Mod_fitOf_50 rfl ?_
              refine x_ls (ls2 := [(0, .ref a0), (1, .int (zi v1)), (2, .int (zi v3)), (3, .int (zi (v3 + 1)))]) [2, 3, 1, 0] rfl ?_
              exact ih v1 v3 (v3 + 1) m_owner o h hR
set_option maxHeartbeats 4000000 in
set_option maxRecDepth 100000 in
theorem c_Mod_fitOf (l : Launch) (D : va_G) (cI cB : ClassId) (a0 a1 a2 a3 a4 a5 a6 a7 a8 a9 a10 a11 a12 a13 a14 a15 : Nat) (m_stepsMade : Int) (m_stepsMost : Int) (m_taped : Int) (m_reading : Int) (m_statements : Int) (m_telling : Int) (m_hasImage : Int) (m_isKeeping : Int) (m_cursor : Int) (m_rowMany : Int) (m_lots : Int) (m_refused : Int → Int) (m_bytes : Int → Int) (m_owner : Int → Int) (m_block : Int → Int) (m_written : Int → Int) (m_waits : Int → Int) (m_kinds : Int → Int) (m_tape : Int → Int) (m_sort : Int → Int) (m_sortAt : Int → Int) (m_told : Int → Int) (m_kept : Int → Int) (m_was : Int → Int) (m_ends : Int → Int) (m_row : Int → Int) (x1 : Int) {o : Int} (h : m_Mod_fitOf x1 m_owner = some o) : Ct l D cI cB y_Mod_fitOf b_Mod_fitOf 4 (some .int) { frames := 1, cells := 0, slots := 0, locals := 22 } [.ref a0, .int (zi x1)] (w_Mod cI cB a0 a1 a2 a3 a4 a5 a6 a7 a8 a9 a10 a11 a12 a13 a14 a15 m_stepsMade m_stepsMost m_taped m_reading m_statements m_telling m_hasImage m_isKeeping m_cursor m_rowMany m_lots m_refused m_bytes m_owner m_block m_written m_waits m_kinds m_tape m_sort m_sortAt m_told m_kept m_was m_ends m_row) (w_Mod cI cB a0 a1 a2 a3 a4 a5 a6 a7 a8 a9 a10 a11 a12 a13 a14 a15 m_stepsMade m_stepsMost m_taped m_reading m_statements m_telling m_hasImage m_isKeeping m_cursor m_rowMany m_lots m_refused m_bytes m_owner m_block m_written m_waits m_kinds m_tape m_sort m_sortAt m_told m_kept m_was m_ends m_row) (some (.int (zi o))) := by
  refine Ct.start (by decide) (Nat.le_of_ble_eq_true rfl) (fun G X hR => ?_)
  refine x_ls (ls2 := [(0, .ref a0), (1, .int (zi x1))]) [0, 1] rfl ?_
  unfold m_Mod_fitOf at h
  refine x_bipush (pc := 0) (v := -9) X d_Mod_fitOf_0 rfl ?_
  refine x_istore_n (pc := 2) (ls2 := [(2, .int (zi (-9))), (0, .ref a0), (1, .int (zi x1))]) X d_Mod_fitOf_2 rfl (Nat.le_of_ble_eq_true rfl) rfl ?_
  refine x_iconst (pc := 3) X d_Mod_fitOf_3  ?_
  refine x_istore_n (pc := 4) (ls2 := [(3, .int (zi 0)), (2, .int (zi (-9))), (0, .ref a0), (1, .int (zi x1))]) X d_Mod_fitOf_4 rfl (Nat.le_of_ble_eq_true rfl) rfl ?_
  refine x_ls (ls2 := [(0, .ref a0), (1, .int (zi x1)), (2, .int (zi (-9))), (3, .int (zi 0))]) [2, 3, 1, 0] rfl ?_
  exact l_Mod_fitOf_5 X 5000 x1 (-9) 0 m_owner o h hR
theorem d_Mod_nearPlace_0 : decode b_Mod_nearPlace 0 = .ok (.iload_n 1, 1) := by decide +kernel
theorem d_Mod_nearPlace_1 : decode b_Mod_nearPlace 1 = .ok (.ifCond .lt 16, 3) := by decide +kernel
theorem d_Mod_nearPlace_4 : decode b_Mod_nearPlace 4 = .ok (.aload_n 0, 1) := by decide +kernel
theorem d_Mod_nearPlace_5 : decode b_Mod_nearPlace 5 = .ok (.iload_n 1, 1) := by decide +kernel
theorem d_Mod_nearPlace_6 : decode b_Mod_nearPlace 6 = .ok (.invokevirtual 89, 3) := by decide +kernel
theorem d_Mod_nearPlace_9 : decode b_Mod_nearPlace 9 = .ok (.iload_n 2, 1) := by decide +kernel
theorem d_Mod_nearPlace_10 : decode b_Mod_nearPlace 10 = .ok (.if_icmp .lt 7, 3) := by decide +kernel
theorem d_Mod_nearPlace_13 : decode b_Mod_nearPlace 13 = .ok (.iload_n 1, 1) := by decide +kernel
theorem d_Mod_nearPlace_14 : decode b_Mod_nearPlace 14 = .ok (.goto 5, 3) := by decide +kernel
theorem d_Mod_nearPlace_17 : decode b_Mod_nearPlace 17 = .ok (.bipush (-9), 2) := by decide +kernel
theorem d_Mod_nearPlace_19 : decode b_Mod_nearPlace 19 = .ok (.ireturn, 1) := by decide +kernel
def m_Mod_nearPlace (x1 : Int) (x2 : Int) (m_owner : Int → Int) : Option (Int) :=
  clt x1 0 (some ((-9))) (bnd (m_Mod_runSize x1 m_owner) (fun r1 => clt r1 x2 (some ((-9))) (some (x1))))
set_option maxHeartbeats 4000000 in
set_option maxRecDepth 100000 in
theorem c_Mod_nearPlace (l : Launch) (D : va_G) (cI cB : ClassId) (a0 a1 a2 a3 a4 a5 a6 a7 a8 a9 a10 a11 a12 a13 a14 a15 : Nat) (m_stepsMade : Int) (m_stepsMost : Int) (m_taped : Int) (m_reading : Int) (m_statements : Int) (m_telling : Int) (m_hasImage : Int) (m_isKeeping : Int) (m_cursor : Int) (m_rowMany : Int) (m_lots : Int) (m_refused : Int → Int) (m_bytes : Int → Int) (m_owner : Int → Int) (m_block : Int → Int) (m_written : Int → Int) (m_waits : Int → Int) (m_kinds : Int → Int) (m_tape : Int → Int) (m_sort : Int → Int) (m_sortAt : Int → Int) (m_told : Int → Int) (m_kept : Int → Int) (m_was : Int → Int) (m_ends : Int → Int) (m_row : Int → Int) (x1 : Int) (x2 : Int) {o : Int} (h : m_Mod_nearPlace x1 x2 m_owner = some o) : Ct l D cI cB y_Mod_nearPlace b_Mod_nearPlace 3 (some .int) { frames := 1, cells := 0, slots := 0, locals := 22 } [.ref a0, .int (zi x1), .int (zi x2)] (w_Mod cI cB a0 a1 a2 a3 a4 a5 a6 a7 a8 a9 a10 a11 a12 a13 a14 a15 m_stepsMade m_stepsMost m_taped m_reading m_statements m_telling m_hasImage m_isKeeping m_cursor m_rowMany m_lots m_refused m_bytes m_owner m_block m_written m_waits m_kinds m_tape m_sort m_sortAt m_told m_kept m_was m_ends m_row) (w_Mod cI cB a0 a1 a2 a3 a4 a5 a6 a7 a8 a9 a10 a11 a12 a13 a14 a15 m_stepsMade m_stepsMost m_taped m_reading m_statements m_telling m_hasImage m_isKeeping m_cursor m_rowMany m_lots m_refused m_bytes m_owner m_block m_written m_waits m_kinds m_tape m_sort m_sortAt m_told m_kept m_was m_ends m_row) (some (.int (zi o))) := by
  refine Ct.start (by decide) (Nat.le_of_ble_eq_true rfl) (fun G X hR => ?_)
  refine x_ls (ls2 := [(0, .ref a0), (1, .int (zi x1)), (2, .int (zi x2))]) [0, 1, 2] rfl ?_
  unfold m_Mod_nearPlace at h
  refine x_iload_n (pc := 0) X d_Mod_nearPlace_0 1 rfl rfl ?_
  refine x_iflt (pc := 1) (tgt := 17) X d_Mod_nearPlace_1 rfl h (fun h => ?_) (fun h => ?_)
  · skip
    refine x_bipush (pc := 17) (v := -9) X d_Mod_nearPlace_17 rfl ?_
    cases h
    exact x_iret (pc := 19) X hR d_Mod_nearPlace_19
  · skip
    refine x_aload_n (pc := 4) X d_Mod_nearPlace_4 0 rfl rfl ?_
    refine x_iload_n (pc := 5) X d_Mod_nearPlace_5 1 rfl rfl ?_
    obtain ⟨r1, h2, h⟩ := bnd_e h
    refine x_callV (pc := 6) (As := [.int (zi x1)]) (rest := []) (w2 := (w_Mod cI cB a0 a1 a2 a3 a4 a5 a6 a7 a8 a9 a10 a11 a12 a13 a14 a15 m_stepsMade m_stepsMost m_taped m_reading m_statements m_telling m_hasImage m_isKeeping m_cursor m_rowMany m_lots m_refused m_bytes m_owner m_block m_written m_waits m_kinds m_tape m_sort m_sortAt m_told m_kept m_was m_ends m_row)) X d_Mod_nearPlace_6 lk_Mod_89 mv_Mod_runSize (c_Mod_runSize l D cI cB a0 a1 a2 a3 a4 a5 a6 a7 a8 a9 a10 a11 a12 a13 a14 a15 m_stepsMade m_stepsMost m_taped m_reading m_statements m_telling m_hasImage m_isKeeping m_cursor m_rowMany m_lots m_refused m_bytes m_owner m_block m_written m_waits m_kinds m_tape m_sort m_sortAt m_told m_kept m_was m_ends m_row x1 h2) ⟨(Nat.le_of_ble_eq_true rfl), (Nat.le_of_ble_eq_true rfl), (Nat.le_of_ble_eq_true rfl), (Nat.le_of_ble_eq_true rfl)⟩ 0 rfl rfl [0, 1, 2, 3, 4, 5, 6, 7, 8, 9, 10, 11, 12, 13, 14, 15] rfl rfl rfl (Up.same rfl) rfl rfl (Nat.le_of_ble_eq_true rfl) ?_
    refine x_iload_n (pc := 9) X d_Mod_nearPlace_9 2 rfl rfl ?_
    refine x_icmplt (pc := 10) (tgt := 17) X d_Mod_nearPlace_10 rfl h (fun h => ?_) (fun h => ?_)
    · skip
      refine x_bipush (pc := 17) (v := -9) X d_Mod_nearPlace_17 rfl ?_
      cases h
      exact x_iret (pc := 19) X hR d_Mod_nearPlace_19
    · skip
      refine x_iload_n (pc := 13) X d_Mod_nearPlace_13 1 rfl rfl ?_
      refine x_goto (pc := 14) (tgt := 19) X d_Mod_nearPlace_14 rfl ?_
      cases h
      exact x_iret (pc := 19) X hR d_Mod_nearPlace_19
