theorem d_Mod_stripeOf_0 : decode b_Mod_stripeOf 0 = .ok (.iconst 0, 1) := by decide +kernel
theorem d_Mod_stripeOf_1 : decode b_Mod_stripeOf 1 = .ok (.istore_n 2, 1) := by decide +kernel
theorem d_Mod_stripeOf_2 : decode b_Mod_stripeOf 2 = .ok (.iload_n 2, 1) := by decide +kernel
theorem d_Mod_stripeOf_3 : decode b_Mod_stripeOf 3 = .ok (.bipush 64, 2) := by decide +kernel
theorem d_Mod_stripeOf_5 : decode b_Mod_stripeOf 5 = .ok (.if_icmp .ge 20, 3) := by decide +kernel
theorem d_Mod_stripeOf_8 : decode b_Mod_stripeOf 8 = .ok (.aload_n 0, 1) := by decide +kernel
theorem d_Mod_stripeOf_9 : decode b_Mod_stripeOf 9 = .ok (.iload_n 2, 1) := by decide +kernel
theorem d_Mod_stripeOf_10 : decode b_Mod_stripeOf 10 = .ok (.invokevirtual 89, 3) := by decide +kernel
theorem d_Mod_stripeOf_13 : decode b_Mod_stripeOf 13 = .ok (.iload_n 1, 1) := by decide +kernel
theorem d_Mod_stripeOf_14 : decode b_Mod_stripeOf 14 = .ok (.if_icmp .lt 5, 3) := by decide +kernel
theorem d_Mod_stripeOf_17 : decode b_Mod_stripeOf 17 = .ok (.iload_n 2, 1) := by decide +kernel
theorem d_Mod_stripeOf_18 : decode b_Mod_stripeOf 18 = .ok (.ireturn, 1) := by decide +kernel
theorem d_Mod_stripeOf_19 : decode b_Mod_stripeOf 19 = .ok (.iinc 2 4, 3) := by decide +kernel
theorem d_Mod_stripeOf_22 : decode b_Mod_stripeOf 22 = .ok (.goto (-20), 3) := by decide +kernel
theorem d_Mod_stripeOf_25 : decode b_Mod_stripeOf 25 = .ok (.bipush (-9), 2) := by decide +kernel
theorem d_Mod_stripeOf_27 : decode b_Mod_stripeOf 27 = .ok (.ireturn, 1) := by decide +kernel
def m_Mod_stripeOf_2 : Nat → Int → Int → (Int → Int) → Option (Int)
  | 0, _, _, _ => none
  | fuel + 1, v1, v2, m_owner =>
  clt v2 64 (bnd (m_Mod_runSize v2 m_owner) (fun r1 => clt r1 v1 (m_Mod_stripeOf_2 fuel v1 (v2 + 4) m_owner) (some (v2)))) (some ((-9)))
def m_Mod_stripeOf (x1 : Int) (m_owner : Int → Int) : Option (Int) :=
  m_Mod_stripeOf_2 5000 x1 0 m_owner
set_option maxHeartbeats 4000000 in
set_option maxRecDepth 100000 in
theorem l_Mod_stripeOf_2 {G : GT} {l : Launch} {D : va_G} {cI cB : ClassId} {a0 a1 a2 a3 a4 a5 a6 a7 a8 a9 a10 a11 a12 a13 a14 a15 : Nat} {m_stepsMade : Int} {m_stepsMost : Int} {m_taped : Int} {m_reading : Int} {m_statements : Int} {m_telling : Int} {m_hasImage : Int} {m_isKeeping : Int} {m_cursor : Int} {m_rowMany : Int} {m_lots : Int} {m_refused : Int → Int} {m_bytes : Int → Int} {m_block : Int → Int} {m_written : Int → Int} {m_waits : Int → Int} {m_kinds : Int → Int} {m_tape : Int → Int} {m_sort : Int → Int} {m_sortAt : Int → Int} {m_told : Int → Int} {m_kept : Int → Int} {m_was : Int → Int} {m_ends : Int → Int} {m_row : Int → Int} (X : Cx G l D cI cB b_Mod_stripeOf y_Mod_stripeOf.cls 3 { frames := 1, cells := 0, slots := 0, locals := 22 }) : ∀ (fuel : Nat) (v1 : Int) (v2 : Int) (m_owner : Int → Int) (o : Int), m_Mod_stripeOf_2 fuel v1 v2 m_owner = some o → Rt G (some .int) (some (.int (zi o))) (w_Mod cI cB a0 a1 a2 a3 a4 a5 a6 a7 a8 a9 a10 a11 a12 a13 a14 a15 m_stepsMade m_stepsMost m_taped m_reading m_statements m_telling m_hasImage m_isKeeping m_cursor m_rowMany m_lots m_refused m_bytes m_owner m_block m_written m_waits m_kinds m_tape m_sort m_sortAt m_told m_kept m_was m_ends m_row) → Wx G 0 0 2 [(0, .ref a0), (1, .int (zi v1)), (2, .int (zi v2))] [] (w_Mod cI cB a0 a1 a2 a3 a4 a5 a6 a7 a8 a9 a10 a11 a12 a13 a14 a15 m_stepsMade m_stepsMost m_taped m_reading m_statements m_telling m_hasImage m_isKeeping m_cursor m_rowMany m_lots m_refused m_bytes m_owner m_block m_written m_waits m_kinds m_tape m_sort m_sortAt m_told m_kept m_was m_ends m_row) := by
  intro fuel
  induction fuel with
  | zero =>
    intro v1 v2 m_owner o h
    exact absurd h (by simp [m_Mod_stripeOf_2])
  | succ fuel ih =>
    intro v1 v2 m_owner o h hR
    rw [m_Mod_stripeOf_2] at h
    refine x_iload_n (pc := 2) X d_Mod_stripeOf_2 2 rfl rfl ?_
    refine x_bipush (pc := 3) (v := 64) X d_Mod_stripeOf_3 rfl ?_
    refine x_icmpge (pc := 5) (tgt := 25) X d_Mod_stripeOf_5 rfl h (fun h => ?_) (fun h => ?_)
    · skip
      refine x_bipush (pc := 25) (v := -9) X d_Mod_stripeOf_25 rfl ?_
      cases h
      exact x_iret (pc := 27) X hR d_Mod_stripeOf_27
    · skip
      refine x_aload_n (pc := 8) X d_Mod_stripeOf_8 0 rfl rfl ?_
      refine x_iload_n (pc := 9) X d_Mod_stripeOf_9 2 rfl rfl ?_
      obtain ⟨r1, h2, h⟩ := bnd_e h
      refine x_callV (pc := 10) (As := [.int (zi v2)]) (rest := []) (w2 := (w_Mod cI cB a0 a1 a2 a3 a4 a5 a6 a7 a8 a9 a10 a11 a12 a13 a14 a15 m_stepsMade m_stepsMost m_taped m_reading m_statements m_telling m_hasImage m_isKeeping m_cursor m_rowMany m_lots m_refused m_bytes m_owner m_block m_written m_waits m_kinds m_tape m_sort m_sortAt m_told m_kept m_was m_ends m_row)) X d_Mod_stripeOf_10 lk_Mod_89 mv_Mod_runSize (c_Mod_runSize l D cI cB a0 a1 a2 a3 a4 a5 a6 a7 a8 a9 a10 a11 a12 a13 a14 a15 m_stepsMade m_stepsMost m_taped m_reading m_statements m_telling m_hasImage m_isKeeping m_cursor m_rowMany m_lots m_refused m_bytes m_owner m_block m_written m_waits m_kinds m_tape m_sort m_sortAt m_told m_kept m_was m_ends m_row v2 h2) ⟨(Nat.le_of_ble_eq_true rfl), (Nat.le_of_ble_eq_true rfl), (Nat.le_of_ble_eq_true rfl), (Nat.le_of_ble_eq_true rfl)⟩ 0 rfl rfl [0, 1, 2, 3, 4, 5, 6, 7, 8, 9, 10, 11, 12, 13, 14, 15] rfl rfl rfl (Up.same rfl) rfl rfl (Nat.le_of_ble_eq_true rfl) ?_
      refine x_iload_n (pc := 13) X d_Mod_stripeOf_13 1 rfl rfl ?_
      refine x_icmplt (pc := 14) (tgt := 19) X d_Mod_stripeOf_14 rfl h (fun h => ?_) (fun h => ?_)
      · skip
        refine x_iinc (pc := 19) (ls2 := [(2, .int (zi (v2 + 4))), (0, .ref a0), (1, .int (zi v1))]) X d_Mod_stripeOf_19 2 (Nat.le_of_ble_eq_true rfl) rfl rfl ?_
        refine x_goto (pc := 22) (tgt := 2) X d_Mod_stripeOf_22 rfl ?_
        refine x_ls (ls2 := [(0, .ref a0), (1, .int (zi v1)), (2, .int (zi (v2 + 4)))]) [1, 2, 0] rfl ?_
        exact ih v1 (v2 + 4) m_owner o h hR
      · skip
        refine x_iload_n (pc := 17) X d_Mod_stripeOf_17 2 rfl rfl ?_
        cases h
        exact x_iret (pc := 18) X hR d_Mod_stripeOf_18
set_option maxHeartbeats 4000000 in
set_option maxRecDepth 100000 in
theorem c_Mod_stripeOf (l : Launch) (D : va_G) (cI cB : ClassId) (a0 a1 a2 a3 a4 a5 a6 a7 a8 a9 a10 a11 a12 a13 a14 a15 : Nat) (m_stepsMade : Int) (m_stepsMost : Int) (m_taped : Int) (m_reading : Int) (m_statements : Int) (m_telling : Int) (m_hasImage : Int) (m_isKeeping : Int) (m_cursor : Int) (m_rowMany : Int) (m_lots : Int) (m_refused : Int → Int) (m_bytes : Int → Int) (m_owner : Int → Int) (m_block : Int → Int) (m_written : Int → Int) (m_waits : Int → Int) (m_kinds : Int → Int) (m_tape : Int → Int) (m_sort : Int → Int) (m_sortAt : Int → Int) (m_told : Int → Int) (m_kept : Int → Int) (m_was : Int → Int) (m_ends : Int → Int) (m_row : Int → Int) (x1 : Int) {o : Int} (h : m_Mod_stripeOf x1 m_owner = some o) : Ct l D cI cB y_Mod_stripeOf b_Mod_stripeOf 3 (some .int) { frames := 1, cells := 0, slots := 0, locals := 22 } [.ref a0, .int (zi x1)] (w_Mod cI cB a0 a1 a2 a3 a4 a5 a6 a7 a8 a9 a10 a11 a12 a13 a14 a15 m_stepsMade m_stepsMost m_taped m_reading m_statements m_telling m_hasImage m_isKeeping m_cursor m_rowMany m_lots m_refused m_bytes m_owner m_block m_written m_waits m_kinds m_tape m_sort m_sortAt m_told m_kept m_was m_ends m_row) (w_Mod cI cB a0 a1 a2 a3 a4 a5 a6 a7 a8 a9 a10 a11 a12 a13 a14 a15 m_stepsMade m_stepsMost m_taped m_reading m_statements m_telling m_hasImage m_isKeeping m_cursor m_rowMany m_lots m_refused m_bytes m_owner m_block m_written m_waits m_kinds m_tape m_sort m_sortAt m_told m_kept m_was m_ends m_row) (some (.int (zi o))) := by
  refine Ct.start (by decide) (Nat.le_of_ble_eq_true rfl) (fun G X hR => ?_)
  refine x_ls (ls2 := [(0, .ref a0), (1, .int (zi x1))]) [0, 1] rfl ?_
  unfold m_Mod_stripeOf at h
  refine x_iconst (pc := 0) X d_Mod_stripeOf_0  ?_
  refine x_istore_n (pc := 1) (ls2 := [(2, .int (zi 0)), (0, .ref a0), (1, .int (zi x1))]) X d_Mod_stripeOf_1 rfl (Nat.le_of_ble_eq_true rfl) rfl ?_
  refine x_ls (ls2 := [(0, .ref a0), (1, .int (zi x1)), (2, .int (zi 0))]) [1, 2, 0] rfl ?_
  exact l_Mod_stripeOf_2 X 5000 x1 0 m_owner o h hR
theorem d_Mod_nearestOf_0 : decode b_Mod_nearestOf 0 = .ok (.bipush (-9), 2) := by decide +kernel
theorem d_Mod_nearestOf_2 : decode b_Mod_nearestOf 2 = .ok (.istore_n 3, 1) := by decide +kernel
theorem d_Mod_nearestOf_3 : decode b_Mod_nearestOf 3 = .ok (.iconst 0, 1) := by decide +kernel
theorem d_Mod_nearestOf_4 : decode b_Mod_nearestOf 4 = .ok (.istore 4, 2) := by decide +kernel
theorem d_Mod_nearestOf_6 : decode b_Mod_nearestOf 6 = .ok (.iload 4, 2) := by decide +kernel
theorem d_Mod_nearestOf_8 : decode b_Mod_nearestOf 8 = .ok (.bipush 64, 2) := by decide +kernel
theorem d_Mod_nearestOf_10 : decode b_Mod_nearestOf 10 = .ok (.if_icmp .ge 49, 3) := by decide +kernel
theorem d_Mod_nearestOf_13 : decode b_Mod_nearestOf 13 = .ok (.aload_n 0, 1) := by decide +kernel
theorem d_Mod_nearestOf_14 : decode b_Mod_nearestOf 14 = .ok (.iload 4, 2) := by decide +kernel
theorem d_Mod_nearestOf_16 : decode b_Mod_nearestOf 16 = .ok (.invokevirtual 86, 3) := by decide +kernel
theorem d_Mod_nearestOf_19 : decode b_Mod_nearestOf 19 = .ok (.ifCond .eq 34, 3) := by decide +kernel
theorem d_Mod_nearestOf_22 : decode b_Mod_nearestOf 22 = .ok (.aload_n 0, 1) := by decide +kernel
theorem d_Mod_nearestOf_23 : decode b_Mod_nearestOf 23 = .ok (.iload 4, 2) := by decide +kernel
theorem d_Mod_nearestOf_25 : decode b_Mod_nearestOf 25 = .ok (.invokevirtual 89, 3) := by decide +kernel
theorem d_Mod_nearestOf_28 : decode b_Mod_nearestOf 28 = .ok (.iload_n 2, 1) := by decide +kernel
theorem d_Mod_nearestOf_29 : decode b_Mod_nearestOf 29 = .ok (.if_icmp .lt 24, 3) := by decide +kernel
theorem d_Mod_nearestOf_32 : decode b_Mod_nearestOf 32 = .ok (.iload_n 3, 1) := by decide +kernel
theorem d_Mod_nearestOf_33 : decode b_Mod_nearestOf 33 = .ok (.ifCond .lt 17, 3) := by decide +kernel
theorem d_Mod_nearestOf_36 : decode b_Mod_nearestOf 36 = .ok (.iload 4, 2) := by decide +kernel
theorem d_Mod_nearestOf_38 : decode b_Mod_nearestOf 38 = .ok (.iload_n 1, 1) := by decide +kernel
theorem d_Mod_nearestOf_39 : decode b_Mod_nearestOf 39 = .ok (.invokestatic 95, 3) := by decide +kernel
theorem d_Mod_nearestOf_42 : decode b_Mod_nearestOf 42 = .ok (.iload_n 3, 1) := by decide +kernel
theorem d_Mod_nearestOf_43 : decode b_Mod_nearestOf 43 = .ok (.iload_n 1, 1) := by decide +kernel
theorem d_Mod_nearestOf_44 : decode b_Mod_nearestOf 44 = .ok (.invokestatic 95, 3) := by decide +kernel
theorem d_Mod_nearestOf_47 : decode b_Mod_nearestOf 47 = .ok (.if_icmp .ge 6, 3) := by decide +kernel
theorem d_Mod_nearestOf_50 : decode b_Mod_nearestOf 50 = .ok (.iload 4, 2) := by decide +kernel
theorem d_Mod_nearestOf_52 : decode b_Mod_nearestOf 52 = .ok (.istore_n 3, 1) := by decide +kernel
theorem d_Mod_nearestOf_53 : decode b_Mod_nearestOf 53 = .ok (.iinc 4 1, 3) := by decide +kernel
theorem d_Mod_nearestOf_56 : decode b_Mod_nearestOf 56 = .ok (.goto (-50), 3) := by decide +kernel
theorem d_Mod_nearestOf_59 : decode b_Mod_nearestOf 59 = .ok (.iload_n 3, 1) := by decide +kernel
theorem d_Mod_nearestOf_60 : decode b_Mod_nearestOf 60 = .ok (.ireturn, 1) := by decide +kernel
def m_Mod_nearestOf_6 : Nat → Int → Int → Int → Int → (Int → Int) → Option (Int)
  | 0, _, _, _, _, _ => none
  | fuel + 1, v1, v2, v3, v4, m_owner =>
  clt v4 64 (bnd (m_Mod_beginsRun v4 m_owner) (fun r1 => ceq r1 0 (m_Mod_nearestOf_6 fuel v1 v2 v3 (v4 + 1) m_owner) (bnd (m_Mod_runSize v4 m_owner) (fun r3 => clt r3 v2 (m_Mod_nearestOf_6 fuel v1 v2 v3 (v4 + 1) m_owner) (clt v3 0 (m_Mod_nearestOf_6 fuel v1 v2 v4 (v4 + 1) m_owner) (bnd (m_Mod_apart v4 v1) (fun r5 => bnd (m_Mod_apart v3 v1) (fun r7 => clt r5 r7 (m_Mod_nearestOf_6 fuel v1 v2 v4 (v4 + 1) m_owner) (m_Mod_nearestOf_6 fuel v1 v2 v3 (v4 + 1) m_owner))))))))) (some (v3))
def m_Mod_nearestOf (x1 : Int) (x2 : Int) (m_owner : Int → Int) : Option (Int) :=
  m_Mod_nearestOf_6 5000 x1 x2 (-9) 0 m_owner
set_option maxHeartbeats 4000000 in
set_option maxRecDepth 100000 in
theorem l_Mod_nearestOf_6 {G : GT} {l : Launch} {D : va_G} {cI cB : ClassId} {a0 a1 a2 a3 a4 a5 a6 a7 a8 a9 a10 a11 a12 a13 a14 a15 : Nat} {m_stepsMade : Int} {m_stepsMost : Int} {m_taped : Int} {m_reading : Int} {m_statements : Int} {m_telling : Int} {m_hasImage : Int} {m_isKeeping : Int} {m_cursor : Int} {m_rowMany : Int} {m_lots : Int} {m_refused : Int → Int} {m_bytes : Int → Int} {m_block : Int → Int} {m_written : Int → Int} {m_waits : Int → Int} {m_kinds : Int → Int} {m_tape : Int → Int} {m_sort : Int → Int} {m_sortAt : Int → Int} {m_told : Int → Int} {m_kept : Int → Int} {m_was : Int → Int} {m_ends : Int → Int} {m_row : Int → Int} (X : Cx G l D cI cB b_Mod_nearestOf y_Mod_nearestOf.cls 5 { frames := 1, cells := 0, slots := 0, locals := 22 }) : ∀ (fuel : Nat) (v1 : Int) (v2 : Int) (v3 : Int) (v4 : Int) (m_owner : Int → Int) (o : Int), m_Mod_nearestOf_6 fuel v1 v2 v3 v4 m_owner = some o → Rt G (some .int) (some (.int (zi o))) (w_Mod cI cB a0 a1 a2 a3 a4 a5 a6 a7 a8 a9 a10 a11 a12 a13 a14 a15 m_stepsMade m_stepsMost m_taped m_reading m_statements m_telling m_hasImage m_isKeeping m_cursor m_rowMany m_lots m_refused m_bytes m_owner m_block m_written m_waits m_kinds m_tape m_sort m_sortAt m_told m_kept m_was m_ends m_row) → Wx G 0 0 6 [(0, .ref a0), (1, .int (zi v1)), (2, .int (zi v2)), (3, .int (zi v3)), (4, .int (zi v4))] [] (w_Mod cI cB a0 a1 a2 a3 a4 a5 a6 a7 a8 a9 a10 a11 a12 a13 a14 a15 m_stepsMade m_stepsMost m_taped m_reading m_statements m_telling m_hasImage m_isKeeping m_cursor m_rowMany m_lots m_refused m_bytes m_owner m_block m_written m_waits m_kinds m_tape m_sort m_sortAt m_told m_kept m_was m_ends m_row) := by
  intro fuel
  induction fuel with
  | zero =>
    intro v1 v2 v3 v4 m_owner o h
    exact absurd h (by simp [m_Mod_nearestOf_6])
  | succ fuel ih =>
    intro v1 v2 v3 v4 m_owner o h hR
    rw [m_Mod_nearestOf_6] at h
    refine x_iload (pc := 6) X d_Mod_nearestOf_6 4 rfl ?_
    refine x_bipush (pc := 8) (v := 64) X d_Mod_nearestOf_8 rfl ?_
    refine x_icmpge (pc := 10) (tgt := 59) X d_Mod_nearestOf_10 rfl h (fun h => ?_) (fun h => ?_)
    · skip
      refine x_iload_n (pc := 59) X d_Mod_nearestOf_59 3 rfl rfl ?_
      cases h
      exact x_iret (pc := 60) X hR d_Mod_nearestOf_60
    · skip
      refine x_aload_n (pc := 13) X d_Mod_nearestOf_13 0 rfl rfl ?_
      refine x_iload (pc := 14) X d_Mod_nearestOf_14 4 rfl ?_
      obtain ⟨r1, h2, h⟩ := bnd_e h
      refine x_callV (pc := 16) (As := [.int (zi v4)]) (rest := []) (w2 := (w_Mod cI cB a0 a1 a2 a3 a4 a5 a6 a7 a8 a9 a10 a11 a12 a13 a14 a15 m_stepsMade m_stepsMost m_taped m_reading m_statements m_telling m_hasImage m_isKeeping m_cursor m_rowMany m_lots m_refused m_bytes m_owner m_block m_written m_waits m_kinds m_tape m_sort m_sortAt m_told m_kept m_was m_ends m_row)) X d_Mod_nearestOf_16 lk_Mod_86 mv_Mod_beginsRun (c_Mod_beginsRun l D cI cB a0 a1 a2 a3 a4 a5 a6 a7 a8 a9 a10 a11 a12 a13 a14 a15 m_stepsMade m_stepsMost m_taped m_reading m_statements m_telling m_hasImage m_isKeeping m_cursor m_rowMany m_lots m_refused m_bytes m_owner m_block m_written m_waits m_kinds m_tape m_sort m_sortAt m_told m_kept m_was m_ends m_row v4 h2) ⟨(Nat.le_of_ble_eq_true rfl), (Nat.le_of_ble_eq_true rfl), (Nat.le_of_ble_eq_true rfl), (Nat.le_of_ble_eq_true rfl)⟩ 0 rfl rfl [0, 1, 2, 3, 4, 5, 6, 7, 8, 9, 10, 11, 12, 13, 14, 15] rfl rfl rfl (Up.same rfl) rfl rfl (Nat.le_of_ble_eq_true rfl) ?_
      refine x_ifeq (pc := 19) (tgt := 53) X d_Mod_nearestOf_19 rfl h (fun h => ?_) (fun h => ?_)
      · skip
        refine x_iinc (pc := 53) (ls2 := [(4, .int (zi (v4 + 1))), (0, .ref a0), (1, .int (zi v1)), (2, .int (zi v2)), (3, .int (zi v3))]) X d_Mod_nearestOf_53 4 (Nat.le_of_ble_eq_true rfl) rfl rfl ?_
        refine x_goto (pc := 56) (tgt := 6) X d_Mod_nearestOf_56 rfl ?_
        refine x_ls (ls2 := [(0, .ref a0), (1, .int (zi v1)), (2, .int (zi v2)), (3, .int (zi v3)), (4, .int (zi (v4 + 1)))]) [1, 2, 3, 4, 0] rfl ?_
        exact ih v1 v2 v3 (v4 + 1) m_owner o h hR
      · skip
        refine x_aload_n (pc := 22) X d_Mod_nearestOf_22 0 rfl rfl ?_
        refine x_iload (pc := 23) X d_Mod_nearestOf_23 4 rfl ?_
        obtain ⟨r3, h4, h⟩ := bnd_e h
        refine x_callV (pc := 25) (As := [.int (zi v4)]) (rest := []) (w2 := (w_Mod cI cB a0 a1 a2 a3 a4 a5 a6 a7 a8 a9 a10 a11 a12 a13 a14 a15 m_stepsMade m_stepsMost m_taped m_reading m_statements m_telling m_hasImage m_isKeeping m_cursor m_rowMany m_lots m_refused m_bytes m_owner m_block m_written m_waits m_kinds m_tape m_sort m_sortAt m_told m_kept m_was m_ends m_row)) X d_Mod_nearestOf_25 lk_Mod_89 mv_Mod_runSize (c_Mod_runSize l D cI cB a0 a1 a2 a3 a4 a5 a6 a7 a8 a9 a10 a11 a12 a13 a14 a15 m_stepsMade m_stepsMost m_taped m_reading m_statements m_telling m_hasImage m_isKeeping m_cursor m_rowMany m_lots m_refused m_bytes m_owner m_block m_written m_waits m_kinds m_tape m_sort m_sortAt m_told m_kept m_was m_ends m_row v4 h4) ⟨(Nat.le_of_ble_eq_true rfl), (Nat.le_of_ble_eq_true rfl), (Nat.le_of_ble_eq_true rfl), (Nat.le_of_ble_eq_true rfl)⟩ 0 rfl rfl [0, 1, 2, 3, 4, 5, 6, 7, 8, 9, 10, 11, 12, 13, 14, 15] rfl rfl rfl (Up.same rfl) rfl rfl (Nat.le_of_ble_eq_true rfl) ?_
        refine x_iload_n (pc := 28) X d_Mod_nearestOf_28 2 rfl rfl ?_
        refine x_icmplt (pc := 29) (tgt := 53) X d_Mod_nearestOf_29 rfl h (fun h => ?_) (fun h => ?_)
        · skip
          refine x_iinc (pc := 53) (ls2 := [(4, .int (zi (v4 + 1))), (0, .ref a0), (1, .int (zi v1)), (2, .int (zi v2)), (3, .int (zi v3))]) X d_Mod_nearestOf_53 4 (Nat.le_of_ble_eq_true rfl) rfl rfl ?_
          refine x_goto (pc := 56) (tgt := 6) X d_Mod_nearestOf_56 rfl ?_
          refine x_ls (ls2 := [(0, .ref a0), (1, .int (zi v1)), (2, .int (zi v2)), (3, .int (zi v3)), (4, .int (zi (v4 + 1)))]) [1, 2, 3, 4, 0] rfl ?_
          exact ih v1 v2 v3 (v4 + 1) m_owner o h hR
        · skip
          refine x_iload_n (pc := 32) X d_Mod_nearestOf_32 3 rfl rfl ?_
          refine x_iflt (pc := 33) (tgt := 50) X d_Mod_nearestOf_33 rfl h (fun h => ?_) (fun h => ?_)
          · skip
            refine x_iload (pc := 50) X d_Mod_nearestOf_50 4 rfl ?_
            refine x_istore_n (pc := 52) (ls2 := [(3, .int (zi v4)), (0, .ref a0), (1, .int (zi v1)), (2, .int (zi v2)), (4, .int (zi v4))]) X d_Mod_nearestOf_52 rfl (Nat.le_of_ble_eq_true rfl) rfl ?_
            refine x_iinc (pc := 53) (ls2 := [(4, .int (zi (v4 + 1))), (3, .int (zi v4)), (0, .ref a0), (1, .int (zi v1)), (2, .int (zi v2))]) X d_Mod_nearestOf_53 4 (Nat.le_of_ble_eq_true rfl) rfl rfl ?_
            refine x_goto (pc := 56) (tgt := 6) X d_Mod_nearestOf_56 rfl ?_
            refine x_ls (ls2 := [(0, .ref a0), (1, .int (zi v1)), (2, .int (zi v2)), (3, .int (zi v4)), (4, .int (zi (v4 + 1)))]) [2, 3, 4, 1, 0] rfl ?_
            exact ih v1 v2 v4 (v4 + 1) m_owner o h hR
          · skip
            refine x_iload (pc := 36) X d_Mod_nearestOf_36 4 rfl ?_
            refine x_iload_n (pc := 38) X d_Mod_nearestOf_38 1 rfl rfl ?_
            obtain ⟨r5, h6, h⟩ := bnd_e h
            refine x_callS (pc := 39) (As := [.int (zi v4), .int (zi v1)]) (rest := []) (w2 := (w_Mod cI cB a0 a1 a2 a3 a4 a5 a6 a7 a8 a9 a10 a11 a12 a13 a14 a15 m_stepsMade m_stepsMost m_taped m_reading m_statements m_telling m_hasImage m_isKeeping m_cursor m_rowMany m_lots m_refused m_bytes m_owner m_block m_written m_waits m_kinds m_tape m_sort m_sortAt m_told m_kept m_was m_ends m_row)) X d_Mod_nearestOf_39 lk_Mod_95 mv_Mod_apart (c_Mod_apart l D cI cB v4 v1 h6) ⟨(Nat.le_of_ble_eq_true rfl), (Nat.le_of_ble_eq_true rfl), (Nat.le_of_ble_eq_true rfl), (Nat.le_of_ble_eq_true rfl)⟩ [] rfl rfl rfl (Up.same rfl) rfl rfl (Nat.le_of_ble_eq_true rfl) ?_
            refine x_iload_n (pc := 42) X d_Mod_nearestOf_42 3 rfl rfl ?_
            refine x_iload_n (pc := 43) X d_Mod_nearestOf_43 1 rfl rfl ?_
            obtain ⟨r7, h8, h⟩ := bnd_e h
            refine x_callS (pc := 44) (As := [.int (zi v3), .int (zi v1)]) (rest := [.int (zi r5)]) (w2 := (w_Mod cI cB a0 a1 a2 a3 a4 a5 a6 a7 a8 a9 a10 a11 a12 a13 a14 a15 m_stepsMade m_stepsMost m_taped m_reading m_statements m_telling m_hasImage m_isKeeping m_cursor m_rowMany m_lots m_refused m_bytes m_owner m_block m_written m_waits m_kinds m_tape m_sort m_sortAt m_told m_kept m_was m_ends m_row)) X d_Mod_nearestOf_44 lk_Mod_95 mv_Mod_apart (c_Mod_apart l D cI cB v3 v1 h8) ⟨(Nat.le_of_ble_eq_true rfl), (Nat.le_of_ble_eq_true rfl), (Nat.le_of_ble_eq_true rfl), (Nat.le_of_ble_eq_true rfl)⟩ [] rfl rfl rfl (Up.same rfl) rfl rfl (Nat.le_of_ble_eq_true rfl) ?_
            refine x_icmpge (pc := 47) (tgt := 53) X d_Mod_nearestOf_47 rfl h (fun h => ?_) (fun h => ?_)
            · skip
              refine x_iinc (pc := 53) (ls2 := [(4, .int (zi (v4 + 1))), (0, .ref a0), (1, .int (zi v1)), (2, .int (zi v2)), (3, .int (zi v3))]) X d_Mod_nearestOf_53 4 (Nat.le_of_ble_eq_true rfl) rfl rfl ?_
              refine x_goto (pc := 56) (tgt := 6) X d_Mod_nearestOf_56 rfl ?_
              refine x_ls (ls2 := [(0, .ref a0), (1, .int (zi v1)), (2, .int (zi v2)), (3, .int (zi v3)), (4, .int (zi (v4 + 1)))]) [1, 2, 3, 4, 0] rfl ?_
              exact ih v1 v2 v3 (v4 + 1) m_owner o h hR
            · skip
              refine x_iload (pc := 50) X d_Mod_nearestOf_50 4 rfl ?_
              refine x_istore_n (pc := 52) (ls2 := [(3, .int (zi v4)), (0, .ref a0), (1, .int (zi v1)), (2, .int (zi v2)), (4, .int (zi v4))]) X d_Mod_nearestOf_52 rfl (Nat.le_of_ble_eq_true rfl) rfl ?_
              refine x_iinc (pc := 53) (ls2 := [(4, .int (zi (v4 + 1))), (3, .int (zi v4)), (0, .ref a0), (1, .int (zi v1)), (2, .int (zi v2))]) X d_Mod_nearestOf_53 4 (Nat.le_of_ble_eq_true rfl) rfl rfl ?_
              refine x_goto (pc := 56) (tgt := 6) X d_Mod_nearestOf_56 rfl ?_
              refine x_ls (ls2 := [(0, .ref a0), (1, .int (zi v1)), (2, .int (zi v2)), (3, .int (zi v4)), (4, .int (zi (v4 + 1)))]) [2, 3, 4, 1, 0] rfl ?_
              exact ih v1 v2 v4 (v4 + 1) m_owner o h hR
set_option maxHeartbeats 4000000 in
set_option maxRecDepth 100000 in
theorem c_Mod_nearestOf (l : Launch) (D : va_G) (cI cB : ClassId) (a0 a1 a2 a3 a4 a5 a6 a7 a8 a9 a10 a11 a12 a13 a14 a15 : Nat) (m_stepsMade : Int) (m_stepsMost : Int) (m_taped : Int) (m_reading : Int) (m_statements : Int) (m_telling : Int) (m_hasImage : Int) (m_isKeeping : Int) (m_cursor : Int) (m_rowMany : Int) (m_lots : Int) (m_refused : Int → Int) (m_bytes : Int → Int) (m_owner : Int → Int) (m_block : Int → Int) (m_written : Int → Int) (m_waits : Int → Int) (m_kinds : Int → Int) (m_tape : Int → Int) (m_sort : Int → Int) (m_sortAt : Int → Int) (m_told : Int → Int) (m_kept : Int → Int) (m_was : Int → Int) (m_ends : Int → Int) (m_row : Int → Int) (x1 : Int) (x2 : Int) {o : Int} (h : m_Mod_nearestOf x1 x2 m_owner = some o) : Ct l D cI cB y_Mod_nearestOf b_Mod_nearestOf 5 (some .int) { frames := 1, cells := 0, slots := 0, locals := 22 } [.ref a0, .int (zi x1), .int (zi x2)] (w_Mod cI cB a0 a1 a2 a3 a4 a5 a6 a7 a8 a9 a10 a11 a12 a13 a14 a15 m_stepsMade m_stepsMost m_taped m_reading m_statements m_telling m_hasImage m_isKeeping m_cursor m_rowMany m_lots m_refused m_bytes m_owner m_block m_written m_waits m_kinds m_tape m_sort m_sortAt m_told m_kept m_was m_ends m_row) (w_Mod cI cB a0 a1 a2 a3 a4 a5 a6 a7 a8 a9 a10 a11 a12 a13 a14 a15 m_stepsMade m_stepsMost m_taped m_reading m_statements m_telling m_hasImage m_isKeeping m_cursor m_rowMany m_lots m_refused m_bytes m_owner m_block m_written m_waits m_kinds m_tape m_sort m_sortAt m_told m_kept m_was m_ends m_row) (some (.int (zi o))) := by
  refine Ct.start (by decide) (Nat.le_of_ble_eq_true rfl) (fun G X hR => ?_)
  refine x_ls (ls2 := [(0, .ref a0), (1, .int (zi x1)), (2, .int (zi x2))]) [0, 1, 2] rfl ?_
  unfold m_Mod_nearestOf at h
  refine x_bipush (pc := 0) (v := -9) X d_Mod_nearestOf_0 rfl ?_
  refine x_istore_n (pc := 2) (ls2 := [(3, .int (zi (-9))), (0, .ref a0), (1, .int (zi x1)), (2, .int (zi x2))]) X d_Mod_nearestOf_2 rfl (Nat.le_of_ble_eq_true rfl) rfl ?_
  refine x_iconst (pc := 3) X d_Mod_nearestOf_3  ?_
  refine x_istore (pc := 4) (ls2 := [(4, .int (zi 0)), (3, .int (zi (-9))), (0, .ref a0), (1, .int (zi x1)), (2, .int (zi x2))]) X d_Mod_nearestOf_4 (Nat.le_of_ble_eq_true rfl) rfl ?_
  refine x_ls (ls2 := [(0, .ref a0), (1, .int (zi x1)), (2, .int (zi x2)), (3, .int (zi (-9))), (4, .int (zi 0))]) [2, 3, 4, 1, 0] rfl ?_
  exact l_Mod_nearestOf_6 X 5000 x1 x2 (-9) 0 m_owner o h hR
theorem d_Mod_placeBy_0 : decode b_Mod_placeBy 0 = .ok (.aload_n 0, 1) := by decide +kernel
theorem d_Mod_placeBy_1 : decode b_Mod_placeBy 1 = .ok (.iload_n 3, 1) := by decide +kernel
theorem d_Mod_placeBy_2 : decode b_Mod_placeBy 2 = .ok (.invokevirtual 106, 3) := by decide +kernel
theorem d_Mod_placeBy_5 : decode b_Mod_placeBy 5 = .ok (.istore 4, 2) := by decide +kernel
theorem d_Mod_placeBy_7 : decode b_Mod_placeBy 7 = .ok (.aload_n 0, 1) := by decide +kernel
theorem d_Mod_placeBy_8 : decode b_Mod_placeBy 8 = .ok (.iload_n 2, 1) := by decide +kernel
theorem d_Mod_placeBy_9 : decode b_Mod_placeBy 9 = .ok (.iload_n 3, 1) := by decide +kernel
theorem d_Mod_placeBy_10 : decode b_Mod_placeBy 10 = .ok (.invokevirtual 109, 3) := by decide +kernel
theorem d_Mod_placeBy_13 : decode b_Mod_placeBy 13 = .ok (.istore 5, 2) := by decide +kernel
theorem d_Mod_placeBy_15 : decode b_Mod_placeBy 15 = .ok (.iload_n 1, 1) := by decide +kernel
theorem d_Mod_placeBy_16 : decode b_Mod_placeBy 16 = .ok (.iconst 2, 1) := by decide +kernel
theorem d_Mod_placeBy_17 : decode b_Mod_placeBy 17 = .ok (.if_icmp .ne 16, 3) := by decide +kernel
theorem d_Mod_placeBy_20 : decode b_Mod_placeBy 20 = .ok (.iload_n 3, 1) := by decide +kernel
theorem d_Mod_placeBy_21 : decode b_Mod_placeBy 21 = .ok (.iconst 4, 1) := by decide +kernel
theorem d_Mod_placeBy_22 : decode b_Mod_placeBy 22 = .ok (.if_icmp .lt 11, 3) := by decide +kernel
theorem d_Mod_placeBy_25 : decode b_Mod_placeBy 25 = .ok (.aload_n 0, 1) := by decide +kernel
theorem d_Mod_placeBy_26 : decode b_Mod_placeBy 26 = .ok (.iload_n 3, 1) := by decide +kernel
theorem d_Mod_placeBy_27 : decode b_Mod_placeBy 27 = .ok (.invokevirtual 112, 3) := by decide +kernel
theorem d_Mod_placeBy_30 : decode b_Mod_placeBy 30 = .ok (.goto 5, 3) := by decide +kernel
theorem d_Mod_placeBy_33 : decode b_Mod_placeBy 33 = .ok (.bipush (-9), 2) := by decide +kernel
theorem d_Mod_placeBy_35 : decode b_Mod_placeBy 35 = .ok (.istore 6, 2) := by decide +kernel
theorem d_Mod_placeBy_37 : decode b_Mod_placeBy 37 = .ok (.iload_n 1, 1) := by decide +kernel
theorem d_Mod_placeBy_38 : decode b_Mod_placeBy 38 = .ok (.tableswitch 113 1 5 #[34, 47, 70, 75, 87], 34) := by decide +kernel
theorem d_Mod_placeBy_72 : decode b_Mod_placeBy 72 = .ok (.iload 5, 2) := by decide +kernel
theorem d_Mod_placeBy_74 : decode b_Mod_placeBy 74 = .ok (.ifCond .lt 8, 3) := by decide +kernel
theorem d_Mod_placeBy_77 : decode b_Mod_placeBy 77 = .ok (.iload 5, 2) := by decide +kernel
theorem d_Mod_placeBy_79 : decode b_Mod_placeBy 79 = .ok (.goto 5, 3) := by decide +kernel
theorem d_Mod_placeBy_82 : decode b_Mod_placeBy 82 = .ok (.iload 4, 2) := by decide +kernel
theorem d_Mod_placeBy_84 : decode b_Mod_placeBy 84 = .ok (.ireturn, 1) := by decide +kernel
theorem d_Mod_placeBy_85 : decode b_Mod_placeBy 85 = .ok (.iload 6, 2) := by decide +kernel
theorem d_Mod_placeBy_87 : decode b_Mod_placeBy 87 = .ok (.ifCond .lt 8, 3) := by decide +kernel
theorem d_Mod_placeBy_90 : decode b_Mod_placeBy 90 = .ok (.iload 6, 2) := by decide +kernel
theorem d_Mod_placeBy_92 : decode b_Mod_placeBy 92 = .ok (.goto 15, 3) := by decide +kernel
theorem d_Mod_placeBy_95 : decode b_Mod_placeBy 95 = .ok (.iload 5, 2) := by decide +kernel
theorem d_Mod_placeBy_97 : decode b_Mod_placeBy 97 = .ok (.ifCond .lt 8, 3) := by decide +kernel
theorem d_Mod_placeBy_100 : decode b_Mod_placeBy 100 = .ok (.iload 5, 2) := by decide +kernel
theorem d_Mod_placeBy_102 : decode b_Mod_placeBy 102 = .ok (.goto 5, 3) := by decide +kernel
theorem d_Mod_placeBy_105 : decode b_Mod_placeBy 105 = .ok (.iload 4, 2) := by decide +kernel
theorem d_Mod_placeBy_107 : decode b_Mod_placeBy 107 = .ok (.ireturn, 1) := by decide +kernel
theorem d_Mod_placeBy_108 : decode b_Mod_placeBy 108 = .ok (.aload_n 0, 1) := by decide +kernel
theorem d_Mod_placeBy_109 : decode b_Mod_placeBy 109 = .ok (.invokevirtual 92, 3) := by decide +kernel
theorem d_Mod_placeBy_112 : decode b_Mod_placeBy 112 = .ok (.ireturn, 1) := by decide +kernel
theorem d_Mod_placeBy_113 : decode b_Mod_placeBy 113 = .ok (.iload 4, 2) := by decide +kernel
theorem d_Mod_placeBy_115 : decode b_Mod_placeBy 115 = .ok (.aload_n 0, 1) := by decide +kernel
theorem d_Mod_placeBy_116 : decode b_Mod_placeBy 116 = .ok (.iload 4, 2) := by decide +kernel
theorem d_Mod_placeBy_118 : decode b_Mod_placeBy 118 = .ok (.invokevirtual 89, 3) := by decide +kernel
theorem d_Mod_placeBy_121 : decode b_Mod_placeBy 121 = .ok (.iadd, 1) := by decide +kernel
theorem d_Mod_placeBy_122 : decode b_Mod_placeBy 122 = .ok (.iload_n 3, 1) := by decide +kernel
theorem d_Mod_placeBy_123 : decode b_Mod_placeBy 123 = .ok (.isub, 1) := by decide +kernel
theorem d_Mod_placeBy_124 : decode b_Mod_placeBy 124 = .ok (.ireturn, 1) := by decide +kernel
theorem d_Mod_placeBy_125 : decode b_Mod_placeBy 125 = .ok (.iload 5, 2) := by decide +kernel
theorem d_Mod_placeBy_127 : decode b_Mod_placeBy 127 = .ok (.ifCond .lt 8, 3) := by decide +kernel
theorem d_Mod_placeBy_130 : decode b_Mod_placeBy 130 = .ok (.iload 5, 2) := by decide +kernel
theorem d_Mod_placeBy_132 : decode b_Mod_placeBy 132 = .ok (.goto 18, 3) := by decide +kernel
theorem d_Mod_placeBy_135 : decode b_Mod_placeBy 135 = .ok (.iload_n 2, 1) := by decide +kernel
theorem d_Mod_placeBy_136 : decode b_Mod_placeBy 136 = .ok (.ifCond .lt 12, 3) := by decide +kernel
theorem d_Mod_placeBy_139 : decode b_Mod_placeBy 139 = .ok (.aload_n 0, 1) := by decide +kernel
theorem d_Mod_placeBy_140 : decode b_Mod_placeBy 140 = .ok (.iload_n 2, 1) := by decide +kernel
theorem d_Mod_placeBy_141 : decode b_Mod_placeBy 141 = .ok (.iload_n 3, 1) := by decide +kernel
theorem d_Mod_placeBy_142 : decode b_Mod_placeBy 142 = .ok (.invokevirtual 115, 3) := by decide +kernel
theorem d_Mod_placeBy_145 : decode b_Mod_placeBy 145 = .ok (.goto 5, 3) := by decide +kernel
theorem d_Mod_placeBy_148 : decode b_Mod_placeBy 148 = .ok (.iload 4, 2) := by decide +kernel
theorem d_Mod_placeBy_150 : decode b_Mod_placeBy 150 = .ok (.ireturn, 1) := by decide +kernel
theorem d_Mod_placeBy_151 : decode b_Mod_placeBy 151 = .ok (.iload 4, 2) := by decide +kernel
theorem d_Mod_placeBy_153 : decode b_Mod_placeBy 153 = .ok (.ireturn, 1) := by decide +kernel
def m_Mod_placeBy (x1 : Int) (x2 : Int) (x3 : Int) (m_owner : Int → Int) : Option (Int) :=
  bnd (m_Mod_fitOf x3 m_owner) (fun r1 => bnd (m_Mod_nearPlace x2 x3 m_owner) (fun r3 => jn (fun (z6 : Int) (z7 : Int) (z8 : Int) (z9 : Int) (z10 : Int) (z11 : Int) => ceq z6 1 (clt z10 0 (some (z9)) (some (z10))) (ceq z6 2 (clt z11 0 (clt z10 0 (some (z9)) (some (z10))) (some (z11))) (ceq z6 3 (bnd (m_Mod_greatest m_owner) (fun r12 => some (r12))) (ceq z6 4 (bnd (m_Mod_runSize z9 m_owner) (fun r14 => some (((z9 + r14) - z8)))) (ceq z6 5 (clt z10 0 (clt z7 0 (some (z9)) (bnd (m_Mod_nearestOf z7 z8 m_owner) (fun r16 => some (r16)))) (some (z10))) (some (z9))))))) (fun j5 => jn (fun (z21 : Int) (z22 : Int) (z23 : Int) (z24 : Int) (z25 : Int) => j5 z21 z22 z23 z24 z25 (-9)) (fun j20 => ceq x1 2 (clt x3 4 (j20 x1 x2 x3 r1 r3) (bnd (m_Mod_stripeOf x3 m_owner) (fun r28 => j5 x1 x2 x3 r1 r3 r28))) (j20 x1 x2 x3 r1 r3)))))
set_option maxHeartbeats 4000000 in
set_option maxRecDepth 100000 in
theorem c_Mod_placeBy (l : Launch) (D : va_G) (cI cB : ClassId) (a0 a1 a2 a3 a4 a5 a6 a7 a8 a9 a10 a11 a12 a13 a14 a15 : Nat) (m_stepsMade : Int) (m_stepsMost : Int) (m_taped : Int) (m_reading : Int) (m_statements : Int) (m_telling : Int) (m_hasImage : Int) (m_isKeeping : Int) (m_cursor : Int) (m_rowMany : Int) (m_lots : Int) (m_refused : Int → Int) (m_bytes : Int → Int) (m_owner : Int → Int) (m_block : Int → Int) (m_written : Int → Int) (m_waits : Int → Int) (m_kinds : Int → Int) (m_tape : Int → Int) (m_sort : Int → Int) (m_sortAt : Int → Int) (m_told : Int → Int) (m_kept : Int → Int) (m_was : Int → Int) (m_ends : Int → Int) (m_row : Int → Int) (x1 : Int) (x2 : Int) (x3 : Int) {o : Int} (h : m_Mod_placeBy x1 x2 x3 m_owner = some o) : Ct l D cI cB y_Mod_placeBy b_Mod_placeBy 7 (some .int) { frames := 2, cells := 0, slots := 0, locals := 46 } [.ref a0, .int (zi x1), .int (zi x2), .int (zi x3)] (w_Mod cI cB a0 a1 a2 a3 a4 a5 a6 a7 a8 a9 a10 a11 a12 a13 a14 a15 m_stepsMade m_stepsMost m_taped m_reading m_statements m_telling m_hasImage m_isKeeping m_cursor m_rowMany m_lots m_refused m_bytes m_owner m_block m_written m_waits m_kinds m_tape m_sort m_sortAt m_told m_kept m_was m_ends m_row) (w_Mod cI cB a0 a1 a2 a3 a4 a5 a6 a7 a8 a9 a10 a11 a12 a13 a14 a15 m_stepsMade m_stepsMost m_taped m_reading m_statements m_telling m_hasImage m_isKeeping m_cursor m_rowMany m_lots m_refused m_bytes m_owner m_block m_written m_waits m_kinds m_tape m_sort m_sortAt m_told m_kept m_was m_ends m_row) (some (.int (zi o))) := by
  refine Ct.start (by decide) (Nat.le_of_ble_eq_true rfl) (fun G X hR => ?_)
  refine x_ls (ls2 := [(0, .ref a0), (1, .int (zi x1)), (2, .int (zi x2)), (3, .int (zi x3))]) [0, 1, 2, 3] rfl ?_
  unfold m_Mod_placeBy at h
  refine x_aload_n (pc := 0) X d_Mod_placeBy_0 0 rfl rfl ?_
  refine x_iload_n (pc := 1) X d_Mod_placeBy_1 3 rfl rfl ?_
  obtain ⟨r1, h2, h⟩ := bnd_e h
  refine x_callV (pc := 2) (As := [.int (zi x3)]) (rest := []) (w2 := (w_Mod cI cB a0 a1 a2 a3 a4 a5 a6 a7 a8 a9 a10 a11 a12 a13 a14 a15 m_stepsMade m_stepsMost m_taped m_reading m_statements m_telling m_hasImage m_isKeeping m_cursor m_rowMany m_lots m_refused m_bytes m_owner m_block m_written m_waits m_kinds m_tape m_sort m_sortAt m_told m_kept m_was m_ends m_row)) X d_Mod_placeBy_2 lk_Mod_106 mv_Mod_fitOf (c_Mod_fitOf l D cI cB a0 a1 a2 a3 a4 a5 a6 a7 a8 a9 a10 a11 a12 a13 a14 a15 m_stepsMade m_stepsMost m_taped m_reading m_statements m_telling m_hasImage m_isKeeping m_cursor m_rowMany m_lots m_refused m_bytes m_owner m_block m_written m_waits m_kinds m_tape m_sort m_sortAt m_told m_kept m_was m_ends m_row x3 h2) ⟨(Nat.le_of_ble_eq_true rfl), (Nat.le_of_ble_eq_true rfl), (Nat.le_of_ble_eq_true rfl), (Nat.le_of_ble_eq_true rfl)⟩ 0 rfl rfl [0, 1, 2, 3, 4, 5, 6, 7, 8, 9, 10, 11, 12, 13, 14, 15] rfl rfl rfl (Up.same rfl) rfl rfl (Nat.le_of_ble_eq_true rfl) ?_
  refine x_istore (pc := 5) (ls2 := [(4, .int (zi r1)), (0, .ref a0), (1, .int (zi x1)), (2, .int (zi x2)), (3, .int (zi x3))]) X d_Mod_placeBy_5 (Nat.le_of_ble_eq_true rfl) rfl ?_
  refine x_aload_n (pc := 7) X d_Mod_placeBy_7 1 rfl rfl ?_
  refine x_iload_n (pc := 8) X d_Mod_placeBy_8 3 rfl rfl ?_
  refine x_iload_n (pc := 9) X d_Mod_placeBy_9 4 rfl rfl ?_
  obtain ⟨r3, h4, h⟩ := bnd_e h
  refine x_callV (pc := 10) (As := [.int (zi x2), .int (zi x3)]) (rest := []) (w2 := (w_Mod cI cB a0 a1 a2 a3 a4 a5 a6 a7 a8 a9 a10 a11 a12 a13 a14 a15 m_stepsMade m_stepsMost m_taped m_reading m_statements m_telling m_hasImage m_isKeeping m_cursor m_rowMany m_lots m_refused m_bytes m_owner m_block m_written m_waits m_kinds m_tape m_sort m_sortAt m_told m_kept m_was m_ends m_row)) X d_Mod_placeBy_10 lk_Mod_109 mv_Mod_nearPlace (c_Mod_nearPlace l D cI cB a0 a1 a2 a3 a4 a5 a6 a7 a8 a9 a10 a11 a12 a13 a14 a15 m_stepsMade m_stepsMost m_taped m_reading m_statements m_telling m_hasImage m_isKeeping m_cursor m_rowMany m_lots m_refused m_bytes m_owner m_block m_written m_waits m_kinds m_tape m_sort m_sortAt m_told m_kept m_was m_ends m_row x2 x3 h4) ⟨(Nat.le_of_ble_eq_true rfl), (Nat.le_of_ble_eq_true rfl), (Nat.le_of_ble_eq_true rfl), (Nat.le_of_ble_eq_true rfl)⟩ 0 rfl rfl [0, 1, 2, 3, 4, 5, 6, 7, 8, 9, 10, 11, 12, 13, 14, 15] rfl rfl rfl (Up.same rfl) rfl rfl (Nat.le_of_ble_eq_true rfl) ?_
  refine x_istore (pc := 13) (ls2 := [(5, .int (zi r3)), (4, .int (zi r1)), (0, .ref a0), (1, .int (zi x1)), (2, .int (zi x2)), (3, .int (zi x3))]) X d_Mod_placeBy_13 (Nat.le_of_ble_eq_true rfl) rfl ?_
  refine x_iload_n (pc := 15) X d_Mod_placeBy_15 3 rfl rfl ?_
  refine x_iconst (pc := 16) X d_Mod_placeBy_16  ?_
  obtain ⟨j5, hj18, h⟩ := jn_e h
  have J19 : ∀ (z6 : Int) (z7 : Int) (z8 : Int) (z9 : Int) (z10 : Int) (z11 : Int), j5 z6 z7 z8 z9 z10 z11 = some o → Wx G 0 0 35 [(0, .ref a0), (1, .int (zi z6)), (2, .int (zi z7)), (3, .int (zi z8)), (4, .int (zi z9)), (5, .int (zi z10))] [.int (zi z11)] (w_Mod cI cB a0 a1 a2 a3 a4 a5 a6 a7 a8 a9 a10 a11 a12 a13 a14 a15 m_stepsMade m_stepsMost m_taped m_reading m_statements m_telling m_hasImage m_isKeeping m_cursor m_rowMany m_lots m_refused m_bytes m_owner m_block m_written m_waits m_kinds m_tape m_sort m_sortAt m_told m_kept m_was m_ends m_row) := by
    intro z6 z7 z8 z9 z10 z11 h
    rw [hj18] at h
    (try dsimp only at h)
    refine x_istore (pc := 35) (ls2 := [(6, .int (zi z11)), (0, .ref a0), (1, .int (zi z6)), (2, .int (zi z7)), (3, .int (zi z8)), (4, .int (zi z9)), (5, .int (zi z10))]) X d_Mod_placeBy_35 (Nat.le_of_ble_eq_true rfl) rfl ?_
    refine x_iload_n (pc := 37) X d_Mod_placeBy_37 2 rfl rfl ?_
    obtain ⟨hz, h⟩ := ceq_e h
    rcases h with ⟨e0, h⟩ | ⟨n0, h⟩
    · refine x_tsIn (pc := 38) (v := 1) (tgt := 72) X d_Mod_placeBy_38 e0 ⟨by decide, by decide⟩ (by decide) (by decide) rfl rfl ?_
      refine x_iload (pc := 72) X d_Mod_placeBy_72 6 rfl ?_
      refine x_iflt (pc := 74) (tgt := 82) X d_Mod_placeBy_74 rfl h (fun h => ?_) (fun h => ?_)
      · skip
        refine x_iload (pc := 82) X d_Mod_placeBy_82 5 rfl ?_
        cases h
        exact x_iret (pc := 84) X hR d_Mod_placeBy_84
      · skip
        refine x_iload (pc := 77) X d_Mod_placeBy_77 6 rfl ?_
        refine x_goto (pc := 79) (tgt := 84) X d_Mod_placeBy_79 rfl ?_
        cases h
        exact x_iret (pc := 84) X hR d_Mod_placeBy_84
    obtain ⟨hz, h⟩ := ceq_e h
    rcases h with ⟨e1, h⟩ | ⟨n1, h⟩
    · refine x_tsIn (pc := 38) (v := 2) (tgt := 85) X d_Mod_placeBy_38 e1 ⟨by decide, by decide⟩ (by decide) (by decide) rfl rfl ?_
      refine x_iload (pc := 85) X d_Mod_placeBy_85 0 rfl ?_
      refine x_iflt (pc := 87) (tgt := 95) X d_Mod_placeBy_87 rfl h (fun h => ?_) (fun h => ?_)
      · skip
        refine x_iload (pc := 95) X d_Mod_placeBy_95 6 rfl ?_
        refine x_iflt (pc := 97) (tgt := 105) X d_Mod_placeBy_97 rfl h (fun h => ?_) (fun h => ?_)
        · skip
          refine x_iload (pc := 105) X d_Mod_placeBy_105 5 rfl ?_
          cases h
          exact x_iret (pc := 107) X hR d_Mod_placeBy_107
        · skip
          refine x_iload (pc := 100) X d_Mod_placeBy_100 6 rfl ?_
          refine x_goto (pc := 102) (tgt := 107) X d_Mod_placeBy_102 rfl ?_
          cases h
          exact x_iret (pc := 107) X hR d_Mod_placeBy_107
      · skip
        refine x_iload (pc := 90) X d_Mod_placeBy_90 0 rfl ?_
        refine x_goto (pc := 92) (tgt := 107) X d_Mod_placeBy_92 rfl ?_
        cases h
        exact x_iret (pc := 107) X hR d_Mod_placeBy_107
    obtain ⟨hz, h⟩ := ceq_e h
    rcases h with ⟨e2, h⟩ | ⟨n2, h⟩
    · refine x_tsIn (pc := 38) (v := 3) (tgt := 108) X d_Mod_placeBy_38 e2 ⟨by decide, by decide⟩ (by decide) (by decide) rfl rfl ?_
      refine x_aload_n (pc := 108) X d_Mod_placeBy_108 1 rfl rfl ?_
      obtain ⟨r12, h13, h⟩ := bnd_e h
      refine x_callV (pc := 109) (As := []) (rest := []) (w2 := (w_Mod cI cB a0 a1 a2 a3 a4 a5 a6 a7 a8 a9 a10 a11 a12 a13 a14 a15 m_stepsMade m_stepsMost m_taped m_reading m_statements m_telling m_hasImage m_isKeeping m_cursor m_rowMany m_lots m_refused m_bytes m_owner m_block m_written m_waits m_kinds m_tape m_sort m_sortAt m_told m_kept m_was m_ends m_row)) X d_Mod_placeBy_109 lk_Mod_92 mv_Mod_greatest (c_Mod_greatest l D cI cB a0 a1 a2 a3 a4 a5 a6 a7 a8 a9 a10 a11 a12 a13 a14 a15 m_stepsMade m_stepsMost m_taped m_reading m_statements m_telling m_hasImage m_isKeeping m_cursor m_rowMany m_lots m_refused m_bytes m_owner m_block m_written m_waits m_kinds m_tape m_sort m_sortAt m_told m_kept m_was m_ends m_row h13) ⟨(Nat.le_of_ble_eq_true rfl), (Nat.le_of_ble_eq_true rfl), (Nat.le_of_ble_eq_true rfl), (Nat.le_of_ble_eq_true rfl)⟩ 0 rfl rfl [0, 1, 2, 3, 4, 5, 6, 7, 8, 9, 10, 11, 12, 13, 14, 15] rfl rfl rfl (Up.same rfl) rfl rfl (Nat.le_of_ble_eq_true rfl) ?_
      cases h
      exact x_iret (pc := 112) X hR d_Mod_placeBy_112
    obtain ⟨hz, h⟩ := ceq_e h
    rcases h with ⟨e3, h⟩ | ⟨n3, h⟩
    · refine x_tsIn (pc := 38) (v := 4) (tgt := 113) X d_Mod_placeBy_38 e3 ⟨by decide, by decide⟩ (by decide) (by decide) rfl rfl ?_
      refine x_iload (pc := 113) X d_Mod_placeBy_113 5 rfl ?_
      refine x_aload_n (pc := 115) X d_Mod_placeBy_115 1 rfl rfl ?_
      refine x_iload (pc := 116) X d_Mod_placeBy_116 5 rfl ?_
      obtain ⟨r14, h15, h⟩ := bnd_e h
      refine x_callV (pc := 118) (As := [.int (zi z9)]) (rest := [.int (zi z9)]) (w2 := (w_Mod cI cB a0 a1 a2 a3 a4 a5 a6 a7 a8 a9 a10 a11 a12 a13 a14 a15 m_stepsMade m_stepsMost m_taped m_reading m_statements m_telling m_hasImage m_isKeeping m_cursor m_rowMany m_lots m_refused m_bytes m_owner m_block m_written m_waits m_kinds m_tape m_sort m_sortAt m_told m_kept m_was m_ends m_row)) X d_Mod_placeBy_118 lk_Mod_89 mv_Mod_runSize (c_Mod_runSize l D cI cB a0 a1 a2 a3 a4 a5 a6 a7 a8 a9 a10 a11 a12 a13 a14 a15 m_stepsMade m_stepsMost m_taped m_reading m_statements m_telling m_hasImage m_isKeeping m_cursor m_rowMany m_lots m_refused m_bytes m_owner m_block m_written m_waits m_kinds m_tape m_sort m_sortAt m_told m_kept m_was m_ends m_row z9 h15) ⟨(Nat.le_of_ble_eq_true rfl), (Nat.le_of_ble_eq_true rfl), (Nat.le_of_ble_eq_true rfl), (Nat.le_of_ble_eq_true rfl)⟩ 0 rfl rfl [0, 1, 2, 3, 4, 5, 6, 7, 8, 9, 10, 11, 12, 13, 14, 15] rfl rfl rfl (Up.same rfl) rfl rfl (Nat.le_of_ble_eq_true rfl) ?_
      refine x_iadd (pc := 121) X d_Mod_placeBy_121  ?_
      refine x_iload_n (pc := 122) X d_Mod_placeBy_122 4 rfl rfl ?_
      refine x_isub (pc := 123) X d_Mod_placeBy_123  ?_
      cases h
      exact x_iret (pc := 124) X hR d_Mod_placeBy_124
    obtain ⟨hz, h⟩ := ceq_e h
    rcases h with ⟨e4, h⟩ | ⟨n4, h⟩
    · refine x_tsIn (pc := 38) (v := 5) (tgt := 125) X d_Mod_placeBy_38 e4 ⟨by decide, by decide⟩ (by decide) (by decide) rfl rfl ?_
      refine x_iload (pc := 125) X d_Mod_placeBy_125 6 rfl ?_
      refine x_iflt (pc := 127) (tgt := 135) X d_Mod_placeBy_127 rfl h (fun h => ?_) (fun h => ?_)
      · skip
        refine x_iload_n (pc := 135) X d_Mod_placeBy_135 3 rfl rfl ?_
        refine x_iflt (pc := 136) (tgt := 148) X d_Mod_placeBy_136 rfl h (fun h => ?_) (fun h => ?_)
        · skip
          refine x_iload (pc := 148) X d_Mod_placeBy_148 5 rfl ?_
          cases h
          exact x_iret (pc := 150) X hR d_Mod_placeBy_150
        · skip
          refine x_aload_n (pc := 139) X d_Mod_placeBy_139 1 rfl rfl ?_
          refine x_iload_n (pc := 140) X d_Mod_placeBy_140 3 rfl rfl ?_
          refine x_iload_n (pc := 141) X d_Mod_placeBy_141 4 rfl rfl ?_
          obtain ⟨r16, h17, h⟩ := bnd_e h
          refine x_callV (pc := 142) (As := [.int (zi z7), .int (zi z8)]) (rest := []) (w2 := (w_Mod cI cB a0 a1 a2 a3 a4 a5 a6 a7 a8 a9 a10 a11 a12 a13 a14 a15 m_stepsMade m_stepsMost m_taped m_reading m_statements m_telling m_hasImage m_isKeeping m_cursor m_rowMany m_lots m_refused m_bytes m_owner m_block m_written m_waits m_kinds m_tape m_sort m_sortAt m_told m_kept m_was m_ends m_row)) X d_Mod_placeBy_142 lk_Mod_115 mv_Mod_nearestOf (c_Mod_nearestOf l D cI cB a0 a1 a2 a3 a4 a5 a6 a7 a8 a9 a10 a11 a12 a13 a14 a15 m_stepsMade m_stepsMost m_taped m_reading m_statements m_telling m_hasImage m_isKeeping m_cursor m_rowMany m_lots m_refused m_bytes m_owner m_block m_written m_waits m_kinds m_tape m_sort m_sortAt m_told m_kept m_was m_ends m_row z7 z8 h17) ⟨(Nat.le_of_ble_eq_true rfl), (Nat.le_of_ble_eq_true rfl), (Nat.le_of_ble_eq_true rfl), (Nat.le_of_ble_eq_true rfl)⟩ 0 rfl rfl [0, 1, 2, 3, 4, 5, 6, 7, 8, 9, 10, 11, 12, 13, 14, 15] rfl rfl rfl (Up.same rfl) rfl rfl (Nat.le_of_ble_eq_true rfl) ?_
          refine x_goto (pc := 145) (tgt := 150) X d_Mod_placeBy_145 rfl ?_
          cases h
          exact x_iret (pc := 150) X hR d_Mod_placeBy_150
      · skip
        refine x_iload (pc := 130) X d_Mod_placeBy_130 6 rfl ?_
        refine x_goto (pc := 132) (tgt := 150) X d_Mod_placeBy_132 rfl ?_
        cases h
        exact x_iret (pc := 150) X hR d_Mod_placeBy_150
    refine x_tsOut (pc := 38) (tgt := 151) X d_Mod_placeBy_38 hz.1 (by omega) rfl ?_
    · skip
      refine x_iload (pc := 151) X d_Mod_placeBy_151 5 rfl ?_
      cases h
      exact x_iret (pc := 153) X hR d_Mod_placeBy_153
  clear hj18
  obtain ⟨j20, hj26, h⟩ := jn_e h
  have J27 : ∀ (z21 : Int) (z22 : Int) (z23 : Int) (z24 : Int) (z25 : Int), j20 z21 z22 z23 z24 z25 = some o → Wx G 0 0 33 [(0, .ref a0), (1, .int (zi z21)), (2, .int (zi z22)), (3, .int (zi z23)), (4, .int (zi z24)), (5, .int (zi z25))] [] (w_Mod cI cB a0 a1 a2 a3 a4 a5 a6 a7 a8 a9 a10 a11 a12 a13 a14 a15 m_stepsMade m_stepsMost m_taped m_reading m_statements m_telling m_hasImage m_isKeeping m_cursor m_rowMany m_lots m_refused m_bytes m_owner m_block m_written m_waits m_kinds m_tape m_sort m_sortAt m_told m_kept m_was m_ends m_row) := by
    intro z21 z22 z23 z24 z25 h
    rw [hj26] at h
    (try dsimp only at h)
    refine x_bipush (pc := 33) (v := -9) X d_Mod_placeBy_33 rfl ?_
    exact J19 z21 z22 z23 z24 z25 (-9) h
  clear hj26
  refine x_icmpne (pc := 17) (tgt := 33) X d_Mod_placeBy_17 rfl h (fun h => ?_) (fun h => ?_)
  · skip
    refine x_ls (ls2 := [(0, .ref a0), (1, .int (zi x1)), (2, .int (zi x2)), (3, .int (zi x3)), (4, .int (zi r1)), (5, .int (zi r3))]) [2, 3, 4, 5, 1, 0] rfl ?_
    exact J27 x1 x2 x3 r1 r3 h
  · skip
    refine x_iload_n (pc := 20) X d_Mod_placeBy_20 5 rfl rfl ?_
    refine x_iconst (pc := 21) X d_Mod_placeBy_21  ?_
    refine x_icmplt (pc := 22) (tgt := 33) X d_Mod_placeBy_22 rfl h (fun h => ?_) (fun h => ?_)
    · skip
      refine x_ls (ls2 := [(0, .ref a0), (1, .int (zi x1)), (2, .int (zi x2)), (3, .int (zi x3)), (4, .int (zi r1)), (5, .int (zi r3))]) [2, 3, 4, 5, 1, 0] rfl ?_
      exact J27 x1 x2 x3 r1 r3 h
    · skip
      refine x_aload_n (pc := 25) X d_Mod_placeBy_25 2 rfl rfl ?_
      refine x_iload_n (pc := 26) X d_Mod_placeBy_26 5 rfl rfl ?_
      obtain ⟨r28, h29, h⟩ := bnd_e h
      refine x_callV (pc := 27) (As := [.int (zi x3)]) (rest := []) (w2 := (w_Mod cI cB a0 a1 a2 a3 a4 a5 a6 a7 a8 a9 a10 a11 a12 a13 a14 a15 m_stepsMade m_stepsMost m_taped m_reading m_statements m_telling m_hasImage m_isKeeping m_cursor m_rowMany m_lots m_refused m_bytes m_owner m_block m_written m_waits m_kinds m_tape m_sort m_sortAt m_told m_kept m_was m_ends m_row)) X d_Mod_placeBy_27 lk_Mod_112 mv_Mod_stripeOf (c_Mod_stripeOf l D cI cB a0 a1 a2 a3 a4 a5 a6 a7 a8 a9 a10 a11 a12 a13 a14 a15 m_stepsMade m_stepsMost m_taped m_reading m_statements m_telling m_hasImage m_isKeeping m_cursor m_rowMany m_lots m_refused m_bytes m_owner m_block m_written m_waits m_kinds m_tape m_sort m_sortAt m_told m_kept m_was m_ends m_row x3 h29) ⟨(Nat.le_of_ble_eq_true rfl), (Nat.le_of_ble_eq_true rfl), (Nat.le_of_ble_eq_true rfl), (Nat.le_of_ble_eq_true rfl)⟩ 0 rfl rfl [0, 1, 2, 3, 4, 5, 6, 7, 8, 9, 10, 11, 12, 13, 14, 15] rfl rfl rfl (Up.same rfl) rfl rfl (Nat.le_of_ble_eq_true rfl) ?_
      refine x_goto (pc := 30) (tgt := 35) X d_Mod_placeBy_30 rfl ?_
      refine x_ls (ls2 := [(0, .ref a0), (1, .int (zi x1)), (2, .int (zi x2)), (3, .int (zi x3)), (4, .int (zi r1)), (5, .int (zi r3))]) [2, 3, 4, 5, 1, 0] rfl ?_
      exact J19 x1 x2 x3 r1 r3 r28 h
theorem d_Mod_placesPiece_0 : decode b_Mod_placesPiece 0 = .ok (.iconst 0, 1) := by decide +kernel
theorem d_Mod_placesPiece_1 : decode b_Mod_placesPiece 1 = .ok (.istore 4, 2) := by decide +kernel
theorem d_Mod_placesPiece_3 : decode b_Mod_placesPiece 3 = .ok (.iload 4, 2) := by decide +kernel
theorem d_Mod_placesPiece_5 : decode b_Mod_placesPiece 5 = .ok (.iload_n 3, 1) := by decide +kernel
theorem d_Mod_placesPiece_6 : decode b_Mod_placesPiece 6 = .ok (.if_icmp .ge 45, 3) := by decide +kernel
theorem d_Mod_placesPiece_9 : decode b_Mod_placesPiece 9 = .ok (.aload_n 0, 1) := by decide +kernel
theorem d_Mod_placesPiece_10 : decode b_Mod_placesPiece 10 = .ok (.getfield 16, 3) := by decide +kernel
theorem d_Mod_placesPiece_13 : decode b_Mod_placesPiece 13 = .ok (.iload_n 2, 1) := by decide +kernel
theorem d_Mod_placesPiece_14 : decode b_Mod_placesPiece 14 = .ok (.iload 4, 2) := by decide +kernel
theorem d_Mod_placesPiece_16 : decode b_Mod_placesPiece 16 = .ok (.iadd, 1) := by decide +kernel
theorem d_Mod_placesPiece_17 : decode b_Mod_placesPiece 17 = .ok (.iload_n 1, 1) := by decide +kernel
theorem d_Mod_placesPiece_18 : decode b_Mod_placesPiece 18 = .ok (.iload 4, 2) := by decide +kernel
theorem d_Mod_placesPiece_20 : decode b_Mod_placesPiece 20 = .ok (.iadd, 1) := by decide +kernel
theorem d_Mod_placesPiece_21 : decode b_Mod_placesPiece 21 = .ok (.iastore, 1) := by decide +kernel
theorem d_Mod_placesPiece_22 : decode b_Mod_placesPiece 22 = .ok (.aload_n 0, 1) := by decide +kernel
theorem d_Mod_placesPiece_23 : decode b_Mod_placesPiece 23 = .ok (.getfield 19, 3) := by decide +kernel
theorem d_Mod_placesPiece_26 : decode b_Mod_placesPiece 26 = .ok (.iload_n 1, 1) := by decide +kernel
theorem d_Mod_placesPiece_27 : decode b_Mod_placesPiece 27 = .ok (.iload 4, 2) := by decide +kernel
theorem d_Mod_placesPiece_29 : decode b_Mod_placesPiece 29 = .ok (.iadd, 1) := by decide +kernel
theorem d_Mod_placesPiece_30 : decode b_Mod_placesPiece 30 = .ok (.iload_n 2, 1) := by decide +kernel
theorem d_Mod_placesPiece_31 : decode b_Mod_placesPiece 31 = .ok (.iload 4, 2) := by decide +kernel
theorem d_Mod_placesPiece_33 : decode b_Mod_placesPiece 33 = .ok (.iadd, 1) := by decide +kernel
theorem d_Mod_placesPiece_34 : decode b_Mod_placesPiece 34 = .ok (.iastore, 1) := by decide +kernel
theorem d_Mod_placesPiece_35 : decode b_Mod_placesPiece 35 = .ok (.aload_n 0, 1) := by decide +kernel
theorem d_Mod_placesPiece_36 : decode b_Mod_placesPiece 36 = .ok (.getfield 22, 3) := by decide +kernel
theorem d_Mod_placesPiece_39 : decode b_Mod_placesPiece 39 = .ok (.iload_n 1, 1) := by decide +kernel
theorem d_Mod_placesPiece_40 : decode b_Mod_placesPiece 40 = .ok (.iload 4, 2) := by decide +kernel
theorem d_Mod_placesPiece_42 : decode b_Mod_placesPiece 42 = .ok (.iadd, 1) := by decide +kernel
theorem d_Mod_placesPiece_43 : decode b_Mod_placesPiece 43 = .ok (.iconst 0, 1) := by decide +kernel
theorem d_Mod_placesPiece_44 : decode b_Mod_placesPiece 44 = .ok (.iastore, 1) := by decide +kernel
theorem d_Mod_placesPiece_45 : decode b_Mod_placesPiece 45 = .ok (.iinc 4 1, 3) := by decide +kernel
theorem d_Mod_placesPiece_48 : decode b_Mod_placesPiece 48 = .ok (.goto (-45), 3) := by decide +kernel
theorem d_Mod_placesPiece_51 : decode b_Mod_placesPiece 51 = .ok (.return_, 1) := by decide +kernel
def m_Mod_placesPiece_3 : Nat → Int → Int → Int → Int → (Int → Int) → (Int → Int) → (Int → Int) → Option ((Int → Int) × (Int → Int) × (Int → Int))
  | 0, _, _, _, _, _, _, _ => none
  | fuel + 1, v1, v2, v3, v4, m_owner, m_block, m_written =>
  clt v4 v3 (gd (zx (v2 + v4) 64) (gd (zx (v1 + v4) 96) (gd (zx (v1 + v4) 96) (m_Mod_placesPiece_3 fuel v1 v2 v3 (v4 + 1) (uf m_owner (v2 + v4) (v1 + v4)) (uf m_block (v1 + v4) (v2 + v4)) (uf m_written (v1 + v4) 0))))) (some (m_owner, m_block, m_written))
def m_Mod_placesPiece (x1 : Int) (x2 : Int) (x3 : Int) (m_owner : Int → Int) (m_block : Int → Int) (m_written : Int → Int) : Option ((Int → Int) × (Int → Int) × (Int → Int)) :=
  m_Mod_placesPiece_3 5000 x1 x2 x3 0 m_owner m_block m_written
set_option maxHeartbeats 4000000 in
set_option maxRecDepth 100000 in
theorem l_Mod_placesPiece_3 {G : GT} {l : Launch} {D : va_G} {cI cB : ClassId} {a0 a1 a2 a3 a4 a5 a6 a7 a8 a9 a10 a11 a12 a13 a14 a15 : Nat} {m_stepsMade : Int} {m_stepsMost : Int} {m_taped : Int} {m_reading : Int} {m_statements : Int} {m_telling : Int} {m_hasImage : Int} {m_isKeeping : Int} {m_cursor : Int} {m_rowMany : Int} {m_lots : Int} {m_refused : Int → Int} {m_bytes : Int → Int} {m_waits : Int → Int} {m_kinds : Int → Int} {m_tape : Int → Int} {m_sort : Int → Int} {m_sortAt : Int → Int} {m_told : Int → Int} {m_kept : Int → Int} {m_was : Int → Int} {m_ends : Int → Int} {m_row : Int → Int} (X : Cx G l D cI cB b_Mod_placesPiece y_Mod_placesPiece.cls 5 { frames := 0, cells := 0, slots := 0, locals := 0 }) : ∀ (fuel : Nat) (v1 : Int) (v2 : Int) (v3 : Int) (v4 : Int) (m_owner : Int → Int) (m_block : Int → Int) (m_written : Int → Int) (o : (Int → Int) × (Int → Int) × (Int → Int)), m_Mod_placesPiece_3 fuel v1 v2 v3 v4 m_owner m_block m_written = some o → Rt G none none (w_Mod cI cB a0 a1 a2 a3 a4 a5 a6 a7 a8 a9 a10 a11 a12 a13 a14 a15 m_stepsMade m_stepsMost m_taped m_reading m_statements m_telling m_hasImage m_isKeeping m_cursor m_rowMany m_lots m_refused m_bytes o.1 o.2.1 o.2.2 m_waits m_kinds m_tape m_sort m_sortAt m_told m_kept m_was m_ends m_row) → Wx G 0 0 3 [(0, .ref a0), (1, .int (zi v1)), (2, .int (zi v2)), (3, .int (zi v3)), (4, .int (zi v4))] [] (w_Mod cI cB a0 a1 a2 a3 a4 a5 a6 a7 a8 a9 a10 a11 a12 a13 a14 a15 m_stepsMade m_stepsMost m_taped m_reading m_statements m_telling m_hasImage m_isKeeping m_cursor m_rowMany m_lots m_refused m_bytes m_owner m_block m_written m_waits m_kinds m_tape m_sort m_sortAt m_told m_kept m_was m_ends m_row) := by
  intro fuel
  induction fuel with
  | zero =>
    intro v1 v2 v3 v4 m_owner m_block m_written o h
    exact absurd h (by simp [m_Mod_placesPiece_3])
  | succ fuel ih =>
    intro v1 v2 v3 v4 m_owner m_block m_written o h hR
    rw [m_Mod_placesPiece_3] at h
    refine x_iload (pc := 3) X d_Mod_placesPiece_3 4 rfl ?_
    refine x_iload_n (pc := 5) X d_Mod_placesPiece_5 3 rfl rfl ?_
    refine x_icmpge (pc := 6) (tgt := 51) X d_Mod_placesPiece_6 rfl h (fun h => ?_) (fun h => ?_)
    · skip
      cases h
      exact x_vret (pc := 51) X hR d_Mod_placesPiece_51
    · skip
      refine x_aload_n (pc := 9) X d_Mod_placesPiece_9 0 rfl rfl ?_
      refine x_get (pc := 10) X d_Mod_placesPiece_10 0 rfl fl_Mod_16 rfl ?_
      refine x_iload_n (pc := 13) X d_Mod_placesPiece_13 2 rfl rfl ?_
      refine x_iload (pc := 14) X d_Mod_placesPiece_14 4 rfl ?_
      refine x_iadd (pc := 16) X d_Mod_placesPiece_16  ?_
      refine x_iload_n (pc := 17) X d_Mod_placesPiece_17 1 rfl rfl ?_
      refine x_iload (pc := 18) X d_Mod_placesPiece_18 4 rfl ?_
      refine x_iadd (pc := 20) X d_Mod_placesPiece_20  ?_
      refine x_iast (pc := 21) (w2 := (w_Mod cI cB a0 a1 a2 a3 a4 a5 a6 a7 a8 a9 a10 a11 a12 a13 a14 a15 m_stepsMade m_stepsMost m_taped m_reading m_statements m_telling m_hasImage m_isKeeping m_cursor m_rowMany m_lots m_refused m_bytes (uf m_owner (v2 + v4) (v1 + v4)) m_block m_written m_waits m_kinds m_tape m_sort m_sortAt m_told m_kept m_was m_ends m_row)) X d_Mod_placesPiece_21 3 rfl (Nat.le_of_ble_eq_true rfl) rfl rfl h (fun h => ?_)
      refine x_aload_n (pc := 22) X d_Mod_placesPiece_22 0 rfl rfl ?_
      refine x_get (pc := 23) X d_Mod_placesPiece_23 0 rfl fl_Mod_19 rfl ?_
      refine x_iload_n (pc := 26) X d_Mod_placesPiece_26 1 rfl rfl ?_
      refine x_iload (pc := 27) X d_Mod_placesPiece_27 4 rfl ?_
      refine x_iadd (pc := 29) X d_Mod_placesPiece_29  ?_
      refine x_iload_n (pc := 30) X d_Mod_placesPiece_30 2 rfl rfl ?_
      refine x_iload (pc := 31) X d_Mod_placesPiece_31 4 rfl ?_
      refine x_iadd (pc := 33) X d_Mod_placesPiece_33  ?_
      refine x_iast (pc := 34) (w2 := (w_Mod cI cB a0 a1 a2 a3 a4 a5 a6 a7 a8 a9 a10 a11 a12 a13 a14 a15 m_stepsMade m_stepsMost m_taped m_reading m_statements m_telling m_hasImage m_isKeeping m_cursor m_rowMany m_lots m_refused m_bytes (uf m_owner (v2 + v4) (v1 + v4)) (uf m_block (v1 + v4) (v2 + v4)) m_written m_waits m_kinds m_tape m_sort m_sortAt m_told m_kept m_was m_ends m_row)) X d_Mod_placesPiece_34 4 rfl (Nat.le_of_ble_eq_true rfl) rfl rfl h (fun h => ?_)
      refine x_aload_n (pc := 35) X d_Mod_placesPiece_35 0 rfl rfl ?_
      refine x_get (pc := 36) X d_Mod_placesPiece_36 0 rfl fl_Mod_22 rfl ?_
      refine x_iload_n (pc := 39) X d_Mod_placesPiece_39 1 rfl rfl ?_
      refine x_iload (pc := 40) X d_Mod_placesPiece_40 4 rfl ?_
      refine x_iadd (pc := 42) X d_Mod_placesPiece_42  ?_
      refine x_iconst (pc := 43) X d_Mod_placesPiece_43  ?_
      refine x_iast (pc := 44) (w2 := (w_Mod cI cB a0 a1 a2 a3 a4 a5 a6 a7 a8 a9 a10 a11 a12 a13 a14 a15 m_stepsMade m_stepsMost m_taped m_reading m_statements m_telling m_hasImage m_isKeeping m_cursor m_rowMany m_lots m_refused m_bytes (uf m_owner (v2 + v4) (v1 + v4)) (uf m_block (v1 + v4) (v2 + v4)) (uf m_written (v1 + v4) 0) m_waits m_kinds m_tape m_sort m_sortAt m_told m_kept m_was m_ends m_row)) X d_Mod_placesPiece_44 5 rfl (Nat.le_of_ble_eq_true rfl) rfl rfl h (fun h => ?_)
      refine x_iinc (pc := 45) (ls2 := [(4, .int (zi (v4 + 1))), (0, .ref a0), (1, .int (zi v1)), (2, .int (zi v2)), (3, .int (zi v3))]) X d_Mod_placesPiece_45 4 (Nat.le_of_ble_eq_true rfl) rfl rfl ?_
      refine x_goto (pc := 48) (tgt := 3) X d_Mod_placesPiece_48 rfl ?_
      refine x_ls (ls2 := [(0, .ref a0), (1, .int (zi v1)), (2, .int (zi v2)), (3, .int (zi v3)), (4, .int (zi (v4 + 1)))]) [1, 2, 3, 4, 0] rfl ?_
      exact ih v1 v2 v3 (v4 + 1) (uf m_owner (v2 + v4) (v1 + v4)) (uf m_block (v1 + v4) (v2 + v4)) (uf m_written (v1 + v4) 0) o h hR
set_option maxHeartbeats 4000000 in
set_option maxRecDepth 100000 in
theorem c_Mod_placesPiece (l : Launch) (D : va_G) (cI cB : ClassId) (a0 a1 a2 a3 a4 a5 a6 a7 a8 a9 a10 a11 a12 a13 a14 a15 : Nat) (m_stepsMade : Int) (m_stepsMost : Int) (m_taped : Int) (m_reading : Int) (m_statements : Int) (m_telling : Int) (m_hasImage : Int) (m_isKeeping : Int) (m_cursor : Int) (m_rowMany : Int) (m_lots : Int) (m_refused : Int → Int) (m_bytes : Int → Int) (m_owner : Int → Int) (m_block : Int → Int) (m_written : Int → Int) (m_waits : Int → Int) (m_kinds : Int → Int) (m_tape : Int → Int) (m_sort : Int → Int) (m_sortAt : Int → Int) (m_told : Int → Int) (m_kept : Int → Int) (m_was : Int → Int) (m_ends : Int → Int) (m_row : Int → Int) (x1 : Int) (x2 : Int) (x3 : Int) {o : (Int → Int) × (Int → Int) × (Int → Int)} (h : m_Mod_placesPiece x1 x2 x3 m_owner m_block m_written = some o) : Ct l D cI cB y_Mod_placesPiece b_Mod_placesPiece 5 none { frames := 0, cells := 0, slots := 0, locals := 0 } [.ref a0, .int (zi x1), .int (zi x2), .int (zi x3)] (w_Mod cI cB a0 a1 a2 a3 a4 a5 a6 a7 a8 a9 a10 a11 a12 a13 a14 a15 m_stepsMade m_stepsMost m_taped m_reading m_statements m_telling m_hasImage m_isKeeping m_cursor m_rowMany m_lots m_refused m_bytes m_owner m_block m_written m_waits m_kinds m_tape m_sort m_sortAt m_told m_kept m_was m_ends m_row) (w_Mod cI cB a0 a1 a2 a3 a4 a5 a6 a7 a8 a9 a10 a11 a12 a13 a14 a15 m_stepsMade m_stepsMost m_taped m_reading m_statements m_telling m_hasImage m_isKeeping m_cursor m_rowMany m_lots m_refused m_bytes o.1 o.2.1 o.2.2 m_waits m_kinds m_tape m_sort m_sortAt m_told m_kept m_was m_ends m_row) none := by
  refine Ct.start (by decide) (Nat.le_of_ble_eq_true rfl) (fun G X hR => ?_)
  refine x_ls (ls2 := [(0, .ref a0), (1, .int (zi x1)), (2, .int (zi x2)), (3, .int (zi x3))]) [0, 1, 2, 3] rfl ?_
  unfold m_Mod_placesPiece at h
  refine x_iconst (pc := 0) X d_Mod_placesPiece_0  ?_
  refine x_istore (pc := 1) (ls2 := [(4, .int (zi 0)), (0, .ref a0), (1, .int (zi x1)), (2, .int (zi x2)), (3, .int (zi x3))]) X d_Mod_placesPiece_1 (Nat.le_of_ble_eq_true rfl) rfl ?_
  refine x_ls (ls2 := [(0, .ref a0), (1, .int (zi x1)), (2, .int (zi x2)), (3, .int (zi x3)), (4, .int (zi 0))]) [1, 2, 3, 4, 0] rfl ?_
  exact l_Mod_placesPiece_3 X 5000 x1 x2 x3 0 m_owner m_block m_written o h hR
theorem d_Mod_puts_0 : decode b_Mod_puts 0 = .ok (.iload_n 2, 1) := by decide +kernel
theorem d_Mod_puts_1 : decode b_Mod_puts 1 = .ok (.istore_n 3, 1) := by decide +kernel
theorem d_Mod_puts_2 : decode b_Mod_puts 2 = .ok (.iload_n 1, 1) := by decide +kernel
theorem d_Mod_puts_3 : decode b_Mod_puts 3 = .ok (.istore 4, 2) := by decide +kernel
theorem d_Mod_puts_5 : decode b_Mod_puts 5 = .ok (.iload_n 3, 1) := by decide +kernel
theorem d_Mod_puts_6 : decode b_Mod_puts 6 = .ok (.ifCond .le 86, 3) := by decide +kernel
theorem d_Mod_puts_9 : decode b_Mod_puts 9 = .ok (.aload_n 0, 1) := by decide +kernel
theorem d_Mod_puts_10 : decode b_Mod_puts 10 = .ok (.invokevirtual 118, 3) := by decide +kernel
theorem d_Mod_puts_13 : decode b_Mod_puts 13 = .ok (.ifCond .ne 5, 3) := by decide +kernel
theorem d_Mod_puts_16 : decode b_Mod_puts 16 = .ok (.iconst 0, 1) := by decide +kernel
theorem d_Mod_puts_17 : decode b_Mod_puts 17 = .ok (.ireturn, 1) := by decide +kernel
theorem d_Mod_puts_18 : decode b_Mod_puts 18 = .ok (.aload_n 0, 1) := by decide +kernel
theorem d_Mod_puts_19 : decode b_Mod_puts 19 = .ok (.invokevirtual 122, 3) := by decide +kernel
theorem d_Mod_puts_22 : decode b_Mod_puts 22 = .ok (.iload_n 3, 1) := by decide +kernel
theorem d_Mod_puts_23 : decode b_Mod_puts 23 = .ok (.if_icmp .lt 7, 3) := by decide +kernel
theorem d_Mod_puts_26 : decode b_Mod_puts 26 = .ok (.iload_n 3, 1) := by decide +kernel
theorem d_Mod_puts_27 : decode b_Mod_puts 27 = .ok (.goto 7, 3) := by decide +kernel
theorem d_Mod_puts_30 : decode b_Mod_puts 30 = .ok (.aload_n 0, 1) := by decide +kernel
theorem d_Mod_puts_31 : decode b_Mod_puts 31 = .ok (.invokevirtual 122, 3) := by decide +kernel
theorem d_Mod_puts_34 : decode b_Mod_puts 34 = .ok (.istore 5, 2) := by decide +kernel
theorem d_Mod_puts_36 : decode b_Mod_puts 36 = .ok (.aload_n 0, 1) := by decide +kernel
theorem d_Mod_puts_37 : decode b_Mod_puts 37 = .ok (.iload 4, 2) := by decide +kernel
theorem d_Mod_puts_39 : decode b_Mod_puts 39 = .ok (.iload 5, 2) := by decide +kernel
theorem d_Mod_puts_41 : decode b_Mod_puts 41 = .ok (.iload_n 3, 1) := by decide +kernel
theorem d_Mod_puts_42 : decode b_Mod_puts 42 = .ok (.if_icmp .ne 26, 3) := by decide +kernel
theorem d_Mod_puts_45 : decode b_Mod_puts 45 = .ok (.aload_n 0, 1) := by decide +kernel
theorem d_Mod_puts_46 : decode b_Mod_puts 46 = .ok (.aload_n 0, 1) := by decide +kernel
theorem d_Mod_puts_47 : decode b_Mod_puts 47 = .ok (.getfield 28, 3) := by decide +kernel
theorem d_Mod_puts_50 : decode b_Mod_puts 50 = .ok (.iload_n 1, 1) := by decide +kernel
theorem d_Mod_puts_51 : decode b_Mod_puts 51 = .ok (.bipush 24, 2) := by decide +kernel
theorem d_Mod_puts_53 : decode b_Mod_puts 53 = .ok (.idiv, 1) := by decide +kernel
theorem d_Mod_puts_54 : decode b_Mod_puts 54 = .ok (.iaload, 1) := by decide +kernel
theorem d_Mod_puts_55 : decode b_Mod_puts 55 = .ok (.aload_n 0, 1) := by decide +kernel
theorem d_Mod_puts_56 : decode b_Mod_puts 56 = .ok (.iload 4, 2) := by decide +kernel
theorem d_Mod_puts_58 : decode b_Mod_puts 58 = .ok (.invokevirtual 125, 3) := by decide +kernel
theorem d_Mod_puts_61 : decode b_Mod_puts 61 = .ok (.iload_n 3, 1) := by decide +kernel
theorem d_Mod_puts_62 : decode b_Mod_puts 62 = .ok (.invokevirtual 128, 3) := by decide +kernel
theorem d_Mod_puts_65 : decode b_Mod_puts 65 = .ok (.goto 7, 3) := by decide +kernel
theorem d_Mod_puts_68 : decode b_Mod_puts 68 = .ok (.aload_n 0, 1) := by decide +kernel
theorem d_Mod_puts_69 : decode b_Mod_puts 69 = .ok (.invokevirtual 92, 3) := by decide +kernel
theorem d_Mod_puts_72 : decode b_Mod_puts 72 = .ok (.iload 5, 2) := by decide +kernel
theorem d_Mod_puts_74 : decode b_Mod_puts 74 = .ok (.invokevirtual 132, 3) := by decide +kernel
theorem d_Mod_puts_77 : decode b_Mod_puts 77 = .ok (.iload 4, 2) := by decide +kernel
theorem d_Mod_puts_79 : decode b_Mod_puts 79 = .ok (.iload 5, 2) := by decide +kernel
theorem d_Mod_puts_81 : decode b_Mod_puts 81 = .ok (.iadd, 1) := by decide +kernel
theorem d_Mod_puts_82 : decode b_Mod_puts 82 = .ok (.istore 4, 2) := by decide +kernel
theorem d_Mod_puts_84 : decode b_Mod_puts 84 = .ok (.iload_n 3, 1) := by decide +kernel
theorem d_Mod_puts_85 : decode b_Mod_puts 85 = .ok (.iload 5, 2) := by decide +kernel
theorem d_Mod_puts_87 : decode b_Mod_puts 87 = .ok (.isub, 1) := by decide +kernel
theorem d_Mod_puts_88 : decode b_Mod_puts 88 = .ok (.istore_n 3, 1) := by decide +kernel
theorem d_Mod_puts_89 : decode b_Mod_puts 89 = .ok (.goto (-84), 3) := by decide +kernel
theorem d_Mod_puts_92 : decode b_Mod_puts 92 = .ok (.iconst 1, 1) := by decide +kernel
theorem d_Mod_puts_93 : decode b_Mod_puts 93 = .ok (.ireturn, 1) := by decide +kernel
def m_Mod_puts_5 : Nat → Int → Int → Int → Int → Int → (Int → Int) → (Int → Int) → (Int → Int) → (Int → Int) → Option (Int × Int × (Int → Int) × (Int → Int) × (Int → Int))
  | 0, _, _, _, _, _, _, _, _, _ => none
  | fuel + 1, v1, v3, v4, m_stepsMade, m_stepsMost, m_owner, m_block, m_written, m_kinds =>
  cle v3 0 (some (1, m_stepsMade, m_owner, m_block, m_written)) (bnd (m_Mod_steps_ m_stepsMade m_stepsMost) (fun r1 => ceq r1.1 0 (some (0, r1.2, m_owner, m_block, m_written)) (bnd (m_Mod_greatestSize m_owner) (fun r3 => jn (fun (z6 : Int) (z7 : Int) (z8 : Int) (z9 : Int) (c10 : Int) (c11 : Int → Int) (c12 : Int → Int) (c13 : Int → Int) => jn (fun (z15 : Int) (z16 : Int) (z17 : Int) (z18 : Int) (z19 : Int) (z20 : Int) (c21 : Int) (c22 : Int → Int) (c23 : Int → Int) (c24 : Int → Int) => bnd (m_Mod_placesPiece z19 z20 z18 c22 c23 c24) (fun r25 => m_Mod_puts_5 fuel z15 (z16 - z18) (z17 + z18) c21 m_stepsMost r25.1 r25.2.1 r25.2.2 m_kinds)) (fun j14 => ceq z9 z7 (gd (zx z6 2147483648 ∧ zp 24 2147483648) (gd (zx (z6 / 24) 4) (bnd (m_Mod_goalOf z8 c12) (fun r31 => bnd (m_Mod_placeBy (m_kinds (z6 / 24)) r31 z7 c11) (fun r33 => j14 z6 z7 z8 z9 z8 r33 c10 c11 c12 c13))))) (bnd (m_Mod_greatest c11) (fun r29 => j14 z6 z7 z8 z9 z8 r29 c10 c11 c12 c13)))) (fun j5 => clt r3 v3 (bnd (m_Mod_greatestSize m_owner) (fun r37 => j5 v1 v3 v4 r37 r1.2 m_owner m_block m_written)) (j5 v1 v3 v4 v3 r1.2 m_owner m_block m_written))))))
def m_Mod_puts (x1 : Int) (x2 : Int) (m_stepsMade : Int) (m_stepsMost : Int) (m_owner : Int → Int) (m_block : Int → Int) (m_written : Int → Int) (m_kinds : Int → Int) : Option (Int × Int × (Int → Int) × (Int → Int) × (Int → Int)) :=
  m_Mod_puts_5 5000 x1 x2 x1 m_stepsMade m_stepsMost m_owner m_block m_written m_kinds
set_option maxHeartbeats 4000000 in
set_option maxRecDepth 100000 in
theorem l_Mod_puts_5 {G : GT} {l : Launch} {D : va_G} {cI cB : ClassId} {a0 a1 a2 a3 a4 a5 a6 a7 a8 a9 a10 a11 a12 a13 a14 a15 : Nat} {m_taped : Int} {m_reading : Int} {m_statements : Int} {m_telling : Int} {m_hasImage : Int} {m_isKeeping : Int} {m_cursor : Int} {m_rowMany : Int} {m_lots : Int} {m_refused : Int → Int} {m_bytes : Int → Int} {m_waits : Int → Int} {m_tape : Int → Int} {m_sort : Int → Int} {m_sortAt : Int → Int} {m_told : Int → Int} {m_kept : Int → Int} {m_was : Int → Int} {m_ends : Int → Int} {m_row : Int → Int} (X : Cx G l D cI cB b_Mod_puts y_Mod_puts.cls 6 { frames := 3, cells := 0, slots := 0, locals := 72 }) : ∀ (fuel : Nat) (v1 : Int) (v3 : Int) (v4 : Int) (m_stepsMade : Int) (m_stepsMost : Int) (m_owner : Int → Int) (m_block : Int → Int) (m_written : Int → Int) (m_kinds : Int → Int) (o : Int × Int × (Int → Int) × (Int → Int) × (Int → Int)), m_Mod_puts_5 fuel v1 v3 v4 m_stepsMade m_stepsMost m_owner m_block m_written m_kinds = some o → Rt G (some .boolean) (some (.int (zi o.1))) (w_Mod cI cB a0 a1 a2 a3 a4 a5 a6 a7 a8 a9 a10 a11 a12 a13 a14 a15 o.2.1 m_stepsMost m_taped m_reading m_statements m_telling m_hasImage m_isKeeping m_cursor m_rowMany m_lots m_refused m_bytes o.2.2.1 o.2.2.2.1 o.2.2.2.2 m_waits m_kinds m_tape m_sort m_sortAt m_told m_kept m_was m_ends m_row) → Wx G 0 0 5 [(0, .ref a0), (1, .int (zi v1)), (3, .int (zi v3)), (4, .int (zi v4))] [] (w_Mod cI cB a0 a1 a2 a3 a4 a5 a6 a7 a8 a9 a10 a11 a12 a13 a14 a15 m_stepsMade m_stepsMost m_taped m_reading m_statements m_telling m_hasImage m_isKeeping m_cursor m_rowMany m_lots m_refused m_bytes m_owner m_block m_written m_waits m_kinds m_tape m_sort m_sortAt m_told m_kept m_was m_ends m_row) := by
  intro fuel
  induction fuel with
  | zero =>
    intro v1 v3 v4 m_stepsMade m_stepsMost m_owner m_block m_written m_kinds o h
    exact absurd h (by simp [m_Mod_puts_5])
  | succ fuel ih =>
    intro v1 v3 v4 m_stepsMade m_stepsMost m_owner m_block m_written m_kinds o h hR
    rw [m_Mod_puts_5] at h
    refine x_iload_n (pc := 5) X d_Mod_puts_5 2 rfl rfl ?_
    refine x_ifle (pc := 6) (tgt := 92) X d_Mod_puts_6 rfl h (fun h => ?_) (fun h => ?_)
    · skip
      refine x_iconst (pc := 92) X d_Mod_puts_92  ?_
      cases h
      exact x_zret (pc := 93) X hR d_Mod_puts_93 (Or.inr rfl)
    · skip
      refine x_aload_n (pc := 9) X d_Mod_puts_9 0 rfl rfl ?_
      obtain ⟨r1, h2, h⟩ := bnd_e h
      refine x_callV (pc := 10) (As := []) (rest := []) (w2 := (w_Mod cI cB a0 a1 a2 a3 a4 a5 a6 a7 a8 a9 a10 a11 a12 a13 a14 a15 r1.2 m_stepsMost m_taped m_reading m_statements m_telling m_hasImage m_isKeeping m_cursor m_rowMany m_lots m_refused m_bytes m_owner m_block m_written m_waits m_kinds m_tape m_sort m_sortAt m_told m_kept m_was m_ends m_row)) X d_Mod_puts_10 lk_Mod_118 mv_Mod_steps_ (c_Mod_steps_ l D cI cB a0 a1 a2 a3 a4 a5 a6 a7 a8 a9 a10 a11 a12 a13 a14 a15 m_stepsMade m_stepsMost m_taped m_reading m_statements m_telling m_hasImage m_isKeeping m_cursor m_rowMany m_lots m_refused m_bytes m_owner m_block m_written m_waits m_kinds m_tape m_sort m_sortAt m_told m_kept m_was m_ends m_row h2) ⟨(Nat.le_of_ble_eq_true rfl), (Nat.le_of_ble_eq_true rfl), (Nat.le_of_ble_eq_true rfl), (Nat.le_of_ble_eq_true rfl)⟩ 0 rfl rfl [0, 1, 2, 3, 4, 5, 6, 7, 8, 9, 10, 11, 12, 13, 14, 15] rfl rfl rfl (Up.of [] [] rfl rfl rfl 16 rfl (by decide +kernel)) rfl rfl (Nat.le_of_ble_eq_true rfl) ?_
      refine x_ifne (pc := 13) (tgt := 18) X d_Mod_puts_13 rfl h (fun h => ?_) (fun h => ?_)
      · skip
        refine x_aload_n (pc := 18) X d_Mod_puts_18 0 rfl rfl ?_
        obtain ⟨r3, h4, h⟩ := bnd_e h
        refine x_callV (pc := 19) (As := []) (rest := []) (w2 := (w_Mod cI cB a0 a1 a2 a3 a4 a5 a6 a7 a8 a9 a10 a11 a12 a13 a14 a15 r1.2 m_stepsMost m_taped m_reading m_statements m_telling m_hasImage m_isKeeping m_cursor m_rowMany m_lots m_refused m_bytes m_owner m_block m_written m_waits m_kinds m_tape m_sort m_sortAt m_told m_kept m_was m_ends m_row)) X d_Mod_puts_19 lk_Mod_122 mv_Mod_greatestSize (c_Mod_greatestSize l D cI cB a0 a1 a2 a3 a4 a5 a6 a7 a8 a9 a10 a11 a12 a13 a14 a15 r1.2 m_stepsMost m_taped m_reading m_statements m_telling m_hasImage m_isKeeping m_cursor m_rowMany m_lots m_refused m_bytes m_owner m_block m_written m_waits m_kinds m_tape m_sort m_sortAt m_told m_kept m_was m_ends m_row h4) ⟨(Nat.le_of_ble_eq_true rfl), (Nat.le_of_ble_eq_true rfl), (Nat.le_of_ble_eq_true rfl), (Nat.le_of_ble_eq_true rfl)⟩ 0 rfl rfl [0, 1, 2, 3, 4, 5, 6, 7, 8, 9, 10, 11, 12, 13, 14, 15] rfl rfl rfl (Up.same rfl) rfl rfl (Nat.le_of_ble_eq_true rfl) ?_
        refine x_iload_n (pc := 22) X d_Mod_puts_22 2 rfl rfl ?_
        obtain ⟨j5, hj35, h⟩ := jn_e h
        have J36 : ∀ (z6 : Int) (z7 : Int) (z8 : Int) (z9 : Int) (c10 : Int) (c11 : Int → Int) (c12 : Int → Int) (c13 : Int → Int), j5 z6 z7 z8 z9 c10 c11 c12 c13 = some o → Wx G 0 0 34 [(0, .ref a0), (1, .int (zi z6)), (3, .int (zi z7)), (4, .int (zi z8))] [.int (zi z9)] (w_Mod cI cB a0 a1 a2 a3 a4 a5 a6 a7 a8 a9 a10 a11 a12 a13 a14 a15 c10 m_stepsMost m_taped m_reading m_statements m_telling m_hasImage m_isKeeping m_cursor m_rowMany m_lots m_refused m_bytes c11 c12 c13 m_waits m_kinds m_tape m_sort m_sortAt m_told m_kept m_was m_ends m_row) := by
          intro z6 z7 z8 z9 c10 c11 c12 c13 h
          rw [hj35] at h
          (try dsimp only at h)
          refine x_istore (pc := 34) (ls2 := [(5, .int (zi z9)), (0, .ref a0), (1, .int (zi z6)), (3, .int (zi z7)), (4, .int (zi z8))]) X d_Mod_puts_34 (Nat.le_of_ble_eq_true rfl) rfl ?_
          refine x_aload_n (pc := 36) X d_Mod_puts_36 1 rfl rfl ?_
          refine x_iload (pc := 37) X d_Mod_puts_37 4 rfl ?_
          refine x_iload (pc := 39) X d_Mod_puts_39 0 rfl ?_
          refine x_iload_n (pc := 41) X d_Mod_puts_41 3 rfl rfl ?_
          obtain ⟨j14, hj27, h⟩ := jn_e h
          have J28 : ∀ (z15 : Int) (z16 : Int) (z17 : Int) (z18 : Int) (z19 : Int) (z20 : Int) (c21 : Int) (c22 : Int → Int) (c23 : Int → Int) (c24 : Int → Int), j14 z15 z16 z17 z18 z19 z20 c21 c22 c23 c24 = some o → Wx G 0 0 72 [(0, .ref a0), (1, .int (zi z15)), (3, .int (zi z16)), (4, .int (zi z17)), (5, .int (zi z18))] [.int (zi z20), .int (zi z19), .ref a0] (w_Mod cI cB a0 a1 a2 a3 a4 a5 a6 a7 a8 a9 a10 a11 a12 a13 a14 a15 c21 m_stepsMost m_taped m_reading m_statements m_telling m_hasImage m_isKeeping m_cursor m_rowMany m_lots m_refused m_bytes c22 c23 c24 m_waits m_kinds m_tape m_sort m_sortAt m_told m_kept m_was m_ends m_row) := by
            intro z15 z16 z17 z18 z19 z20 c21 c22 c23 c24 h
            rw [hj27] at h
            (try dsimp only at h)
            refine x_iload (pc := 72) X d_Mod_puts_72 4 rfl ?_
            obtain ⟨r25, h26, h⟩ := bnd_e h
            refine x_callV (pc := 74) (As := [.int (zi z19), .int (zi z20), .int (zi z18)]) (rest := []) (w2 := (w_Mod cI cB a0 a1 a2 a3 a4 a5 a6 a7 a8 a9 a10 a11 a12 a13 a14 a15 c21 m_stepsMost m_taped m_reading m_statements m_telling m_hasImage m_isKeeping m_cursor m_rowMany m_lots m_refused m_bytes r25.1 r25.2.1 r25.2.2 m_waits m_kinds m_tape m_sort m_sortAt m_told m_kept m_was m_ends m_row)) X d_Mod_puts_74 lk_Mod_132 mv_Mod_placesPiece (c_Mod_placesPiece l D cI cB a0 a1 a2 a3 a4 a5 a6 a7 a8 a9 a10 a11 a12 a13 a14 a15 c21 m_stepsMost m_taped m_reading m_statements m_telling m_hasImage m_isKeeping m_cursor m_rowMany m_lots m_refused m_bytes c22 c23 c24 m_waits m_kinds m_tape m_sort m_sortAt m_told m_kept m_was m_ends m_row z19 z20 z18 h26) ⟨(Nat.le_of_ble_eq_true rfl), (Nat.le_of_ble_eq_true rfl), (Nat.le_of_ble_eq_true rfl), (Nat.le_of_ble_eq_true rfl)⟩ 0 rfl rfl [0, 1, 2, 3, 4, 5, 6, 7, 8, 9, 10, 11, 12, 13, 14, 15] rfl rfl rfl (Up.of [] [] rfl rfl rfl 16 rfl (by decide +kernel)) rfl rfl (Nat.le_of_ble_eq_true rfl) ?_
            refine x_iload (pc := 77) X d_Mod_puts_77 3 rfl ?_
            refine x_iload (pc := 79) X d_Mod_puts_79 4 rfl ?_
            refine x_iadd (pc := 81) X d_Mod_puts_81  ?_
            refine x_istore (pc := 82) (ls2 := [(4, .int (zi (z17 + z18))), (0, .ref a0), (1, .int (zi z15)), (3, .int (zi z16)), (5, .int (zi z18))]) X d_Mod_puts_82 (Nat.le_of_ble_eq_true rfl) rfl ?_
            refine x_iload_n (pc := 84) X d_Mod_puts_84 3 rfl rfl ?_
            refine x_iload (pc := 85) X d_Mod_puts_85 4 rfl ?_
            refine x_isub (pc := 87) X d_Mod_puts_87  ?_
            refine x_istore_n (pc := 88) (ls2 := [(3, .int (zi (z16 - z18))), (4, .int (zi (z17 + z18))), (0, .ref a0), (1, .int (zi z15)), (5, .int (zi z18))]) X d_Mod_puts_88 rfl (Nat.le_of_ble_eq_true rfl) rfl ?_
            refine x_goto (pc := 89) (tgt := 5) X d_Mod_puts_89 rfl ?_
            refine x_ls (ls2 := [(0, .ref a0), (1, .int (zi z15)), (3, .int (zi (z16 - z18))), (4, .int (zi (z17 + z18)))]) [2, 3, 0, 1] rfl ?_
            exact ih z15 (z16 - z18) (z17 + z18) c21 m_stepsMost r25.1 r25.2.1 r25.2.2 m_kinds o h hR
          clear hj27
          refine x_icmpne (pc := 42) (tgt := 68) X d_Mod_puts_42 rfl h (fun h => ?_) (fun h => ?_)
          · skip
            refine x_aload_n (pc := 68) X d_Mod_puts_68 1 rfl rfl ?_
            obtain ⟨r29, h30, h⟩ := bnd_e h
            refine x_callV (pc := 69) (As := []) (rest := [.int (zi z8), .ref a0]) (w2 := (w_Mod cI cB a0 a1 a2 a3 a4 a5 a6 a7 a8 a9 a10 a11 a12 a13 a14 a15 c10 m_stepsMost m_taped m_reading m_statements m_telling m_hasImage m_isKeeping m_cursor m_rowMany m_lots m_refused m_bytes c11 c12 c13 m_waits m_kinds m_tape m_sort m_sortAt m_told m_kept m_was m_ends m_row)) X d_Mod_puts_69 lk_Mod_92 mv_Mod_greatest (c_Mod_greatest l D cI cB a0 a1 a2 a3 a4 a5 a6 a7 a8 a9 a10 a11 a12 a13 a14 a15 c10 m_stepsMost m_taped m_reading m_statements m_telling m_hasImage m_isKeeping m_cursor m_rowMany m_lots m_refused m_bytes c11 c12 c13 m_waits m_kinds m_tape m_sort m_sortAt m_told m_kept m_was m_ends m_row h30) ⟨(Nat.le_of_ble_eq_true rfl), (Nat.le_of_ble_eq_true rfl), (Nat.le_of_ble_eq_true rfl), (Nat.le_of_ble_eq_true rfl)⟩ 0 rfl rfl [0, 1, 2, 3, 4, 5, 6, 7, 8, 9, 10, 11, 12, 13, 14, 15] rfl rfl rfl (Up.same rfl) rfl rfl (Nat.le_of_ble_eq_true rfl) ?_
            refine x_ls (ls2 := [(0, .ref a0), (1, .int (zi z6)), (3, .int (zi z7)), (4, .int (zi z8)), (5, .int (zi z9))]) [1, 2, 3, 4, 0] rfl ?_
            exact J28 z6 z7 z8 z9 z8 r29 c10 c11 c12 c13 h
          · skip
            refine x_aload_n (pc := 45) X d_Mod_puts_45 1 rfl rfl ?_
            refine x_aload_n (pc := 46) X d_Mod_puts_46 1 rfl rfl ?_
            refine x_get (pc := 47) X d_Mod_puts_47 0 rfl fl_Mod_28 rfl ?_
            refine x_iload_n (pc := 50) X d_Mod_puts_50 2 rfl rfl ?_
            refine x_bipush (pc := 51) (v := 24) X d_Mod_puts_51 rfl ?_
            refine x_idiv (pc := 53) X d_Mod_puts_53 h (fun h => ?_)
            refine x_iald (pc := 54) X d_Mod_puts_54 7 rfl (Nat.le_of_ble_eq_true rfl) rfl h (fun h => ?_)
            refine x_aload_n (pc := 55) X d_Mod_puts_55 1 rfl rfl ?_
            refine x_iload (pc := 56) X d_Mod_puts_56 4 rfl ?_
            obtain ⟨r31, h32, h⟩ := bnd_e h
            refine x_callV (pc := 58) (As := [.int (zi z8)]) (rest := [.int (zi (m_kinds (z6 / 24))), .ref a0, .int (zi z8), .ref a0]) (w2 := (w_Mod cI cB a0 a1 a2 a3 a4 a5 a6 a7 a8 a9 a10 a11 a12 a13 a14 a15 c10 m_stepsMost m_taped m_reading m_statements m_telling m_hasImage m_isKeeping m_cursor m_rowMany m_lots m_refused m_bytes c11 c12 c13 m_waits m_kinds m_tape m_sort m_sortAt m_told m_kept m_was m_ends m_row)) X d_Mod_puts_58 lk_Mod_125 mv_Mod_goalOf (c_Mod_goalOf l D cI cB a0 a1 a2 a3 a4 a5 a6 a7 a8 a9 a10 a11 a12 a13 a14 a15 c10 m_stepsMost m_taped m_reading m_statements m_telling m_hasImage m_isKeeping m_cursor m_rowMany m_lots m_refused m_bytes c11 c12 c13 m_waits m_kinds m_tape m_sort m_sortAt m_told m_kept m_was m_ends m_row z8 h32) ⟨(Nat.le_of_ble_eq_true rfl), (Nat.le_of_ble_eq_true rfl), (Nat.le_of_ble_eq_true rfl), (Nat.le_of_ble_eq_true rfl)⟩ 0 rfl rfl [0, 1, 2, 3, 4, 5, 6, 7, 8, 9, 10, 11, 12, 13, 14, 15] rfl rfl rfl (Up.same rfl) rfl rfl (Nat.le_of_ble_eq_true rfl) ?_
            refine x_iload_n (pc := 61) X d_Mod_puts_61 3 rfl rfl ?_
            obtain ⟨r33, h34, h⟩ := bnd_e h
            refine x_callV (pc := 62) (As := [.int (zi (m_kinds (z6 / 24))), .int (zi r31), .int (zi z7)]) (rest := [.int (zi z8), .ref a0]) (w2 := (w_Mod cI cB a0 a1 a2 a3 a4 a5 a6 a7 a8 a9 a10 a11 a12 a13 a14 a15 c10 m_stepsMost m_taped m_reading m_statements m_telling m_hasImage m_isKeeping m_cursor m_rowMany m_lots m_refused m_bytes c11 c12 c13 m_waits m_kinds m_tape m_sort m_sortAt m_told m_kept m_was m_ends m_row)) X d_Mod_puts_62 lk_Mod_128 mv_Mod_placeBy (c_Mod_placeBy l D cI cB a0 a1 a2 a3 a4 a5 a6 a7 a8 a9 a10 a11 a12 a13 a14 a15 c10 m_stepsMost m_taped m_reading m_statements m_telling m_hasImage m_isKeeping m_cursor m_rowMany m_lots m_refused m_bytes c11 c12 c13 m_waits m_kinds m_tape m_sort m_sortAt m_told m_kept m_was m_ends m_row (m_kinds (z6 / 24)) r31 z7 h34) ⟨(Nat.le_of_ble_eq_true rfl), (Nat.le_of_ble_eq_true rfl), (Nat.le_of_ble_eq_true rfl), (Nat.le_of_ble_eq_true rfl)⟩ 0 rfl rfl [0, 1, 2, 3, 4, 5, 6, 7, 8, 9, 10, 11, 12, 13, 14, 15] rfl rfl rfl (Up.same rfl) rfl rfl (Nat.le_of_ble_eq_true rfl) ?_
            refine x_goto (pc := 65) (tgt := 72) X d_Mod_puts_65 rfl ?_
            refine x_ls (ls2 := [(0, .ref a0), (1, .int (zi z6)), (3, .int (zi z7)), (4, .int (zi z8)), (5, .int (zi z9))]) [1, 2, 3, 4, 0] rfl ?_
            exact J28 z6 z7 z8 z9 z8 r33 c10 c11 c12 c13 h
        clear hj35
        refine x_icmplt (pc := 23) (tgt := 30) X d_Mod_puts_23 rfl h (fun h => ?_) (fun h => ?_)
        · skip
          refine x_aload_n (pc := 30) X d_Mod_puts_30 0 rfl rfl ?_
          obtain ⟨r37, h38, h⟩ := bnd_e h
          refine x_callV (pc := 31) (As := []) (rest := []) (w2 := (w_Mod cI cB a0 a1 a2 a3 a4 a5 a6 a7 a8 a9 a10 a11 a12 a13 a14 a15 r1.2 m_stepsMost m_taped m_reading m_statements m_telling m_hasImage m_isKeeping m_cursor m_rowMany m_lots m_refused m_bytes m_owner m_block m_written m_waits m_kinds m_tape m_sort m_sortAt m_told m_kept m_was m_ends m_row)) X d_Mod_puts_31 lk_Mod_122 mv_Mod_greatestSize (c_Mod_greatestSize l D cI cB a0 a1 a2 a3 a4 a5 a6 a7 a8 a9 a10 a11 a12 a13 a14 a15 r1.2 m_stepsMost m_taped m_reading m_statements m_telling m_hasImage m_isKeeping m_cursor m_rowMany m_lots m_refused m_bytes m_owner m_block m_written m_waits m_kinds m_tape m_sort m_sortAt m_told m_kept m_was m_ends m_row h38) ⟨(Nat.le_of_ble_eq_true rfl), (Nat.le_of_ble_eq_true rfl), (Nat.le_of_ble_eq_true rfl), (Nat.le_of_ble_eq_true rfl)⟩ 0 rfl rfl [0, 1, 2, 3, 4, 5, 6, 7, 8, 9, 10, 11, 12, 13, 14, 15] rfl rfl rfl (Up.same rfl) rfl rfl (Nat.le_of_ble_eq_true rfl) ?_
          exact J36 v1 v3 v4 r37 r1.2 m_owner m_block m_written h
        · skip
          refine x_iload_n (pc := 26) X d_Mod_puts_26 2 rfl rfl ?_
          refine x_goto (pc := 27) (tgt := 34) X d_Mod_puts_27 rfl ?_
          exact J36 v1 v3 v4 v3 r1.2 m_owner m_block m_written h
      · skip
        refine x_iconst (pc := 16) X d_Mod_puts_16  ?_
        cases h
        exact x_zret (pc := 17) X hR d_Mod_puts_17 (Or.inl rfl)
set_option maxHeartbeats 4000000 in
set_option maxRecDepth 100000 in
theorem c_Mod_puts (l : Launch) (D : va_G) (cI cB : ClassId) (a0 a1 a2 a3 a4 a5 a6 a7 a8 a9 a10 a11 a12 a13 a14 a15 : Nat) (m_stepsMade : Int) (m_stepsMost : Int) (m_taped : Int) (m_reading : Int) (m_statements : Int) (m_telling : Int) (m_hasImage : Int) (m_isKeeping : Int) (m_cursor : Int) (m_rowMany : Int) (m_lots : Int) (m_refused : Int → Int) (m_bytes : Int → Int) (m_owner : Int → Int) (m_block : Int → Int) (m_written : Int → Int) (m_waits : Int → Int) (m_kinds : Int → Int) (m_tape : Int → Int) (m_sort : Int → Int) (m_sortAt : Int → Int) (m_told : Int → Int) (m_kept : Int → Int) (m_was : Int → Int) (m_ends : Int → Int) (m_row : Int → Int) (x1 : Int) (x2 : Int) {o : Int × Int × (Int → Int) × (Int → Int) × (Int → Int)} (h : m_Mod_puts x1 x2 m_stepsMade m_stepsMost m_owner m_block m_written m_kinds = some o) : Ct l D cI cB y_Mod_puts b_Mod_puts 6 (some .boolean) { frames := 3, cells := 0, slots := 0, locals := 72 } [.ref a0, .int (zi x1), .int (zi x2)] (w_Mod cI cB a0 a1 a2 a3 a4 a5 a6 a7 a8 a9 a10 a11 a12 a13 a14 a15 m_stepsMade m_stepsMost m_taped m_reading m_statements m_telling m_hasImage m_isKeeping m_cursor m_rowMany m_lots m_refused m_bytes m_owner m_block m_written m_waits m_kinds m_tape m_sort m_sortAt m_told m_kept m_was m_ends m_row) (w_Mod cI cB a0 a1 a2 a3 a4 a5 a6 a7 a8 a9 a10 a11 a12 a13 a14 a15 o.2.1 m_stepsMost m_taped m_reading m_statements m_telling m_hasImage m_isKeeping m_cursor m_rowMany m_lots m_refused m_bytes o.2.2.1 o.2.2.2.1 o.2.2.2.2 m_waits m_kinds m_tape m_sort m_sortAt m_told m_kept m_was m_ends m_row) (some (.int (zi o.1))) := by
  refine Ct.start (by decide) (Nat.le_of_ble_eq_true rfl) (fun G X hR => ?_)
  refine x_ls (ls2 := [(0, .ref a0), (1, .int (zi x1)), (2, .int (zi x2))]) [0, 1, 2] rfl ?_
  unfold m_Mod_puts at h
  refine x_iload_n (pc := 0) X d_Mod_puts_0 2 rfl rfl ?_
  refine x_istore_n (pc := 1) (ls2 := [(3, .int (zi x2)), (0, .ref a0), (1, .int (zi x1)), (2, .int (zi x2))]) X d_Mod_puts_1 rfl (Nat.le_of_ble_eq_true rfl) rfl ?_
  refine x_iload_n (pc := 2) X d_Mod_puts_2 2 rfl rfl ?_
  refine x_istore (pc := 3) (ls2 := [(4, .int (zi x1)), (3, .int (zi x2)), (0, .ref a0), (1, .int (zi x1)), (2, .int (zi x2))]) X d_Mod_puts_3 (Nat.le_of_ble_eq_true rfl) rfl ?_
  refine x_ls (ls2 := [(0, .ref a0), (1, .int (zi x1)), (3, .int (zi x2)), (4, .int (zi x1))]) [2, 3, 1, 0] rfl ?_
  exact l_Mod_puts_5 X 5000 x1 x2 x1 m_stepsMade m_stepsMost m_owner m_block m_written m_kinds o h hR
theorem d_Mod_placesAll_0 : decode b_Mod_placesAll 0 = .ok (.iconst 0, 1) := by decide +kernel
theorem d_Mod_placesAll_1 : decode b_Mod_placesAll 1 = .ok (.istore_n 2, 1) := by decide +kernel
theorem d_Mod_placesAll_2 : decode b_Mod_placesAll 2 = .ok (.iload_n 2, 1) := by decide +kernel
theorem d_Mod_placesAll_3 : decode b_Mod_placesAll 3 = .ok (.bipush 24, 2) := by decide +kernel
theorem d_Mod_placesAll_5 : decode b_Mod_placesAll 5 = .ok (.if_icmp .ge 36, 3) := by decide +kernel
theorem d_Mod_placesAll_8 : decode b_Mod_placesAll 8 = .ok (.aload_n 0, 1) := by decide +kernel
theorem d_Mod_placesAll_9 : decode b_Mod_placesAll 9 = .ok (.iload_n 1, 1) := by decide +kernel
theorem d_Mod_placesAll_10 : decode b_Mod_placesAll 10 = .ok (.iload_n 2, 1) := by decide +kernel
theorem d_Mod_placesAll_11 : decode b_Mod_placesAll 11 = .ok (.invokevirtual 136, 3) := by decide +kernel
theorem d_Mod_placesAll_14 : decode b_Mod_placesAll 14 = .ok (.istore_n 3, 1) := by decide +kernel
theorem d_Mod_placesAll_15 : decode b_Mod_placesAll 15 = .ok (.iload_n 3, 1) := by decide +kernel
theorem d_Mod_placesAll_16 : decode b_Mod_placesAll 16 = .ok (.ifCond .le 19, 3) := by decide +kernel
theorem d_Mod_placesAll_19 : decode b_Mod_placesAll 19 = .ok (.aload_n 0, 1) := by decide +kernel
theorem d_Mod_placesAll_20 : decode b_Mod_placesAll 20 = .ok (.bipush 24, 2) := by decide +kernel
theorem d_Mod_placesAll_22 : decode b_Mod_placesAll 22 = .ok (.iload_n 1, 1) := by decide +kernel
theorem d_Mod_placesAll_23 : decode b_Mod_placesAll 23 = .ok (.imul, 1) := by decide +kernel
theorem d_Mod_placesAll_24 : decode b_Mod_placesAll 24 = .ok (.iload_n 2, 1) := by decide +kernel
theorem d_Mod_placesAll_25 : decode b_Mod_placesAll 25 = .ok (.iadd, 1) := by decide +kernel
theorem d_Mod_placesAll_26 : decode b_Mod_placesAll 26 = .ok (.iload_n 3, 1) := by decide +kernel
theorem d_Mod_placesAll_27 : decode b_Mod_placesAll 27 = .ok (.invokevirtual 139, 3) := by decide +kernel
theorem d_Mod_placesAll_30 : decode b_Mod_placesAll 30 = .ok (.ifCond .ne 5, 3) := by decide +kernel
theorem d_Mod_placesAll_33 : decode b_Mod_placesAll 33 = .ok (.iconst 0, 1) := by decide +kernel
theorem d_Mod_placesAll_34 : decode b_Mod_placesAll 34 = .ok (.ireturn, 1) := by decide +kernel
theorem d_Mod_placesAll_35 : decode b_Mod_placesAll 35 = .ok (.iinc 2 1, 3) := by decide +kernel
theorem d_Mod_placesAll_38 : decode b_Mod_placesAll 38 = .ok (.goto (-36), 3) := by decide +kernel
theorem d_Mod_placesAll_41 : decode b_Mod_placesAll 41 = .ok (.iconst 1, 1) := by decide +kernel
theorem d_Mod_placesAll_42 : decode b_Mod_placesAll 42 = .ok (.ireturn, 1) := by decide +kernel
def m_Mod_placesAll_2 : Nat → Int → Int → Int → Int → (Int → Int) → (Int → Int) → (Int → Int) → (Int → Int) → (Int → Int) → Option (Int × Int × (Int → Int) × (Int → Int) × (Int → Int))
  | 0, _, _, _, _, _, _, _, _, _ => none
  | fuel + 1, v1, v2, m_stepsMade, m_stepsMost, m_owner, m_block, m_written, m_waits, m_kinds =>
  clt v2 24 (bnd (m_Mod_seriesToPlace v1 v2 m_block m_waits) (fun r1 => cle r1 0 (m_Mod_placesAll_2 fuel v1 (v2 + 1) m_stepsMade m_stepsMost m_owner m_block m_written m_waits m_kinds) (bnd (m_Mod_puts ((24 * v1) + v2) r1 m_stepsMade m_stepsMost m_owner m_block m_written m_kinds) (fun r3 => ceq r3.1 0 (some (0, r3.2.1, r3.2.2.1, r3.2.2.2.1, r3.2.2.2.2)) (m_Mod_placesAll_2 fuel v1 (v2 + 1) r3.2.1 m_stepsMost r3.2.2.1 r3.2.2.2.1 r3.2.2.2.2 m_waits m_kinds))))) (some (1, m_stepsMade, m_owner, m_block, m_written))
def m_Mod_placesAll (x1 : Int) (m_stepsMade : Int) (m_stepsMost : Int) (m_owner : Int → Int) (m_block : Int → Int) (m_written : Int → Int) (m_waits : Int → Int) (m_kinds : Int → Int) : Option (Int × Int × (Int → Int) × (Int → Int) × (Int → Int)) :=
  m_Mod_placesAll_2 5000 x1 0 m_stepsMade m_stepsMost m_owner m_block m_written m_waits m_kinds
set_option maxHeartbeats 4000000 in
set_option maxRecDepth 100000 in
theorem l_Mod_placesAll_2 {G : GT} {l : Launch} {D : va_G} {cI cB : ClassId} {a0 a1 a2 a3 a4 a5 a6 a7 a8 a9 a10 a11 a12 a13 a14 a15 : Nat} {m_taped : Int} {m_reading : Int} {m_statements : Int} {m_telling : Int} {m_hasImage : Int} {m_isKeeping : Int} {m_cursor : Int} {m_rowMany : Int} {m_lots : Int} {m_refused : Int → Int} {m_bytes : Int → Int} {m_tape : Int → Int} {m_sort : Int → Int} {m_sortAt : Int → Int} {m_told : Int → Int} {m_kept : Int → Int} {m_was : Int → Int} {m_ends : Int → Int} {m_row : Int → Int} (X : Cx G l D cI cB b_Mod_placesAll y_Mod_placesAll.cls 4 { frames := 4, cells := 0, slots := 0, locals := 97 }) : ∀ (fuel : Nat) (v1 : Int) (v2 : Int) (m_stepsMade : Int) (m_stepsMost : Int) (m_owner : Int → Int) (m_block : Int → Int) (m_written : Int → Int) (m_waits : Int → Int) (m_kinds : Int → Int) (o : Int × Int × (Int → Int) × (Int → Int) × (Int → Int)), m_Mod_placesAll_2 fuel v1 v2 m_stepsMade m_stepsMost m_owner m_block m_written m_waits m_kinds = some o → Rt G (some .boolean) (some (.int (zi o.1))) (w_Mod cI cB a0 a1 a2 a3 a4 a5 a6 a7 a8 a9 a10 a11 a12 a13 a14 a15 o.2.1 m_stepsMost m_taped m_reading m_statements m_telling m_hasImage m_isKeeping m_cursor m_rowMany m_lots m_refused m_bytes o.2.2.1 o.2.2.2.1 o.2.2.2.2 m_waits m_kinds m_tape m_sort m_sortAt m_told m_kept m_was m_ends m_row) → Wx G 0 0 2 [(0, .ref a0), (1, .int (zi v1)), (2, .int (zi v2))] [] (w_Mod cI cB a0 a1 a2 a3 a4 a5 a6 a7 a8 a9 a10 a11 a12 a13 a14 a15 m_stepsMade m_stepsMost m_taped m_reading m_statements m_telling m_hasImage m_isKeeping m_cursor m_rowMany m_lots m_refused m_bytes m_owner m_block m_written m_waits m_kinds m_tape m_sort m_sortAt m_told m_kept m_was m_ends m_row) := by
  intro fuel
  induction fuel with
  | zero =>
    intro v1 v2 m_stepsMade m_stepsMost m_owner m_block m_written m_waits m_kinds o h
    exact absurd h (by simp [m_Mod_placesAll_2])
  | succ fuel ih =>
    intro v1 v2 m_stepsMade m_stepsMost m_owner m_block m_written m_waits m_kinds o h hR
    rw [m_Mod_placesAll_2] at h
    refine x_iload_n (pc := 2) X d_Mod_placesAll_2 2 rfl rfl ?_
    refine x_bipush (pc := 3) (v := 24) X d_Mod_placesAll_3 rfl ?_
    refine x_icmpge (pc := 5) (tgt := 41) X d_Mod_placesAll_5 rfl h (fun h => ?_) (fun h => ?_)
    · skip
      refine x_iconst (pc := 41) X d_Mod_placesAll_41  ?_
      cases h
      exact x_zret (pc := 42) X hR d_Mod_placesAll_42 (Or.inr rfl)
    · skip
      refine x_aload_n (pc := 8) X d_Mod_placesAll_8 0 rfl rfl ?_
      refine x_iload_n (pc := 9) X d_Mod_placesAll_9 1 rfl rfl ?_
      refine x_iload_n (pc := 10) X d_Mod_placesAll_10 2 rfl rfl ?_
      obtain ⟨r1, h2, h⟩ := bnd_e h
      refine x_callV (pc := 11) (As := [.int (zi v1), .int (zi v2)]) (rest := []) (w2 := (w_Mod cI cB a0 a1 a2 a3 a4 a5 a6 a7 a8 a9 a10 a11 a12 a13 a14 a15 m_stepsMade m_stepsMost m_taped m_reading m_statements m_telling m_hasImage m_isKeeping m_cursor m_rowMany m_lots m_refused m_bytes m_owner m_block m_written m_waits m_kinds m_tape m_sort m_sortAt m_told m_kept m_was m_ends m_row)) X d_Mod_placesAll_11 lk_Mod_136 mv_Mod_seriesToPlace (c_Mod_seriesToPlace l D cI cB a0 a1 a2 a3 a4 a5 a6 a7 a8 a9 a10 a11 a12 a13 a14 a15 m_stepsMade m_stepsMost m_taped m_reading m_statements m_telling m_hasImage m_isKeeping m_cursor m_rowMany m_lots m_refused m_bytes m_owner m_block m_written m_waits m_kinds m_tape m_sort m_sortAt m_told m_kept m_was m_ends m_row v1 v2 h2) ⟨(Nat.le_of_ble_eq_true rfl), (Nat.le_of_ble_eq_true rfl), (Nat.le_of_ble_eq_true rfl), (Nat.le_of_ble_eq_true rfl)⟩ 0 rfl rfl [0, 1, 2, 3, 4, 5, 6, 7, 8, 9, 10, 11, 12, 13, 14, 15] rfl rfl rfl (Up.same rfl) rfl rfl (Nat.le_of_ble_eq_true rfl) ?_
      refine x_istore_n (pc := 14) (ls2 := [(3, .int (zi r1)), (0, .ref a0), (1, .int (zi v1)), (2, .int (zi v2))]) X d_Mod_placesAll_14 rfl (Nat.le_of_ble_eq_true rfl) rfl ?_
      refine x_iload_n (pc := 15) X d_Mod_placesAll_15 0 rfl rfl ?_
      refine x_ifle (pc := 16) (tgt := 35) X d_Mod_placesAll_16 rfl h (fun h => ?_) (fun h => ?_)
      · skip
        refine x_iinc (pc := 35) (ls2 := [(2, .int (zi (v2 + 1))), (3, .int (zi r1)), (0, .ref a0), (1, .int (zi v1))]) X d_Mod_placesAll_35 3 (Nat.le_of_ble_eq_true rfl) rfl rfl ?_
        refine x_goto (pc := 38) (tgt := 2) X d_Mod_placesAll_38 rfl ?_
        refine x_ls (ls2 := [(0, .ref a0), (1, .int (zi v1)), (2, .int (zi (v2 + 1)))]) [2, 3, 0] rfl ?_
        exact ih v1 (v2 + 1) m_stepsMade m_stepsMost m_owner m_block m_written m_waits m_kinds o h hR
      · skip
        refine x_aload_n (pc := 19) X d_Mod_placesAll_19 1 rfl rfl ?_
        refine x_bipush (pc := 20) (v := 24) X d_Mod_placesAll_20 rfl ?_
        refine x_iload_n (pc := 22) X d_Mod_placesAll_22 2 rfl rfl ?_
        refine x_imul (pc := 23) X d_Mod_placesAll_23  ?_
        refine x_iload_n (pc := 24) X d_Mod_placesAll_24 3 rfl rfl ?_
        refine x_iadd (pc := 25) X d_Mod_placesAll_25  ?_
        refine x_iload_n (pc := 26) X d_Mod_placesAll_26 0 rfl rfl ?_
        obtain ⟨r3, h4, h⟩ := bnd_e h
        refine x_callV (pc := 27) (As := [.int (zi ((24 * v1) + v2)), .int (zi r1)]) (rest := []) (w2 := (w_Mod cI cB a0 a1 a2 a3 a4 a5 a6 a7 a8 a9 a10 a11 a12 a13 a14 a15 r3.2.1 m_stepsMost m_taped m_reading m_statements m_telling m_hasImage m_isKeeping m_cursor m_rowMany m_lots m_refused m_bytes r3.2.2.1 r3.2.2.2.1 r3.2.2.2.2 m_waits m_kinds m_tape m_sort m_sortAt m_told m_kept m_was m_ends m_row)) X d_Mod_placesAll_27 lk_Mod_139 mv_Mod_puts (c_Mod_puts l D cI cB a0 a1 a2 a3 a4 a5 a6 a7 a8 a9 a10 a11 a12 a13 a14 a15 m_stepsMade m_stepsMost m_taped m_reading m_statements m_telling m_hasImage m_isKeeping m_cursor m_rowMany m_lots m_refused m_bytes m_owner m_block m_written m_waits m_kinds m_tape m_sort m_sortAt m_told m_kept m_was m_ends m_row ((24 * v1) + v2) r1 h4) ⟨(Nat.le_of_ble_eq_true rfl), (Nat.le_of_ble_eq_true rfl), (Nat.le_of_ble_eq_true rfl), (Nat.le_of_ble_eq_true rfl)⟩ 0 rfl rfl [0, 1, 2, 3, 4, 5, 6, 7, 8, 9, 10, 11, 12, 13, 14, 15] rfl rfl rfl (Up.of [] [] rfl rfl rfl 16 rfl (by decide +kernel)) rfl rfl (Nat.le_of_ble_eq_true rfl) ?_
        refine x_ifne (pc := 30) (tgt := 35) X d_Mod_placesAll_30 rfl h (fun h => ?_) (fun h => ?_)
        · skip
          refine x_iinc (pc := 35) (ls2 := [(2, .int (zi (v2 + 1))), (3, .int (zi r1)), (0, .ref a0), (1, .int (zi v1))]) X d_Mod_placesAll_35 3 (Nat.le_of_ble_eq_true rfl) rfl rfl ?_
          refine x_goto (pc := 38) (tgt := 2) X d_Mod_placesAll_38 rfl ?_
          refine x_ls (ls2 := [(0, .ref a0), (1, .int (zi v1)), (2, .int (zi (v2 + 1)))]) [2, 3, 0] rfl ?_
          exact ih v1 (v2 + 1) r3.2.1 m_stepsMost r3.2.2.1 r3.2.2.2.1 r3.2.2.2.2 m_waits m_kinds o h hR
        · skip
          refine x_iconst (pc := 33) X d_Mod_placesAll_33  ?_
          cases h
          exact x_zret (pc := 34) X hR d_Mod_placesAll_34 (Or.inl rfl)
set_option maxHeartbeats 4000000 in
set_option maxRecDepth 100000 in
theorem c_Mod_placesAll (l : Launch) (D : va_G) (cI cB : ClassId) (a0 a1 a2 a3 a4 a5 a6 a7 a8 a9 a10 a11 a12 a13 a14 a15 : Nat) (m_stepsMade : Int) (m_stepsMost : Int) (m_taped : Int) (m_reading : Int) (m_statements : Int) (m_telling : Int) (m_hasImage : Int) (m_isKeeping : Int) (m_cursor : Int) (m_rowMany : Int) (m_lots : Int) (m_refused : Int → Int) (m_bytes : Int → Int) (m_owner : Int → Int) (m_block : Int → Int) (m_written : Int → Int) (m_waits : Int → Int) (m_kinds : Int → Int) (m_tape : Int → Int) (m_sort : Int → Int) (m_sortAt : Int → Int) (m_told : Int → Int) (m_kept : Int → Int) (m_was : Int → Int) (m_ends : Int → Int) (m_row : Int → Int) (x1 : Int) {o : Int × Int × (Int → Int) × (Int → Int) × (Int → Int)} (h : m_Mod_placesAll x1 m_stepsMade m_stepsMost m_owner m_block m_written m_waits m_kinds = some o) : Ct l D cI cB y_Mod_placesAll b_Mod_placesAll 4 (some .boolean) { frames := 4, cells := 0, slots := 0, locals := 97 } [.ref a0, .int (zi x1)] (w_Mod cI cB a0 a1 a2 a3 a4 a5 a6 a7 a8 a9 a10 a11 a12 a13 a14 a15 m_stepsMade m_stepsMost m_taped m_reading m_statements m_telling m_hasImage m_isKeeping m_cursor m_rowMany m_lots m_refused m_bytes m_owner m_block m_written m_waits m_kinds m_tape m_sort m_sortAt m_told m_kept m_was m_ends m_row) (w_Mod cI cB a0 a1 a2 a3 a4 a5 a6 a7 a8 a9 a10 a11 a12 a13 a14 a15 o.2.1 m_stepsMost m_taped m_reading m_statements m_telling m_hasImage m_isKeeping m_cursor m_rowMany m_lots m_refused m_bytes o.2.2.1 o.2.2.2.1 o.2.2.2.2 m_waits m_kinds m_tape m_sort m_sortAt m_told m_kept m_was m_ends m_row) (some (.int (zi o.1))) := by
  refine Ct.start (by decide) (Nat.le_of_ble_eq_true rfl) (fun G X hR => ?_)
  refine x_ls (ls2 := [(0, .ref a0), (1, .int (zi x1))]) [0, 1] rfl ?_
  unfold m_Mod_placesAll at h
  refine x_iconst (pc := 0) X d_Mod_placesAll_0  ?_
  refine x_istore_n (pc := 1) (ls2 := [(2, .int (zi 0)), (0, .ref a0), (1, .int (zi x1))]) X d_Mod_placesAll_1 rfl (Nat.le_of_ble_eq_true rfl) rfl ?_
  refine x_ls (ls2 := [(0, .ref a0), (1, .int (zi x1)), (2, .int (zi 0))]) [1, 2, 0] rfl ?_
  exact l_Mod_placesAll_2 X 5000 x1 0 m_stepsMade m_stepsMost m_owner m_block m_written m_waits m_kinds o h hR
theorem d_Mod_writesAll_0 : decode b_Mod_writesAll 0 = .ok (.bipush 24, 2) := by decide +kernel
theorem d_Mod_writesAll_2 : decode b_Mod_writesAll 2 = .ok (.iload_n 1, 1) := by decide +kernel
theorem d_Mod_writesAll_3 : decode b_Mod_writesAll 3 = .ok (.imul, 1) := by decide +kernel
theorem d_Mod_writesAll_4 : decode b_Mod_writesAll 4 = .ok (.istore_n 2, 1) := by decide +kernel
theorem d_Mod_writesAll_5 : decode b_Mod_writesAll 5 = .ok (.iload_n 2, 1) := by decide +kernel
theorem d_Mod_writesAll_6 : decode b_Mod_writesAll 6 = .ok (.bipush 24, 2) := by decide +kernel
theorem d_Mod_writesAll_8 : decode b_Mod_writesAll 8 = .ok (.iload_n 1, 1) := by decide +kernel
theorem d_Mod_writesAll_9 : decode b_Mod_writesAll 9 = .ok (.imul, 1) := by decide +kernel
theorem d_Mod_writesAll_10 : decode b_Mod_writesAll 10 = .ok (.bipush 24, 2) := by decide +kernel
theorem d_Mod_writesAll_12 : decode b_Mod_writesAll 12 = .ok (.iadd, 1) := by decide +kernel
theorem d_Mod_writesAll_13 : decode b_Mod_writesAll 13 = .ok (.if_icmp .ge 68, 3) := by decide +kernel
theorem d_Mod_writesAll_16 : decode b_Mod_writesAll 16 = .ok (.aload_n 0, 1) := by decide +kernel
theorem d_Mod_writesAll_17 : decode b_Mod_writesAll 17 = .ok (.iload_n 2, 1) := by decide +kernel
theorem d_Mod_writesAll_18 : decode b_Mod_writesAll 18 = .ok (.invokevirtual 66, 3) := by decide +kernel
theorem d_Mod_writesAll_21 : decode b_Mod_writesAll 21 = .ok (.ifCond .ne 6, 3) := by decide +kernel
theorem d_Mod_writesAll_24 : decode b_Mod_writesAll 24 = .ok (.goto 51, 3) := by decide +kernel
theorem d_Mod_writesAll_27 : decode b_Mod_writesAll 27 = .ok (.aload_n 0, 1) := by decide +kernel
theorem d_Mod_writesAll_28 : decode b_Mod_writesAll 28 = .ok (.invokevirtual 118, 3) := by decide +kernel
theorem d_Mod_writesAll_31 : decode b_Mod_writesAll 31 = .ok (.ifCond .ne 4, 3) := by decide +kernel
theorem d_Mod_writesAll_34 : decode b_Mod_writesAll 34 = .ok (.return_, 1) := by decide +kernel
theorem d_Mod_writesAll_35 : decode b_Mod_writesAll 35 = .ok (.aload_n 0, 1) := by decide +kernel
theorem d_Mod_writesAll_36 : decode b_Mod_writesAll 36 = .ok (.getfield 13, 3) := by decide +kernel
theorem d_Mod_writesAll_39 : decode b_Mod_writesAll 39 = .ok (.aload_n 0, 1) := by decide +kernel
theorem d_Mod_writesAll_40 : decode b_Mod_writesAll 40 = .ok (.getfield 19, 3) := by decide +kernel
theorem d_Mod_writesAll_43 : decode b_Mod_writesAll 43 = .ok (.iload_n 2, 1) := by decide +kernel
theorem d_Mod_writesAll_44 : decode b_Mod_writesAll 44 = .ok (.iaload, 1) := by decide +kernel
theorem d_Mod_writesAll_45 : decode b_Mod_writesAll 45 = .ok (.aload_n 0, 1) := by decide +kernel
theorem d_Mod_writesAll_46 : decode b_Mod_writesAll 46 = .ok (.getfield 25, 3) := by decide +kernel
theorem d_Mod_writesAll_49 : decode b_Mod_writesAll 49 = .ok (.iload_n 2, 1) := by decide +kernel
theorem d_Mod_writesAll_50 : decode b_Mod_writesAll 50 = .ok (.iaload, 1) := by decide +kernel
theorem d_Mod_writesAll_51 : decode b_Mod_writesAll 51 = .ok (.iastore, 1) := by decide +kernel
theorem d_Mod_writesAll_52 : decode b_Mod_writesAll 52 = .ok (.aload_n 0, 1) := by decide +kernel
theorem d_Mod_writesAll_53 : decode b_Mod_writesAll 53 = .ok (.invokevirtual 118, 3) := by decide +kernel
theorem d_Mod_writesAll_56 : decode b_Mod_writesAll 56 = .ok (.ifCond .ne 4, 3) := by decide +kernel
theorem d_Mod_writesAll_59 : decode b_Mod_writesAll 59 = .ok (.return_, 1) := by decide +kernel
theorem d_Mod_writesAll_60 : decode b_Mod_writesAll 60 = .ok (.aload_n 0, 1) := by decide +kernel
theorem d_Mod_writesAll_61 : decode b_Mod_writesAll 61 = .ok (.getfield 22, 3) := by decide +kernel
theorem d_Mod_writesAll_64 : decode b_Mod_writesAll 64 = .ok (.iload_n 2, 1) := by decide +kernel
theorem d_Mod_writesAll_65 : decode b_Mod_writesAll 65 = .ok (.iconst 1, 1) := by decide +kernel
theorem d_Mod_writesAll_66 : decode b_Mod_writesAll 66 = .ok (.iastore, 1) := by decide +kernel
theorem d_Mod_writesAll_67 : decode b_Mod_writesAll 67 = .ok (.aload_n 0, 1) := by decide +kernel
theorem d_Mod_writesAll_68 : decode b_Mod_writesAll 68 = .ok (.getfield 25, 3) := by decide +kernel
theorem d_Mod_writesAll_71 : decode b_Mod_writesAll 71 = .ok (.iload_n 2, 1) := by decide +kernel
theorem d_Mod_writesAll_72 : decode b_Mod_writesAll 72 = .ok (.bipush (-9), 2) := by decide +kernel
theorem d_Mod_writesAll_74 : decode b_Mod_writesAll 74 = .ok (.iastore, 1) := by decide +kernel
theorem d_Mod_writesAll_75 : decode b_Mod_writesAll 75 = .ok (.iinc 2 1, 3) := by decide +kernel
theorem d_Mod_writesAll_78 : decode b_Mod_writesAll 78 = .ok (.goto (-73), 3) := by decide +kernel
theorem d_Mod_writesAll_81 : decode b_Mod_writesAll 81 = .ok (.return_, 1) := by decide +kernel
def m_Mod_writesAll_5 : Nat → Int → Int → Int → Int → (Int → Int) → (Int → Int) → (Int → Int) → (Int → Int) → Option (Int × (Int → Int) × (Int → Int) × (Int → Int))
  | 0, _, _, _, _, _, _, _, _ => none
  | fuel + 1, v1, v2, m_stepsMade, m_stepsMost, m_bytes, m_block, m_written, m_waits =>
  clt v2 ((24 * v1) + 24) (bnd (m_Mod_isWaiting v2 m_waits) (fun r1 => ceq r1 0 (m_Mod_writesAll_5 fuel v1 (v2 + 1) m_stepsMade m_stepsMost m_bytes m_block m_written m_waits) (bnd (m_Mod_steps_ m_stepsMade m_stepsMost) (fun r3 => ceq r3.1 0 (some (r3.2, m_bytes, m_written, m_waits)) (gd (zx v2 96) (gd (zx v2 96) (gd (zx (m_block v2) 64) (bnd (m_Mod_steps_ r3.2 m_stepsMost) (fun r5 => ceq r5.1 0 (some (r5.2, (uf m_bytes (m_block v2) (m_waits v2)), m_written, m_waits)) (gd (zx v2 96) (gd (zx v2 96) (m_Mod_writesAll_5 fuel v1 (v2 + 1) r5.2 m_stepsMost (uf m_bytes (m_block v2) (m_waits v2)) m_block (uf m_written v2 1) (uf m_waits v2 (-9)))))))))))))) (some (m_stepsMade, m_bytes, m_written, m_waits))
def m_Mod_writesAll (x1 : Int) (m_stepsMade : Int) (m_stepsMost : Int) (m_bytes : Int → Int) (m_block : Int → Int) (m_written : Int → Int) (m_waits : Int → Int) : Option (Int × (Int → Int) × (Int → Int) × (Int → Int)) :=
  m_Mod_writesAll_5 5000 x1 (24 * x1) m_stepsMade m_stepsMost m_bytes m_block m_written m_waits
set_option maxHeartbeats 4000000 in
set_option maxRecDepth 100000 in
theorem l_Mod_writesAll_5 {G : GT} {l : Launch} {D : va_G} {cI cB : ClassId} {a0 a1 a2 a3 a4 a5 a6 a7 a8 a9 a10 a11 a12 a13 a14 a15 : Nat} {m_taped : Int} {m_reading : Int} {m_statements : Int} {m_telling : Int} {m_hasImage : Int} {m_isKeeping : Int} {m_cursor : Int} {m_rowMany : Int} {m_lots : Int} {m_refused : Int → Int} {m_owner : Int → Int} {m_kinds : Int → Int} {m_tape : Int → Int} {m_sort : Int → Int} {m_sortAt : Int → Int} {m_told : Int → Int} {m_kept : Int → Int} {m_was : Int → Int} {m_ends : Int → Int} {m_row : Int → Int} (X : Cx G l D cI cB b_Mod_writesAll y_Mod_writesAll.cls 3 { frames := 1, cells := 0, slots := 0, locals := 21 }) : ∀ (fuel : Nat) (v1 : Int) (v2 : Int) (m_stepsMade : Int) (m_stepsMost : Int) (m_bytes : Int → Int) (m_block : Int → Int) (m_written : Int → Int) (m_waits : Int → Int) (o : Int × (Int → Int) × (Int → Int) × (Int → Int)), m_Mod_writesAll_5 fuel v1 v2 m_stepsMade m_stepsMost m_bytes m_block m_written m_waits = some o → Rt G none none (w_Mod cI cB a0 a1 a2 a3 a4 a5 a6 a7 a8 a9 a10 a11 a12 a13 a14 a15 o.1 m_stepsMost m_taped m_reading m_statements m_telling m_hasImage m_isKeeping m_cursor m_rowMany m_lots m_refused o.2.1 m_owner m_block o.2.2.1 o.2.2.2 m_kinds m_tape m_sort m_sortAt m_told m_kept m_was m_ends m_row) → Wx G 0 0 5 [(0, .ref a0), (1, .int (zi v1)), (2, .int (zi v2))] [] (w_Mod cI cB a0 a1 a2 a3 a4 a5 a6 a7 a8 a9 a10 a11 a12 a13 a14 a15 m_stepsMade m_stepsMost m_taped m_reading m_statements m_telling m_hasImage m_isKeeping m_cursor m_rowMany m_lots m_refused m_bytes m_owner m_block m_written m_waits m_kinds m_tape m_sort m_sortAt m_told m_kept m_was m_ends m_row) := by
  intro fuel
  induction fuel with
  | zero =>
    intro v1 v2 m_stepsMade m_stepsMost m_bytes m_block m_written m_waits o h
    exact absurd h (by simp [m_Mod_writesAll_5])
  | succ fuel ih =>
    intro v1 v2 m_stepsMade m_stepsMost m_bytes m_block m_written m_waits o h hR
    rw [m_Mod_writesAll_5] at h
    refine x_iload_n (pc := 5) X d_Mod_writesAll_5 2 rfl rfl ?_
    refine x_bipush (pc := 6) (v := 24) X d_Mod_writesAll_6 rfl ?_
    refine x_iload_n (pc := 8) X d_Mod_writesAll_8 1 rfl rfl ?_
    refine x_imul (pc := 9) X d_Mod_writesAll_9  ?_
    refine x_bipush (pc := 10) (v := 24) X d_Mod_writesAll_10 rfl ?_
    refine x_iadd (pc := 12) X d_Mod_writesAll_12  ?_
    refine x_icmpge (pc := 13) (tgt := 81) X d_Mod_writesAll_13 rfl h (fun h => ?_) (fun h => ?_)
    · skip
      cases h
      exact x_vret (pc := 81) X hR d_Mod_writesAll_81
    · skip
      refine x_aload_n (pc := 16) X d_Mod_writesAll_16 0 rfl rfl ?_
      refine x_iload_n (pc := 17) X d_Mod_writesAll_17 2 rfl rfl ?_
      obtain ⟨r1, h2, h⟩ := bnd_e h
      refine x_callV (pc := 18) (As := [.int (zi v2)]) (rest := []) (w2 := (w_Mod cI cB a0 a1 a2 a3 a4 a5 a6 a7 a8 a9 a10 a11 a12 a13 a14 a15 m_stepsMade m_stepsMost m_taped m_reading m_statements m_telling m_hasImage m_isKeeping m_cursor m_rowMany m_lots m_refused m_bytes m_owner m_block m_written m_waits m_kinds m_tape m_sort m_sortAt m_told m_kept m_was m_ends m_row)) X d_Mod_writesAll_18 lk_Mod_66 mv_Mod_isWaiting (c_Mod_isWaiting l D cI cB a0 a1 a2 a3 a4 a5 a6 a7 a8 a9 a10 a11 a12 a13 a14 a15 m_stepsMade m_stepsMost m_taped m_reading m_statements m_telling m_hasImage m_isKeeping m_cursor m_rowMany m_lots m_refused m_bytes m_owner m_block m_written m_waits m_kinds m_tape m_sort m_sortAt m_told m_kept m_was m_ends m_row v2 h2) ⟨(Nat.le_of_ble_eq_true rfl), (Nat.le_of_ble_eq_true rfl), (Nat.le_of_ble_eq_true rfl), (Nat.le_of_ble_eq_true rfl)⟩ 0 rfl rfl [0, 1, 2, 3, 4, 5, 6, 7, 8, 9, 10, 11, 12, 13, 14, 15] rfl rfl rfl (Up.same rfl) rfl rfl (Nat.le_of_ble_eq_true rfl) ?_
      refine x_ifne (pc := 21) (tgt := 27) X d_Mod_writesAll_21 rfl h (fun h => ?_) (fun h => ?_)
      · skip
        refine x_aload_n (pc := 27) X d_Mod_writesAll_27 0 rfl rfl ?_
        obtain ⟨r3, h4, h⟩ := bnd_e h
        refine x_callV (pc := 28) (As := []) (rest := []) (w2 := (w_Mod cI cB a0 a1 a2 a3 a4 a5 a6 a7 a8 a9 a10 a11 a12 a13 a14 a15 r3.2 m_stepsMost m_taped m_reading m_statements m_telling m_hasImage m_isKeeping m_cursor m_rowMany m_lots m_refused m_bytes m_owner m_block m_written m_waits m_kinds m_tape m_sort m_sortAt m_told m_kept m_was m_ends m_row)) X d_Mod_writesAll_28 lk_Mod_118 mv_Mod_steps_ (c_Mod_steps_ l D cI cB a0 a1 a2 a3 a4 a5 a6 a7 a8 a9 a10 a11 a12 a13 a14 a15 m_stepsMade m_stepsMost m_taped m_reading m_statements m_telling m_hasImage m_isKeeping m_cursor m_rowMany m_lots m_refused m_bytes m_owner m_block m_written m_waits m_kinds m_tape m_sort m_sortAt m_told m_kept m_was m_ends m_row h4) ⟨(Nat.le_of_ble_eq_true rfl), (Nat.le_of_ble_eq_true rfl), (Nat.le_of_ble_eq_true rfl), (Nat.le_of_ble_eq_true rfl)⟩ 0 rfl rfl [0, 1, 2, 3, 4, 5, 6, 7, 8, 9, 10, 11, 12, 13, 14, 15] rfl rfl rfl (Up.of [] [] rfl rfl rfl 16 rfl (by decide +kernel)) rfl rfl (Nat.le_of_ble_eq_true rfl) ?_
        refine x_ifne (pc := 31) (tgt := 35) X d_Mod_writesAll_31 rfl h (fun h => ?_) (fun h => ?_)
        · skip
          refine x_aload_n (pc := 35) X d_Mod_writesAll_35 0 rfl rfl ?_
          refine x_get (pc := 36) X d_Mod_writesAll_36 0 rfl fl_Mod_13 rfl ?_
          refine x_aload_n (pc := 39) X d_Mod_writesAll_39 0 rfl rfl ?_
          refine x_get (pc := 40) X d_Mod_writesAll_40 0 rfl fl_Mod_19 rfl ?_
          refine x_iload_n (pc := 43) X d_Mod_writesAll_43 2 rfl rfl ?_
          refine x_iald (pc := 44) X d_Mod_writesAll_44 4 rfl (Nat.le_of_ble_eq_true rfl) rfl h (fun h => ?_)
          refine x_aload_n (pc := 45) X d_Mod_writesAll_45 0 rfl rfl ?_
          refine x_get (pc := 46) X d_Mod_writesAll_46 0 rfl fl_Mod_25 rfl ?_
          refine x_iload_n (pc := 49) X d_Mod_writesAll_49 2 rfl rfl ?_
          refine x_iald (pc := 50) X d_Mod_writesAll_50 6 rfl (Nat.le_of_ble_eq_true rfl) rfl h (fun h => ?_)
          refine x_iast (pc := 51) (w2 := (w_Mod cI cB a0 a1 a2 a3 a4 a5 a6 a7 a8 a9 a10 a11 a12 a13 a14 a15 r3.2 m_stepsMost m_taped m_reading m_statements m_telling m_hasImage m_isKeeping m_cursor m_rowMany m_lots m_refused (uf m_bytes (m_block v2) (m_waits v2)) m_owner m_block m_written m_waits m_kinds m_tape m_sort m_sortAt m_told m_kept m_was m_ends m_row)) X d_Mod_writesAll_51 2 rfl (Nat.le_of_ble_eq_true rfl) rfl rfl h (fun h => ?_)
          refine x_aload_n (pc := 52) X d_Mod_writesAll_52 0 rfl rfl ?_
          obtain ⟨r5, h6, h⟩ := bnd_e h
          refine x_callV (pc := 53) (As := []) (rest := []) (w2 := (w_Mod cI cB a0 a1 a2 a3 a4 a5 a6 a7 a8 a9 a10 a11 a12 a13 a14 a15 r5.2 m_stepsMost m_taped m_reading m_statements m_telling m_hasImage m_isKeeping m_cursor m_rowMany m_lots m_refused (uf m_bytes (m_block v2) (m_waits v2)) m_owner m_block m_written m_waits m_kinds m_tape m_sort m_sortAt m_told m_kept m_was m_ends m_row)) X d_Mod_writesAll_53 lk_Mod_118 mv_Mod_steps_ (c_Mod_steps_ l D cI cB a0 a1 a2 a3 a4 a5 a6 a7 a8 a9 a10 a11 a12 a13 a14 a15 r3.2 m_stepsMost m_taped m_reading m_statements m_telling m_hasImage m_isKeeping m_cursor m_rowMany m_lots m_refused (uf m_bytes (m_block v2) (m_waits v2)) m_owner m_block m_written m_waits m_kinds m_tape m_sort m_sortAt m_told m_kept m_was m_ends m_row h6) ⟨(Nat.le_of_ble_eq_true rfl), (Nat.le_of_ble_eq_true rfl), (Nat.le_of_ble_eq_true rfl), (Nat.le_of_ble_eq_true rfl)⟩ 0 rfl rfl [0, 1, 2, 3, 4, 5, 6, 7, 8, 9, 10, 11, 12, 13, 14, 15] rfl rfl rfl (Up.of [] [] rfl rfl rfl 16 rfl (by decide +kernel)) rfl rfl (Nat.le_of_ble_eq_true rfl) ?_
          refine x_ifne (pc := 56) (tgt := 60) X d_Mod_writesAll_56 rfl h (fun h => ?_) (fun h => ?_)
          · skip
            refine x_aload_n (pc := 60) X d_Mod_writesAll_60 0 rfl rfl ?_
            refine x_get (pc := 61) X d_Mod_writesAll_61 0 rfl fl_Mod_22 rfl ?_
            refine x_iload_n (pc := 64) X d_Mod_writesAll_64 2 rfl rfl ?_
            refine x_iconst (pc := 65) X d_Mod_writesAll_65  ?_
            refine x_iast (pc := 66) (w2 := (w_Mod cI cB a0 a1 a2 a3 a4 a5 a6 a7 a8 a9 a10 a11 a12 a13 a14 a15 r5.2 m_stepsMost m_taped m_reading m_statements m_telling m_hasImage m_isKeeping m_cursor m_rowMany m_lots m_refused (uf m_bytes (m_block v2) (m_waits v2)) m_owner m_block (uf m_written v2 1) m_waits m_kinds m_tape m_sort m_sortAt m_told m_kept m_was m_ends m_row)) X d_Mod_writesAll_66 5 rfl (Nat.le_of_ble_eq_true rfl) rfl rfl h (fun h => ?_)
            refine x_aload_n (pc := 67) X d_Mod_writesAll_67 0 rfl rfl ?_
            refine x_get (pc := 68) X d_Mod_writesAll_68 0 rfl fl_Mod_25 rfl ?_
            refine x_iload_n (pc := 71) X d_Mod_writesAll_71 2 rfl rfl ?_
            refine x_bipush (pc := 72) (v := -9) X d_Mod_writesAll_72 rfl ?_
            refine x_iast (pc := 74) (w2 := (w_Mod cI cB a0 a1 a2 a3 a4 a5 a6 a7 a8 a9 a10 a11 a12 a13 a14 a15 r5.2 m_stepsMost m_taped m_reading m_statements m_telling m_hasImage m_isKeeping m_cursor m_rowMany m_lots m_refused (uf m_bytes (m_block v2) (m_waits v2)) m_owner m_block (uf m_written v2 1) (uf m_waits v2 (-9)) m_kinds m_tape m_sort m_sortAt m_told m_kept m_was m_ends m_row)) X d_Mod_writesAll_74 6 rfl (Nat.le_of_ble_eq_true rfl) rfl rfl h (fun h => ?_)
            refine x_iinc (pc := 75) (ls2 := [(2, .int (zi (v2 + 1))), (0, .ref a0), (1, .int (zi v1))]) X d_Mod_writesAll_75 2 (Nat.le_of_ble_eq_true rfl) rfl rfl ?_
            refine x_goto (pc := 78) (tgt := 5) X d_Mod_writesAll_78 rfl ?_
            refine x_ls (ls2 := [(0, .ref a0), (1, .int (zi v1)), (2, .int (zi (v2 + 1)))]) [1, 2, 0] rfl ?_
            exact ih v1 (v2 + 1) r5.2 m_stepsMost (uf m_bytes (m_block v2) (m_waits v2)) m_block (uf m_written v2 1) (uf m_waits v2 (-9)) o h hR
          · skip
            cases h
            exact x_vret (pc := 59) X hR d_Mod_writesAll_59
        · skip
          cases h
          exact x_vret (pc := 34) X hR d_Mod_writesAll_34
      · skip
        refine x_goto (pc := 24) (tgt := 75) X d_Mod_writesAll_24 rfl ?_
        refine x_iinc (pc := 75) (ls2 := [(2, .int (zi (v2 + 1))), (0, .ref a0), (1, .int (zi v1))]) X d_Mod_writesAll_75 2 (Nat.le_of_ble_eq_true rfl) rfl rfl ?_
        refine x_goto (pc := 78) (tgt := 5) X d_Mod_writesAll_78 rfl ?_
        refine x_ls (ls2 := [(0, .ref a0), (1, .int (zi v1)), (2, .int (zi (v2 + 1)))]) [1, 2, 0] rfl ?_
        exact ih v1 (v2 + 1) m_stepsMade m_stepsMost m_bytes m_block m_written m_waits o h hR
set_option maxHeartbeats 4000000 in
set_option maxRecDepth 100000 in
theorem c_Mod_writesAll (l : Launch) (D : va_G) (cI cB : ClassId) (a0 a1 a2 a3 a4 a5 a6 a7 a8 a9 a10 a11 a12 a13 a14 a15 : Nat) (m_stepsMade : Int) (m_stepsMost : Int) (m_taped : Int) (m_reading : Int) (m_statements : Int) (m_telling : Int) (m_hasImage : Int) (m_isKeeping : Int) (m_cursor : Int) (m_rowMany : Int) (m_lots : Int) (m_refused : Int → Int) (m_bytes : Int → Int) (m_owner : Int → Int) (m_block : Int → Int) (m_written : Int → Int) (m_waits : Int → Int) (m_kinds : Int → Int) (m_tape : Int → Int) (m_sort : Int → Int) (m_sortAt : Int → Int) (m_told : Int → Int) (m_kept : Int → Int) (m_was : Int → Int) (m_ends : Int → Int) (m_row : Int → Int) (x1 : Int) {o : Int × (Int → Int) × (Int → Int) × (Int → Int)} (h : m_Mod_writesAll x1 m_stepsMade m_stepsMost m_bytes m_block m_written m_waits = some o) : Ct l D cI cB y_Mod_writesAll b_Mod_writesAll 3 none { frames := 1, cells := 0, slots := 0, locals := 21 } [.ref a0, .int (zi x1)] (w_Mod cI cB a0 a1 a2 a3 a4 a5 a6 a7 a8 a9 a10 a11 a12 a13 a14 a15 m_stepsMade m_stepsMost m_taped m_reading m_statements m_telling m_hasImage m_isKeeping m_cursor m_rowMany m_lots m_refused m_bytes m_owner m_block m_written m_waits m_kinds m_tape m_sort m_sortAt m_told m_kept m_was m_ends m_row) (w_Mod cI cB a0 a1 a2 a3 a4 a5 a6 a7 a8 a9 a10 a11 a12 a13 a14 a15 o.1 m_stepsMost m_taped m_reading m_statements m_telling m_hasImage m_isKeeping m_cursor m_rowMany m_lots m_refused o.2.1 m_owner m_block o.2.2.1 o.2.2.2 m_kinds m_tape m_sort m_sortAt m_told m_kept m_was m_ends m_row) none := by
  refine Ct.start (by decide) (Nat.le_of_ble_eq_true rfl) (fun G X hR => ?_)
  refine x_ls (ls2 := [(0, .ref a0), (1, .int (zi x1))]) [0, 1] rfl ?_
  unfold m_Mod_writesAll at h
  refine x_bipush (pc := 0) (v := 24) X d_Mod_writesAll_0 rfl ?_
  refine x_iload_n (pc := 2) X d_Mod_writesAll_2 1 rfl rfl ?_
  refine x_imul (pc := 3) X d_Mod_writesAll_3  ?_
  refine x_istore_n (pc := 4) (ls2 := [(2, .int (zi (24 * x1))), (0, .ref a0), (1, .int (zi x1))]) X d_Mod_writesAll_4 rfl (Nat.le_of_ble_eq_true rfl) rfl ?_
  refine x_ls (ls2 := [(0, .ref a0), (1, .int (zi x1)), (2, .int (zi (24 * x1)))]) [1, 2, 0] rfl ?_
  exact l_Mod_writesAll_5 X 5000 x1 (24 * x1) m_stepsMade m_stepsMost m_bytes m_block m_written m_waits o h hR
theorem d_Mod_flushes_0 : decode b_Mod_flushes 0 = .ok (.aload_n 0, 1) := by decide +kernel
theorem d_Mod_flushes_1 : decode b_Mod_flushes 1 = .ok (.iconst 0, 1) := by decide +kernel
theorem d_Mod_flushes_2 : decode b_Mod_flushes 2 = .ok (.putfield 99, 3) := by decide +kernel
theorem d_Mod_flushes_5 : decode b_Mod_flushes 5 = .ok (.aload_n 0, 1) := by decide +kernel
theorem d_Mod_flushes_6 : decode b_Mod_flushes 6 = .ok (.iload_n 2, 1) := by decide +kernel
theorem d_Mod_flushes_7 : decode b_Mod_flushes 7 = .ok (.putfield 103, 3) := by decide +kernel
theorem d_Mod_flushes_10 : decode b_Mod_flushes 10 = .ok (.aload_n 0, 1) := by decide +kernel
theorem d_Mod_flushes_11 : decode b_Mod_flushes 11 = .ok (.iload_n 1, 1) := by decide +kernel
theorem d_Mod_flushes_12 : decode b_Mod_flushes 12 = .ok (.invokevirtual 143, 3) := by decide +kernel
theorem d_Mod_flushes_15 : decode b_Mod_flushes 15 = .ok (.ifCond .eq 8, 3) := by decide +kernel
theorem d_Mod_flushes_18 : decode b_Mod_flushes 18 = .ok (.aload_n 0, 1) := by decide +kernel
theorem d_Mod_flushes_19 : decode b_Mod_flushes 19 = .ok (.iload_n 1, 1) := by decide +kernel
theorem d_Mod_flushes_20 : decode b_Mod_flushes 20 = .ok (.invokevirtual 146, 3) := by decide +kernel
theorem d_Mod_flushes_23 : decode b_Mod_flushes 23 = .ok (.aload_n 0, 1) := by decide +kernel
theorem d_Mod_flushes_24 : decode b_Mod_flushes 24 = .ok (.getfield 99, 3) := by decide +kernel
theorem d_Mod_flushes_27 : decode b_Mod_flushes 27 = .ok (.ireturn, 1) := by decide +kernel
def m_Mod_flushes (x1 : Int) (x2 : Int) (m_stepsMade : Int) (m_stepsMost : Int) (m_bytes : Int → Int) (m_owner : Int → Int) (m_block : Int → Int) (m_written : Int → Int) (m_waits : Int → Int) (m_kinds : Int → Int) : Option (Int × Int × Int × (Int → Int) × (Int → Int) × (Int → Int) × (Int → Int) × (Int → Int)) :=
  bnd (m_Mod_placesAll x1 0 x2 m_owner m_block m_written m_waits m_kinds) (fun r1 => ceq r1.1 0 (some (r1.2.1, r1.2.1, x2, m_bytes, r1.2.2.1, r1.2.2.2.1, r1.2.2.2.2, m_waits)) (bnd (m_Mod_writesAll x1 r1.2.1 x2 m_bytes r1.2.2.2.1 r1.2.2.2.2 m_waits) (fun r3 => some (r3.1, r3.1, x2, r3.2.1, r1.2.2.1, r1.2.2.2.1, r3.2.2.1, r3.2.2.2))))
set_option maxHeartbeats 4000000 in
set_option maxRecDepth 100000 in
theorem c_Mod_flushes (l : Launch) (D : va_G) (cI cB : ClassId) (a0 a1 a2 a3 a4 a5 a6 a7 a8 a9 a10 a11 a12 a13 a14 a15 : Nat) (m_stepsMade : Int) (m_stepsMost : Int) (m_taped : Int) (m_reading : Int) (m_statements : Int) (m_telling : Int) (m_hasImage : Int) (m_isKeeping : Int) (m_cursor : Int) (m_rowMany : Int) (m_lots : Int) (m_refused : Int → Int) (m_bytes : Int → Int) (m_owner : Int → Int) (m_block : Int → Int) (m_written : Int → Int) (m_waits : Int → Int) (m_kinds : Int → Int) (m_tape : Int → Int) (m_sort : Int → Int) (m_sortAt : Int → Int) (m_told : Int → Int) (m_kept : Int → Int) (m_was : Int → Int) (m_ends : Int → Int) (m_row : Int → Int) (x1 : Int) (x2 : Int) {o : Int × Int × Int × (Int → Int) × (Int → Int) × (Int → Int) × (Int → Int) × (Int → Int)} (h : m_Mod_flushes x1 x2 m_stepsMade m_stepsMost m_bytes m_owner m_block m_written m_waits m_kinds = some o) : Ct l D cI cB y_Mod_flushes b_Mod_flushes 3 (some .int) { frames := 5, cells := 0, slots := 0, locals := 120 } [.ref a0, .int (zi x1), .int (zi x2)] (w_Mod cI cB a0 a1 a2 a3 a4 a5 a6 a7 a8 a9 a10 a11 a12 a13 a14 a15 m_stepsMade m_stepsMost m_taped m_reading m_statements m_telling m_hasImage m_isKeeping m_cursor m_rowMany m_lots m_refused m_bytes m_owner m_block m_written m_waits m_kinds m_tape m_sort m_sortAt m_told m_kept m_was m_ends m_row) (w_Mod cI cB a0 a1 a2 a3 a4 a5 a6 a7 a8 a9 a10 a11 a12 a13 a14 a15 o.2.1 o.2.2.1 m_taped m_reading m_statements m_telling m_hasImage m_isKeeping m_cursor m_rowMany m_lots m_refused o.2.2.2.1 o.2.2.2.2.1 o.2.2.2.2.2.1 o.2.2.2.2.2.2.1 o.2.2.2.2.2.2.2 m_kinds m_tape m_sort m_sortAt m_told m_kept m_was m_ends m_row) (some (.int (zi o.1))) := by
  refine Ct.start (by decide) (Nat.le_of_ble_eq_true rfl) (fun G X hR => ?_)
  refine x_ls (ls2 := [(0, .ref a0), (1, .int (zi x1)), (2, .int (zi x2))]) [0, 1, 2] rfl ?_
  unfold m_Mod_flushes at h
  refine x_aload_n (pc := 0) X d_Mod_flushes_0 0 rfl rfl ?_
  refine x_iconst (pc := 1) X d_Mod_flushes_1  ?_
  refine x_put (pc := 2) (w2 := (w_Mod cI cB a0 a1 a2 a3 a4 a5 a6 a7 a8 a9 a10 a11 a12 a13 a14 a15 0 m_stepsMost m_taped m_reading m_statements m_telling m_hasImage m_isKeeping m_cursor m_rowMany m_lots m_refused m_bytes m_owner m_block m_written m_waits m_kinds m_tape m_sort m_sortAt m_told m_kept m_was m_ends m_row)) X d_Mod_flushes_2 0 rfl (fp_Mod_99 _) (Nat.le_of_ble_eq_true rfl) rfl ?_
  refine x_aload_n (pc := 5) X d_Mod_flushes_5 0 rfl rfl ?_
  refine x_iload_n (pc := 6) X d_Mod_flushes_6 2 rfl rfl ?_
  refine x_put (pc := 7) (w2 := (w_Mod cI cB a0 a1 a2 a3 a4 a5 a6 a7 a8 a9 a10 a11 a12 a13 a14 a15 0 x2 m_taped m_reading m_statements m_telling m_hasImage m_isKeeping m_cursor m_rowMany m_lots m_refused m_bytes m_owner m_block m_written m_waits m_kinds m_tape m_sort m_sortAt m_told m_kept m_was m_ends m_row)) X d_Mod_flushes_7 0 rfl (fp_Mod_103 _) (Nat.le_of_ble_eq_true rfl) rfl ?_
  refine x_aload_n (pc := 10) X d_Mod_flushes_10 0 rfl rfl ?_
  refine x_iload_n (pc := 11) X d_Mod_flushes_11 1 rfl rfl ?_
  obtain ⟨r1, h2, h⟩ := bnd_e h
  refine x_callV (pc := 12) (As := [.int (zi x1)]) (rest := []) (w2 := (w_Mod cI cB a0 a1 a2 a3 a4 a5 a6 a7 a8 a9 a10 a11 a12 a13 a14 a15 r1.2.1 x2 m_taped m_reading m_statements m_telling m_hasImage m_isKeeping m_cursor m_rowMany m_lots m_refused m_bytes r1.2.2.1 r1.2.2.2.1 r1.2.2.2.2 m_waits m_kinds m_tape m_sort m_sortAt m_told m_kept m_was m_ends m_row)) X d_Mod_flushes_12 lk_Mod_143 mv_Mod_placesAll (c_Mod_placesAll l D cI cB a0 a1 a2 a3 a4 a5 a6 a7 a8 a9 a10 a11 a12 a13 a14 a15 0 x2 m_taped m_reading m_statements m_telling m_hasImage m_isKeeping m_cursor m_rowMany m_lots m_refused m_bytes m_owner m_block m_written m_waits m_kinds m_tape m_sort m_sortAt m_told m_kept m_was m_ends m_row x1 h2) ⟨(Nat.le_of_ble_eq_true rfl), (Nat.le_of_ble_eq_true rfl), (Nat.le_of_ble_eq_true rfl), (Nat.le_of_ble_eq_true rfl)⟩ 0 rfl rfl [0, 1, 2, 3, 4, 5, 6, 7, 8, 9, 10, 11, 12, 13, 14, 15] rfl rfl rfl (Up.of [] [] rfl rfl rfl 16 rfl (by decide +kernel)) rfl rfl (Nat.le_of_ble_eq_true rfl) ?_
  refine x_ifeq (pc := 15) (tgt := 23) X d_Mod_flushes_15 rfl h (fun h => ?_) (fun h => ?_)
  · skip
    refine x_aload_n (pc := 23) X d_Mod_flushes_23 0 rfl rfl ?_
    refine x_get (pc := 24) X d_Mod_flushes_24 0 rfl fl_Mod_99 rfl ?_
    cases h
    exact x_iret (pc := 27) X hR d_Mod_flushes_27
  · skip
    refine x_aload_n (pc := 18) X d_Mod_flushes_18 0 rfl rfl ?_
    refine x_iload_n (pc := 19) X d_Mod_flushes_19 1 rfl rfl ?_
    obtain ⟨r3, h4, h⟩ := bnd_e h
    refine x_callV (pc := 20) (As := [.int (zi x1)]) (rest := []) (w2 := (w_Mod cI cB a0 a1 a2 a3 a4 a5 a6 a7 a8 a9 a10 a11 a12 a13 a14 a15 r3.1 x2 m_taped m_reading m_statements m_telling m_hasImage m_isKeeping m_cursor m_rowMany m_lots m_refused r3.2.1 r1.2.2.1 r1.2.2.2.1 r3.2.2.1 r3.2.2.2 m_kinds m_tape m_sort m_sortAt m_told m_kept m_was m_ends m_row)) X d_Mod_flushes_20 lk_Mod_146 mv_Mod_writesAll (c_Mod_writesAll l D cI cB a0 a1 a2 a3 a4 a5 a6 a7 a8 a9 a10 a11 a12 a13 a14 a15 r1.2.1 x2 m_taped m_reading m_statements m_telling m_hasImage m_isKeeping m_cursor m_rowMany m_lots m_refused m_bytes r1.2.2.1 r1.2.2.2.1 r1.2.2.2.2 m_waits m_kinds m_tape m_sort m_sortAt m_told m_kept m_was m_ends m_row x1 h4) ⟨(Nat.le_of_ble_eq_true rfl), (Nat.le_of_ble_eq_true rfl), (Nat.le_of_ble_eq_true rfl), (Nat.le_of_ble_eq_true rfl)⟩ 0 rfl rfl [0, 1, 2, 3, 4, 5, 6, 7, 8, 9, 10, 11, 12, 13, 14, 15] rfl rfl rfl (Up.of [] [] rfl rfl rfl 16 rfl (by decide +kernel)) rfl rfl (Nat.le_of_ble_eq_true rfl) ?_
    refine x_aload_n (pc := 23) X d_Mod_flushes_23 0 rfl rfl ?_
    refine x_get (pc := 24) X d_Mod_flushes_24 0 rfl fl_Mod_99 rfl ?_
    cases h
    exact x_iret (pc := 27) X hR d_Mod_flushes_27
theorem d_Mod_allWaiting_0 : decode b_Mod_allWaiting 0 = .ok (.iconst 0, 1) := by decide +kernel
theorem d_Mod_allWaiting_1 : decode b_Mod_allWaiting 1 = .ok (.istore_n 1, 1) := by decide +kernel
theorem d_Mod_allWaiting_2 : decode b_Mod_allWaiting 2 = .ok (.iconst 0, 1) := by decide +kernel
theorem d_Mod_allWaiting_3 : decode b_Mod_allWaiting 3 = .ok (.istore_n 2, 1) := by decide +kernel
theorem d_Mod_allWaiting_4 : decode b_Mod_allWaiting 4 = .ok (.iload_n 2, 1) := by decide +kernel
theorem d_Mod_allWaiting_5 : decode b_Mod_allWaiting 5 = .ok (.bipush 96, 2) := by decide +kernel
theorem d_Mod_allWaiting_7 : decode b_Mod_allWaiting 7 = .ok (.if_icmp .ge 25, 3) := by decide +kernel
theorem d_Mod_allWaiting_10 : decode b_Mod_allWaiting 10 = .ok (.iload_n 1, 1) := by decide +kernel
theorem d_Mod_allWaiting_11 : decode b_Mod_allWaiting 11 = .ok (.aload_n 0, 1) := by decide +kernel
theorem d_Mod_allWaiting_12 : decode b_Mod_allWaiting 12 = .ok (.iload_n 2, 1) := by decide +kernel
theorem d_Mod_allWaiting_13 : decode b_Mod_allWaiting 13 = .ok (.invokevirtual 66, 3) := by decide +kernel
theorem d_Mod_allWaiting_16 : decode b_Mod_allWaiting 16 = .ok (.ifCond .eq 7, 3) := by decide +kernel
theorem d_Mod_allWaiting_19 : decode b_Mod_allWaiting 19 = .ok (.iconst 1, 1) := by decide +kernel
theorem d_Mod_allWaiting_20 : decode b_Mod_allWaiting 20 = .ok (.goto 4, 3) := by decide +kernel
theorem d_Mod_allWaiting_23 : decode b_Mod_allWaiting 23 = .ok (.iconst 0, 1) := by decide +kernel
theorem d_Mod_allWaiting_24 : decode b_Mod_allWaiting 24 = .ok (.iadd, 1) := by decide +kernel
theorem d_Mod_allWaiting_25 : decode b_Mod_allWaiting 25 = .ok (.istore_n 1, 1) := by decide +kernel
theorem d_Mod_allWaiting_26 : decode b_Mod_allWaiting 26 = .ok (.iinc 2 1, 3) := by decide +kernel
theorem d_Mod_allWaiting_29 : decode b_Mod_allWaiting 29 = .ok (.goto (-25), 3) := by decide +kernel
theorem d_Mod_allWaiting_32 : decode b_Mod_allWaiting 32 = .ok (.iload_n 1, 1) := by decide +kernel
theorem d_Mod_allWaiting_33 : decode b_Mod_allWaiting 33 = .ok (.ireturn, 1) := by decide +kernel
def m_Mod_allWaiting_4 : Nat → Int → Int → (Int → Int) → Option (Int)
  | 0, _, _, _ => none
  | fuel + 1, v1, v2, m_waits =>
  clt v2 96 (bnd (m_Mod_isWaiting v2 m_waits) (fun r1 => ceq r1 0 (m_Mod_allWaiting_4 fuel (v1 + 0) (v2 + 1) m_waits) (m_Mod_allWaiting_4 fuel (v1 + 1) (v2 + 1) m_waits))) (some (v1))
def m_Mod_allWaiting  (m_waits : Int → Int) : Option (Int) :=
  m_Mod_allWaiting_4 5000 0 0 m_waits
set_option maxHeartbeats 4000000 in
set_option maxRecDepth 100000 in
theorem l_Mod_allWaiting_4 {G : GT} {l : Launch} {D : va_G} {cI cB : ClassId} {a0 a1 a2 a3 a4 a5 a6 a7 a8 a9 a10 a11 a12 a13 a14 a15 : Nat} {m_stepsMade : Int} {m_stepsMost : Int} {m_taped : Int} {m_reading : Int} {m_statements : Int} {m_telling : Int} {m_hasImage : Int} {m_isKeeping : Int} {m_cursor : Int} {m_rowMany : Int} {m_lots : Int} {m_refused : Int → Int} {m_bytes : Int → Int} {m_owner : Int → Int} {m_block : Int → Int} {m_written : Int → Int} {m_kinds : Int → Int} {m_tape : Int → Int} {m_sort : Int → Int} {m_sortAt : Int → Int} {m_told : Int → Int} {m_kept : Int → Int} {m_was : Int → Int} {m_ends : Int → Int} {m_row : Int → Int} (X : Cx G l D cI cB b_Mod_allWaiting y_Mod_allWaiting.cls 3 { frames := 1, cells := 0, slots := 0, locals := 21 }) : ∀ (fuel : Nat) (v1 : Int) (v2 : Int) (m_waits : Int → Int) (o : Int), m_Mod_allWaiting_4 fuel v1 v2 m_waits = some o → Rt G (some .int) (some (.int (zi o))) (w_Mod cI cB a0 a1 a2 a3 a4 a5 a6 a7 a8 a9 a10 a11 a12 a13 a14 a15 m_stepsMade m_stepsMost m_taped m_reading m_statements m_telling m_hasImage m_isKeeping m_cursor m_rowMany m_lots m_refused m_bytes m_owner m_block m_written m_waits m_kinds m_tape m_sort m_sortAt m_told m_kept m_was m_ends m_row) → Wx G 0 0 4 [(0, .ref a0), (1, .int (zi v1)), (2, .int (zi v2))] [] (w_Mod cI cB a0 a1 a2 a3 a4 a5 a6 a7 a8 a9 a10 a11 a12 a13 a14 a15 m_stepsMade m_stepsMost m_taped m_reading m_statements m_telling m_hasImage m_isKeeping m_cursor m_rowMany m_lots m_refused m_bytes m_owner m_block m_written m_waits m_kinds m_tape m_sort m_sortAt m_told m_kept m_was m_ends m_row) := by
  intro fuel
  induction fuel with
  | zero =>
    intro v1 v2 m_waits o h
    exact absurd h (by simp [m_Mod_allWaiting_4])
  | succ fuel ih =>
    intro v1 v2 m_waits o h hR
    rw [m_Mod_allWaiting_4] at h
    refine x_iload_n (pc := 4) X d_Mod_allWaiting_4 2 rfl rfl ?_
    refine x_bipush (pc := 5) (v := 96) X d_Mod_allWaiting_5 rfl ?_
    refine x_icmpge (pc := 7) (tgt := 32) X d_Mod_allWaiting_7 rfl h (fun h => ?_) (fun h => ?_)
    · skip
      refine x_iload_n (pc := 32) X d_Mod_allWaiting_32 1 rfl rfl ?_
      cases h
      exact x_iret (pc := 33) X hR d_Mod_allWaiting_33
    · skip
      refine x_iload_n (pc := 10) X d_Mod_allWaiting_10 1 rfl rfl ?_
      refine x_aload_n (pc := 11) X d_Mod_allWaiting_11 0 rfl rfl ?_
      refine x_iload_n (pc := 12) X d_Mod_allWaiting_12 2 rfl rfl ?_
      obtain ⟨r1, h2, h⟩ := bnd_e h
      refine x_callV (pc := 13) (As := [.int (zi v2)]) (rest := [.int (zi v1)]) (w2 := (w_Mod cI cB a0 a1 a2 a3 a4 a5 a6 a7 a8 a9 a10 a11 a12 a13 a14 a15 m_stepsMade m_stepsMost m_taped m_reading m_statements m_telling m_hasImage m_isKeeping m_cursor m_rowMany m_lots m_refused m_bytes m_owner m_block m_written m_waits m_kinds m_tape m_sort m_sortAt m_told m_kept m_was m_ends m_row)) X d_Mod_allWaiting_13 lk_Mod_66 mv_Mod_isWaiting (c_Mod_isWaiting l D cI cB a0 a1 a2 a3 a4 a5 a6 a7 a8 a9 a10 a11 a12 a13 a14 a15 m_stepsMade m_stepsMost m_taped m_reading m_statements m_telling m_hasImage m_isKeeping m_cursor m_rowMany m_lots m_refused m_bytes m_owner m_block m_written m_waits m_kinds m_tape m_sort m_sortAt m_told m_kept m_was m_ends m_row v2 h2) ⟨(Nat.le_of_ble_eq_true rfl), (Nat.le_of_ble_eq_true rfl), (Nat.le_of_ble_eq_true rfl), (Nat.le_of_ble_eq_true rfl)⟩ 0 rfl rfl [0, 1, 2, 3, 4, 5, 6, 7, 8, 9, 10, 11, 12, 13, 14, 15] rfl rfl rfl (Up.same rfl) rfl rfl (Nat.le_of_ble_eq_true rfl) ?_
      refine x_ifeq (pc := 16) (tgt := 23) X d_Mod_allWaiting_16 rfl h (fun h => ?_) (fun h => ?_)
      · skip
        refine x_iconst (pc := 23) X d_Mod_allWaiting_23  ?_
        refine x_iadd (pc := 24) X d_Mod_allWaiting_24  ?_
        refine x_istore_n (pc := 25) (ls2 := [(1, .int (zi (v1 + 0))), (0, .ref a0), (2, .int (zi v2))]) X d_Mod_allWaiting_25 rfl (Nat.le_of_ble_eq_true rfl) rfl ?_
        refine x_iinc (pc := 26) (ls2 := [(2, .int (zi (v2 + 1))), (1, .int (zi (v1 + 0))), (0, .ref a0)]) X d_Mod_allWaiting_26 2 (Nat.le_of_ble_eq_true rfl) rfl rfl ?_
        refine x_goto (pc := 29) (tgt := 4) X d_Mod_allWaiting_29 rfl ?_
        refine x_ls (ls2 := [(0, .ref a0), (1, .int (zi (v1 + 0))), (2, .int (zi (v2 + 1)))]) [2, 1, 0] rfl ?_
        exact ih (v1 + 0) (v2 + 1) m_waits o h hR
      · skip
        refine x_iconst (pc := 19) X d_Mod_allWaiting_19  ?_
        refine x_goto (pc := 20) (tgt := 24) X d_Mod_allWaiting_20 rfl ?_
        refine x_iadd (pc := 24) X d_Mod_allWaiting_24  ?_
        refine x_istore_n (pc := 25) (ls2 := [(1, .int (zi (v1 + 1))), (0, .ref a0), (2, .int (zi v2))]) X d_Mod_allWaiting_25 rfl (Nat.le_of_ble_eq_true rfl) rfl ?_
        refine x_iinc (pc := 26) (ls2 := [(2, .int (zi (v2 + 1))), (1, .int (zi (v1 + 1))), (0, .ref a0)]) X d_Mod_allWaiting_26 2 (Nat.le_of_ble_eq_true rfl) rfl rfl ?_
        refine x_goto (pc := 29) (tgt := 4) X d_Mod_allWaiting_29 rfl ?_
        refine x_ls (ls2 := [(0, .ref a0), (1, .int (zi (v1 + 1))), (2, .int (zi (v2 + 1)))]) [2, 1, 0] rfl ?_
        exact ih (v1 + 1) (v2 + 1) m_waits o h hR
set_option maxHeartbeats 4000000 in
set_option maxRecDepth 100000 in
theorem c_Mod_allWaiting (l : Launch) (D : va_G) (cI cB : ClassId) (a0 a1 a2 a3 a4 a5 a6 a7 a8 a9 a10 a11 a12 a13 a14 a15 : Nat) (m_stepsMade : Int) (m_stepsMost : Int) (m_taped : Int) (m_reading : Int) (m_statements : Int) (m_telling : Int) (m_hasImage : Int) (m_isKeeping : Int) (m_cursor : Int) (m_rowMany : Int) (m_lots : Int) (m_refused : Int → Int) (m_bytes : Int → Int) (m_owner : Int → Int) (m_block : Int → Int) (m_written : Int → Int) (m_waits : Int → Int) (m_kinds : Int → Int) (m_tape : Int → Int) (m_sort : Int → Int) (m_sortAt : Int → Int) (m_told : Int → Int) (m_kept : Int → Int) (m_was : Int → Int) (m_ends : Int → Int) (m_row : Int → Int)  {o : Int} (h : m_Mod_allWaiting m_waits = some o) : Ct l D cI cB y_Mod_allWaiting b_Mod_allWaiting 3 (some .int) { frames := 1, cells := 0, slots := 0, locals := 21 } [.ref a0] (w_Mod cI cB a0 a1 a2 a3 a4 a5 a6 a7 a8 a9 a10 a11 a12 a13 a14 a15 m_stepsMade m_stepsMost m_taped m_reading m_statements m_telling m_hasImage m_isKeeping m_cursor m_rowMany m_lots m_refused m_bytes m_owner m_block m_written m_waits m_kinds m_tape m_sort m_sortAt m_told m_kept m_was m_ends m_row) (w_Mod cI cB a0 a1 a2 a3 a4 a5 a6 a7 a8 a9 a10 a11 a12 a13 a14 a15 m_stepsMade m_stepsMost m_taped m_reading m_statements m_telling m_hasImage m_isKeeping m_cursor m_rowMany m_lots m_refused m_bytes m_owner m_block m_written m_waits m_kinds m_tape m_sort m_sortAt m_told m_kept m_was m_ends m_row) (some (.int (zi o))) := by
  refine Ct.start (by decide) (Nat.le_of_ble_eq_true rfl) (fun G X hR => ?_)
  refine x_ls (ls2 := [(0, .ref a0)]) [0] rfl ?_
  unfold m_Mod_allWaiting at h
  refine x_iconst (pc := 0) X d_Mod_allWaiting_0  ?_
  refine x_istore_n (pc := 1) (ls2 := [(1, .int (zi 0)), (0, .ref a0)]) X d_Mod_allWaiting_1 rfl (Nat.le_of_ble_eq_true rfl) rfl ?_
  refine x_iconst (pc := 2) X d_Mod_allWaiting_2  ?_
  refine x_istore_n (pc := 3) (ls2 := [(2, .int (zi 0)), (1, .int (zi 0)), (0, .ref a0)]) X d_Mod_allWaiting_3 rfl (Nat.le_of_ble_eq_true rfl) rfl ?_
  refine x_ls (ls2 := [(0, .ref a0), (1, .int (zi 0)), (2, .int (zi 0))]) [2, 1, 0] rfl ?_
  exact l_Mod_allWaiting_4 X 5000 0 0 m_waits o h hR
theorem d_Mod_crashes_0 : decode b_Mod_crashes 0 = .ok (.aload_n 0, 1) := by decide +kernel
theorem d_Mod_crashes_1 : decode b_Mod_crashes 1 = .ok (.iload_n 1, 1) := by decide +kernel
theorem d_Mod_crashes_2 : decode b_Mod_crashes 2 = .ok (.iload_n 2, 1) := by decide +kernel
theorem d_Mod_crashes_3 : decode b_Mod_crashes 3 = .ok (.invokevirtual 150, 3) := by decide +kernel
theorem d_Mod_crashes_6 : decode b_Mod_crashes 6 = .ok (.pop, 1) := by decide +kernel
theorem d_Mod_crashes_7 : decode b_Mod_crashes 7 = .ok (.aload_n 0, 1) := by decide +kernel
theorem d_Mod_crashes_8 : decode b_Mod_crashes 8 = .ok (.invokevirtual 153, 3) := by decide +kernel
theorem d_Mod_crashes_11 : decode b_Mod_crashes 11 = .ok (.istore_n 3, 1) := by decide +kernel
theorem d_Mod_crashes_12 : decode b_Mod_crashes 12 = .ok (.iconst 0, 1) := by decide +kernel
theorem d_Mod_crashes_13 : decode b_Mod_crashes 13 = .ok (.istore 4, 2) := by decide +kernel
theorem d_Mod_crashes_15 : decode b_Mod_crashes 15 = .ok (.iload 4, 2) := by decide +kernel
theorem d_Mod_crashes_17 : decode b_Mod_crashes 17 = .ok (.bipush 96, 2) := by decide +kernel
theorem d_Mod_crashes_19 : decode b_Mod_crashes 19 = .ok (.if_icmp .ge 18, 3) := by decide +kernel
theorem d_Mod_crashes_22 : decode b_Mod_crashes 22 = .ok (.aload_n 0, 1) := by decide +kernel
theorem d_Mod_crashes_23 : decode b_Mod_crashes 23 = .ok (.getfield 25, 3) := by decide +kernel
theorem d_Mod_crashes_26 : decode b_Mod_crashes 26 = .ok (.iload 4, 2) := by decide +kernel
theorem d_Mod_crashes_28 : decode b_Mod_crashes 28 = .ok (.bipush (-9), 2) := by decide +kernel
theorem d_Mod_crashes_30 : decode b_Mod_crashes 30 = .ok (.iastore, 1) := by decide +kernel
theorem d_Mod_crashes_31 : decode b_Mod_crashes 31 = .ok (.iinc 4 1, 3) := by decide +kernel
theorem d_Mod_crashes_34 : decode b_Mod_crashes 34 = .ok (.goto (-19), 3) := by decide +kernel
theorem d_Mod_crashes_37 : decode b_Mod_crashes 37 = .ok (.iload_n 3, 1) := by decide +kernel
theorem d_Mod_crashes_38 : decode b_Mod_crashes 38 = .ok (.ireturn, 1) := by decide +kernel
def m_Mod_crashes_15 : Nat → Int → Int → Int → Int → (Int → Int) → (Int → Int) → (Int → Int) → (Int → Int) → (Int → Int) → (Int → Int) → Option (Int × Int × Int × (Int → Int) × (Int → Int) × (Int → Int) × (Int → Int) × (Int → Int))
  | 0, _, _, _, _, _, _, _, _, _, _ => none
  | fuel + 1, v3, v4, m_stepsMade, m_stepsMost, m_bytes, m_owner, m_block, m_written, m_waits, m_kinds =>
  clt v4 96 (gd (zx v4 96) (m_Mod_crashes_15 fuel v3 (v4 + 1) m_stepsMade m_stepsMost m_bytes m_owner m_block m_written (uf m_waits v4 (-9)) m_kinds)) (some (v3, m_stepsMade, m_stepsMost, m_bytes, m_owner, m_block, m_written, m_waits))
def m_Mod_crashes (x1 : Int) (x2 : Int) (m_stepsMade : Int) (m_stepsMost : Int) (m_bytes : Int → Int) (m_owner : Int → Int) (m_block : Int → Int) (m_written : Int → Int) (m_waits : Int → Int) (m_kinds : Int → Int) : Option (Int × Int × Int × (Int → Int) × (Int → Int) × (Int → Int) × (Int → Int) × (Int → Int)) :=
  bnd (m_Mod_flushes x1 x2 m_stepsMade m_stepsMost m_bytes m_owner m_block m_written m_waits m_kinds) (fun r1 => bnd (m_Mod_allWaiting r1.2.2.2.2.2.2.2) (fun r3 => m_Mod_crashes_15 5000 r3 0 r1.2.1 r1.2.2.1 r1.2.2.2.1 r1.2.2.2.2.1 r1.2.2.2.2.2.1 r1.2.2.2.2.2.2.1 r1.2.2.2.2.2.2.2 m_kinds))
set_option maxHeartbeats 4000000 in
set_option maxRecDepth 100000 in
theorem l_Mod_crashes_15 {G : GT} {l : Launch} {D : va_G} {cI cB : ClassId} {a0 a1 a2 a3 a4 a5 a6 a7 a8 a9 a10 a11 a12 a13 a14 a15 : Nat} {m_taped : Int} {m_reading : Int} {m_statements : Int} {m_telling : Int} {m_hasImage : Int} {m_isKeeping : Int} {m_cursor : Int} {m_rowMany : Int} {m_lots : Int} {m_refused : Int → Int} {m_tape : Int → Int} {m_sort : Int → Int} {m_sortAt : Int → Int} {m_told : Int → Int} {m_kept : Int → Int} {m_was : Int → Int} {m_ends : Int → Int} {m_row : Int → Int} (X : Cx G l D cI cB b_Mod_crashes y_Mod_crashes.cls 5 { frames := 6, cells := 0, slots := 0, locals := 142 }) : ∀ (fuel : Nat) (v3 : Int) (v4 : Int) (m_stepsMade : Int) (m_stepsMost : Int) (m_bytes : Int → Int) (m_owner : Int → Int) (m_block : Int → Int) (m_written : Int → Int) (m_waits : Int → Int) (m_kinds : Int → Int) (o : Int × Int × Int × (Int → Int) × (Int → Int) × (Int → Int) × (Int → Int) × (Int → Int)), m_Mod_crashes_15 fuel v3 v4 m_stepsMade m_stepsMost m_bytes m_owner m_block m_written m_waits m_kinds = some o → Rt G (some .int) (some (.int (zi o.1))) (w_Mod cI cB a0 a1 a2 a3 a4 a5 a6 a7 a8 a9 a10 a11 a12 a13 a14 a15 o.2.1 o.2.2.1 m_taped m_reading m_statements m_telling m_hasImage m_isKeeping m_cursor m_rowMany m_lots m_refused o.2.2.2.1 o.2.2.2.2.1 o.2.2.2.2.2.1 o.2.2.2.2.2.2.1 o.2.2.2.2.2.2.2 m_kinds m_tape m_sort m_sortAt m_told m_kept m_was m_ends m_row) → Wx G 0 0 15 [(0, .ref a0), (3, .int (zi v3)), (4, .int (zi v4))] [] (w_Mod cI cB a0 a1 a2 a3 a4 a5 a6 a7 a8 a9 a10 a11 a12 a13 a14 a15 m_stepsMade m_stepsMost m_taped m_reading m_statements m_telling m_hasImage m_isKeeping m_cursor m_rowMany m_lots m_refused m_bytes m_owner m_block m_written m_waits m_kinds m_tape m_sort m_sortAt m_told m_kept m_was m_ends m_row) := by
  intro fuel
  induction fuel with
  | zero =>
    intro v3 v4 m_stepsMade m_stepsMost m_bytes m_owner m_block m_written m_waits m_kinds o h
    exact absurd h (by simp [m_Mod_crashes_15])
  | succ fuel ih =>
    intro v3 v4 m_stepsMade m_stepsMost m_bytes m_owner m_block m_written m_waits m_kinds o h hR
    rw [m_Mod_crashes_15] at h
    refine x_iload (pc := 15) X d_Mod_crashes_15 2 rfl ?_
    refine x_bipush (pc := 17) (v := 96) X d_Mod_crashes_17 rfl ?_
    refine x_icmpge (pc := 19) (tgt := 37) X d_Mod_crashes_19 rfl h (fun h => ?_) (fun h => ?_)
    · skip
      refine x_iload_n (pc := 37) X d_Mod_crashes_37 1 rfl rfl ?_
      cases h
      exact x_iret (pc := 38) X hR d_Mod_crashes_38
    · skip
      refine x_aload_n (pc := 22) X d_Mod_crashes_22 0 rfl rfl ?_
      refine x_get (pc := 23) X d_Mod_crashes_23 0 rfl fl_Mod_25 rfl ?_
      refine x_iload (pc := 26) X d_Mod_crashes_26 2 rfl ?_
      refine x_bipush (pc := 28) (v := -9) X d_Mod_crashes_28 rfl ?_
      refine x_iast (pc := 30) (w2 := (w_Mod cI cB a0 a1 a2 a3 a4 a5 a6 a7 a8 a9 a10 a11 a12 a13 a14 a15 m_stepsMade m_stepsMost m_taped m_reading m_statements m_telling m_hasImage m_isKeeping m_cursor m_rowMany m_lots m_refused m_bytes m_owner m_block m_written (uf m_waits v4 (-9)) m_kinds m_tape m_sort m_sortAt m_told m_kept m_was m_ends m_row)) X d_Mod_crashes_30 6 rfl (Nat.le_of_ble_eq_true rfl) rfl rfl h (fun h => ?_)
      refine x_iinc (pc := 31) (ls2 := [(4, .int (zi (v4 + 1))), (0, .ref a0), (3, .int (zi v3))]) X d_Mod_crashes_31 2 (Nat.le_of_ble_eq_true rfl) rfl rfl ?_
      refine x_goto (pc := 34) (tgt := 15) X d_Mod_crashes_34 rfl ?_
      refine x_ls (ls2 := [(0, .ref a0), (3, .int (zi v3)), (4, .int (zi (v4 + 1)))]) [1, 2, 0] rfl ?_
      exact ih v3 (v4 + 1) m_stepsMade m_stepsMost m_bytes m_owner m_block m_written (uf m_waits v4 (-9)) m_kinds o h hR
set_option maxHeartbeats 4000000 in
set_option maxRecDepth 100000 in
theorem c_Mod_crashes (l : Launch) (D : va_G) (cI cB : ClassId) (a0 a1 a2 a3 a4 a5 a6 a7 a8 a9 a10 a11 a12 a13 a14 a15 : Nat) (m_stepsMade : Int) (m_stepsMost : Int) (m_taped : Int) (m_reading : Int) (m_statements : Int) (m_telling : Int) (m_hasImage : Int) (m_isKeeping : Int) (m_cursor : Int) (m_rowMany : Int) (m_lots : Int) (m_refused : Int → Int) (m_bytes : Int → Int) (m_owner : Int → Int) (m_block : Int → Int) (m_written : Int → Int) (m_waits : Int → Int) (m_kinds : Int → Int) (m_tape : Int → Int) (m_sort : Int → Int) (m_sortAt : Int → Int) (m_told : Int → Int) (m_kept : Int → Int) (m_was : Int → Int) (m_ends : Int → Int) (m_row : Int → Int) (x1 : Int) (x2 : Int) {o : Int × Int × Int × (Int → Int) × (Int → Int) × (Int → Int) × (Int → Int) × (Int → Int)} (h : m_Mod_crashes x1 x2 m_stepsMade m_stepsMost m_bytes m_owner m_block m_written m_waits m_kinds = some o) : Ct l D cI cB y_Mod_crashes b_Mod_crashes 5 (some .int) { frames := 6, cells := 0, slots := 0, locals := 142 } [.ref a0, .int (zi x1), .int (zi x2)] (w_Mod cI cB a0 a1 a2 a3 a4 a5 a6 a7 a8 a9 a10 a11 a12 a13 a14 a15 m_stepsMade m_stepsMost m_taped m_reading m_statements m_telling m_hasImage m_isKeeping m_cursor m_rowMany m_lots m_refused m_bytes m_owner m_block m_written m_waits m_kinds m_tape m_sort m_sortAt m_told m_kept m_was m_ends m_row) (w_Mod cI cB a0 a1 a2 a3 a4 a5 a6 a7 a8 a9 a10 a11 a12 a13 a14 a15 o.2.1 o.2.2.1 m_taped m_reading m_statements m_telling m_hasImage m_isKeeping m_cursor m_rowMany m_lots m_refused o.2.2.2.1 o.2.2.2.2.1 o.2.2.2.2.2.1 o.2.2.2.2.2.2.1 o.2.2.2.2.2.2.2 m_kinds m_tape m_sort m_sortAt m_told m_kept m_was m_ends m_row) (some (.int (zi o.1))) := by
  refine Ct.start (by decide) (Nat.le_of_ble_eq_true rfl) (fun G X hR => ?_)
  refine x_ls (ls2 := [(0, .ref a0), (1, .int (zi x1)), (2, .int (zi x2))]) [0, 1, 2] rfl ?_
  unfold m_Mod_crashes at h
  refine x_aload_n (pc := 0) X d_Mod_crashes_0 0 rfl rfl ?_
  refine x_iload_n (pc := 1) X d_Mod_crashes_1 1 rfl rfl ?_
  refine x_iload_n (pc := 2) X d_Mod_crashes_2 2 rfl rfl ?_
  obtain ⟨r1, h2, h⟩ := bnd_e h
  refine x_callV (pc := 3) (As := [.int (zi x1), .int (zi x2)]) (rest := []) (w2 := (w_Mod cI cB a0 a1 a2 a3 a4 a5 a6 a7 a8 a9 a10 a11 a12 a13 a14 a15 r1.2.1 r1.2.2.1 m_taped m_reading m_statements m_telling m_hasImage m_isKeeping m_cursor m_rowMany m_lots m_refused r1.2.2.2.1 r1.2.2.2.2.1 r1.2.2.2.2.2.1 r1.2.2.2.2.2.2.1 r1.2.2.2.2.2.2.2 m_kinds m_tape m_sort m_sortAt m_told m_kept m_was m_ends m_row)) X d_Mod_crashes_3 lk_Mod_150 mv_Mod_flushes (c_Mod_flushes l D cI cB a0 a1 a2 a3 a4 a5 a6 a7 a8 a9 a10 a11 a12 a13 a14 a15 m_stepsMade m_stepsMost m_taped m_reading m_statements m_telling m_hasImage m_isKeeping m_cursor m_rowMany m_lots m_refused m_bytes m_owner m_block m_written m_waits m_kinds m_tape m_sort m_sortAt m_told m_kept m_was m_ends m_row x1 x2 h2) ⟨(Nat.le_of_ble_eq_true rfl), (Nat.le_of_ble_eq_true rfl), (Nat.le_of_ble_eq_true rfl), (Nat.le_of_ble_eq_true rfl)⟩ 0 rfl rfl [0, 1, 2, 3, 4, 5, 6, 7, 8, 9, 10, 11, 12, 13, 14, 15] rfl rfl rfl (Up.of [] [] rfl rfl rfl 16 rfl (by decide +kernel)) rfl rfl (Nat.le_of_ble_eq_true rfl) ?_
  refine x_pop (pc := 6) X d_Mod_crashes_6 rfl ?_
  refine x_aload_n (pc := 7) X d_Mod_crashes_7 0 rfl rfl ?_
  obtain ⟨r3, h4, h⟩ := bnd_e h
  refine x_callV (pc := 8) (As := []) (rest := []) (w2 := (w_Mod cI cB a0 a1 a2 a3 a4 a5 a6 a7 a8 a9 a10 a11 a12 a13 a14 a15 r1.2.1 r1.2.2.1 m_taped m_reading m_statements m_telling m_hasImage m_isKeeping m_cursor m_rowMany m_lots m_refused r1.2.2.2.1 r1.2.2.2.2.1 r1.2.2.2.2.2.1 r1.2.2.2.2.2.2.1 r1.2.2.2.2.2.2.2 m_kinds m_tape m_sort m_sortAt m_told m_kept m_was m_ends m_row)) X d_Mod_crashes_8 lk_Mod_153 mv_Mod_allWaiting (c_Mod_allWaiting l D cI cB a0 a1 a2 a3 a4 a5 a6 a7 a8 a9 a10 a11 a12 a13 a14 a15 r1.2.1 r1.2.2.1 m_taped m_reading m_statements m_telling m_hasImage m_isKeeping m_cursor m_rowMany m_lots m_refused r1.2.2.2.1 r1.2.2.2.2.1 r1.2.2.2.2.2.1 r1.2.2.2.2.2.2.1 r1.2.2.2.2.2.2.2 m_kinds m_tape m_sort m_sortAt m_told m_kept m_was m_ends m_row h4) ⟨(Nat.le_of_ble_eq_true rfl), (Nat.le_of_ble_eq_true rfl), (Nat.le_of_ble_eq_true rfl), (Nat.le_of_ble_eq_true rfl)⟩ 0 rfl rfl [0, 1, 2, 3, 4, 5, 6, 7, 8, 9, 10, 11, 12, 13, 14, 15] rfl rfl rfl (Up.same rfl) rfl rfl (Nat.le_of_ble_eq_true rfl) ?_
  refine x_istore_n (pc := 11) (ls2 := [(3, .int (zi r3)), (0, .ref a0), (1, .int (zi x1)), (2, .int (zi x2))]) X d_Mod_crashes_11 rfl (Nat.le_of_ble_eq_true rfl) rfl ?_
  refine x_iconst (pc := 12) X d_Mod_crashes_12  ?_
  refine x_istore (pc := 13) (ls2 := [(4, .int (zi 0)), (3, .int (zi r3)), (0, .ref a0), (1, .int (zi x1)), (2, .int (zi x2))]) X d_Mod_crashes_13 (Nat.le_of_ble_eq_true rfl) rfl ?_
  refine x_ls (ls2 := [(0, .ref a0), (3, .int (zi r3)), (4, .int (zi 0))]) [2, 1, 0] rfl ?_
  exact l_Mod_crashes_15 X 5000 r3 0 r1.2.1 r1.2.2.1 r1.2.2.2.1 r1.2.2.2.2.1 r1.2.2.2.2.2.1 r1.2.2.2.2.2.2.1 r1.2.2.2.2.2.2.2 m_kinds o h hR
theorem d_Mod_comesPlain_0 : decode b_Mod_comesPlain 0 = .ok (.iload_n 1, 1) := by decide +kernel
theorem d_Mod_comesPlain_1 : decode b_Mod_comesPlain 1 = .ok (.bipush 102, 2) := by decide +kernel
theorem d_Mod_comesPlain_3 : decode b_Mod_comesPlain 3 = .ok (.if_icmp .ne 14, 3) := by decide +kernel
theorem d_Mod_comesPlain_6 : decode b_Mod_comesPlain 6 = .ok (.aload_n 0, 1) := by decide +kernel
theorem d_Mod_comesPlain_7 : decode b_Mod_comesPlain 7 = .ok (.iload_n 2, 1) := by decide +kernel
theorem d_Mod_comesPlain_8 : decode b_Mod_comesPlain 8 = .ok (.ldc 165, 2) := by decide +kernel
theorem d_Mod_comesPlain_10 : decode b_Mod_comesPlain 10 = .ok (.invokevirtual 150, 3) := by decide +kernel
theorem d_Mod_comesPlain_13 : decode b_Mod_comesPlain 13 = .ok (.pop, 1) := by decide +kernel
theorem d_Mod_comesPlain_14 : decode b_Mod_comesPlain 14 = .ok (.goto 26, 3) := by decide +kernel
theorem d_Mod_comesPlain_17 : decode b_Mod_comesPlain 17 = .ok (.iload_n 1, 1) := by decide +kernel
theorem d_Mod_comesPlain_18 : decode b_Mod_comesPlain 18 = .ok (.bipush 99, 2) := by decide +kernel
theorem d_Mod_comesPlain_20 : decode b_Mod_comesPlain 20 = .ok (.if_icmp .ne 13, 3) := by decide +kernel
theorem d_Mod_comesPlain_23 : decode b_Mod_comesPlain 23 = .ok (.aload_n 0, 1) := by decide +kernel
theorem d_Mod_comesPlain_24 : decode b_Mod_comesPlain 24 = .ok (.iload_n 2, 1) := by decide +kernel
theorem d_Mod_comesPlain_25 : decode b_Mod_comesPlain 25 = .ok (.iload_n 3, 1) := by decide +kernel
theorem d_Mod_comesPlain_26 : decode b_Mod_comesPlain 26 = .ok (.invokevirtual 227, 3) := by decide +kernel
theorem d_Mod_comesPlain_29 : decode b_Mod_comesPlain 29 = .ok (.pop, 1) := by decide +kernel
theorem d_Mod_comesPlain_30 : decode b_Mod_comesPlain 30 = .ok (.goto 10, 3) := by decide +kernel
theorem d_Mod_comesPlain_33 : decode b_Mod_comesPlain 33 = .ok (.aload_n 0, 1) := by decide +kernel
theorem d_Mod_comesPlain_34 : decode b_Mod_comesPlain 34 = .ok (.getfield 28, 3) := by decide +kernel
theorem d_Mod_comesPlain_37 : decode b_Mod_comesPlain 37 = .ok (.iload_n 2, 1) := by decide +kernel
theorem d_Mod_comesPlain_38 : decode b_Mod_comesPlain 38 = .ok (.iload_n 3, 1) := by decide +kernel
theorem d_Mod_comesPlain_39 : decode b_Mod_comesPlain 39 = .ok (.iastore, 1) := by decide +kernel
theorem d_Mod_comesPlain_40 : decode b_Mod_comesPlain 40 = .ok (.iconst 1, 1) := by decide +kernel
theorem d_Mod_comesPlain_41 : decode b_Mod_comesPlain 41 = .ok (.ireturn, 1) := by decide +kernel
def m_Mod_comesPlain (x1 : Int) (x2 : Int) (x3 : Int) (m_stepsMade : Int) (m_stepsMost : Int) (m_bytes : Int → Int) (m_owner : Int → Int) (m_block : Int → Int) (m_written : Int → Int) (m_waits : Int → Int) (m_kinds : Int → Int) : Option (Int × Int × Int × (Int → Int) × (Int → Int) × (Int → Int) × (Int → Int) × (Int → Int) × (Int → Int)) :=
  ceq x1 102 (bnd (m_Mod_flushes x2 1000000 m_stepsMade m_stepsMost m_bytes m_owner m_block m_written m_waits m_kinds) (fun r3 => some (1, r3.2.1, r3.2.2.1, r3.2.2.2.1, r3.2.2.2.2.1, r3.2.2.2.2.2.1, r3.2.2.2.2.2.2.1, r3.2.2.2.2.2.2.2, m_kinds))) (ceq x1 99 (bnd (m_Mod_crashes x2 x3 m_stepsMade m_stepsMost m_bytes m_owner m_block m_written m_waits m_kinds) (fun r1 => some (1, r1.2.1, r1.2.2.1, r1.2.2.2.1, r1.2.2.2.2.1, r1.2.2.2.2.2.1, r1.2.2.2.2.2.2.1, r1.2.2.2.2.2.2.2, m_kinds))) (gd (zx x2 4) (some (1, m_stepsMade, m_stepsMost, m_bytes, m_owner, m_block, m_written, m_waits, (uf m_kinds x2 x3)))))
set_option maxHeartbeats 4000000 in
set_option maxRecDepth 100000 in
theorem c_Mod_comesPlain (l : Launch) (D : va_G) (cI cB : ClassId) (a0 a1 a2 a3 a4 a5 a6 a7 a8 a9 a10 a11 a12 a13 a14 a15 : Nat) (m_stepsMade : Int) (m_stepsMost : Int) (m_taped : Int) (m_reading : Int) (m_statements : Int) (m_telling : Int) (m_hasImage : Int) (m_isKeeping : Int) (m_cursor : Int) (m_rowMany : Int) (m_lots : Int) (m_refused : Int → Int) (m_bytes : Int → Int) (m_owner : Int → Int) (m_block : Int → Int) (m_written : Int → Int) (m_waits : Int → Int) (m_kinds : Int → Int) (m_tape : Int → Int) (m_sort : Int → Int) (m_sortAt : Int → Int) (m_told : Int → Int) (m_kept : Int → Int) (m_was : Int → Int) (m_ends : Int → Int) (m_row : Int → Int) (x1 : Int) (x2 : Int) (x3 : Int) {o : Int × Int × Int × (Int → Int) × (Int → Int) × (Int → Int) × (Int → Int) × (Int → Int) × (Int → Int)} (h : m_Mod_comesPlain x1 x2 x3 m_stepsMade m_stepsMost m_bytes m_owner m_block m_written m_waits m_kinds = some o) : Ct l D cI cB y_Mod_comesPlain b_Mod_comesPlain 4 (some .boolean) { frames := 7, cells := 0, slots := 0, locals := 166 } [.ref a0, .int (zi x1), .int (zi x2), .int (zi x3)] (w_Mod cI cB a0 a1 a2 a3 a4 a5 a6 a7 a8 a9 a10 a11 a12 a13 a14 a15 m_stepsMade m_stepsMost m_taped m_reading m_statements m_telling m_hasImage m_isKeeping m_cursor m_rowMany m_lots m_refused m_bytes m_owner m_block m_written m_waits m_kinds m_tape m_sort m_sortAt m_told m_kept m_was m_ends m_row) (w_Mod cI cB a0 a1 a2 a3 a4 a5 a6 a7 a8 a9 a10 a11 a12 a13 a14 a15 o.2.1 o.2.2.1 m_taped m_reading m_statements m_telling m_hasImage m_isKeeping m_cursor m_rowMany m_lots m_refused o.2.2.2.1 o.2.2.2.2.1 o.2.2.2.2.2.1 o.2.2.2.2.2.2.1 o.2.2.2.2.2.2.2.1 o.2.2.2.2.2.2.2.2 m_tape m_sort m_sortAt m_told m_kept m_was m_ends m_row) (some (.int (zi o.1))) := by
  refine Ct.start (by decide) (Nat.le_of_ble_eq_true rfl) (fun G X hR => ?_)
  refine x_ls (ls2 := [(0, .ref a0), (1, .int (zi x1)), (2, .int (zi x2)), (3, .int (zi x3))]) [0, 1, 2, 3] rfl ?_
  unfold m_Mod_comesPlain at h
  refine x_iload_n (pc := 0) X d_Mod_comesPlain_0 1 rfl rfl ?_
  refine x_bipush (pc := 1) (v := 102) X d_Mod_comesPlain_1 rfl ?_
  refine x_icmpne (pc := 3) (tgt := 17) X d_Mod_comesPlain_3 rfl h (fun h => ?_) (fun h => ?_)
  · skip
    refine x_iload_n (pc := 17) X d_Mod_comesPlain_17 1 rfl rfl ?_
    refine x_bipush (pc := 18) (v := 99) X d_Mod_comesPlain_18 rfl ?_
    refine x_icmpne (pc := 20) (tgt := 33) X d_Mod_comesPlain_20 rfl h (fun h => ?_) (fun h => ?_)
    · skip
      refine x_aload_n (pc := 33) X d_Mod_comesPlain_33 0 rfl rfl ?_
      refine x_get (pc := 34) X d_Mod_comesPlain_34 0 rfl fl_Mod_28 rfl ?_
      refine x_iload_n (pc := 37) X d_Mod_comesPlain_37 2 rfl rfl ?_
      refine x_iload_n (pc := 38) X d_Mod_comesPlain_38 3 rfl rfl ?_
      refine x_iast (pc := 39) (w2 := (w_Mod cI cB a0 a1 a2 a3 a4 a5 a6 a7 a8 a9 a10 a11 a12 a13 a14 a15 m_stepsMade m_stepsMost m_taped m_reading m_statements m_telling m_hasImage m_isKeeping m_cursor m_rowMany m_lots m_refused m_bytes m_owner m_block m_written m_waits (uf m_kinds x2 x3) m_tape m_sort m_sortAt m_told m_kept m_was m_ends m_row)) X d_Mod_comesPlain_39 7 rfl (Nat.le_of_ble_eq_true rfl) rfl rfl h (fun h => ?_)
      refine x_iconst (pc := 40) X d_Mod_comesPlain_40  ?_
      cases h
      exact x_zret (pc := 41) X hR d_Mod_comesPlain_41 (Or.inr rfl)
    · skip
      refine x_aload_n (pc := 23) X d_Mod_comesPlain_23 0 rfl rfl ?_
      refine x_iload_n (pc := 24) X d_Mod_comesPlain_24 2 rfl rfl ?_
      refine x_iload_n (pc := 25) X d_Mod_comesPlain_25 3 rfl rfl ?_
      obtain ⟨r1, h2, h⟩ := bnd_e h
      refine x_callV (pc := 26) (As := [.int (zi x2), .int (zi x3)]) (rest := []) (w2 := (w_Mod cI cB a0 a1 a2 a3 a4 a5 a6 a7 a8 a9 a10 a11 a12 a13 a14 a15 r1.2.1 r1.2.2.1 m_taped m_reading m_statements m_telling m_hasImage m_isKeeping m_cursor m_rowMany m_lots m_refused r1.2.2.2.1 r1.2.2.2.2.1 r1.2.2.2.2.2.1 r1.2.2.2.2.2.2.1 r1.2.2.2.2.2.2.2 m_kinds m_tape m_sort m_sortAt m_told m_kept m_was m_ends m_row)) X d_Mod_comesPlain_26 lk_Mod_227 mv_Mod_crashes (c_Mod_crashes l D cI cB a0 a1 a2 a3 a4 a5 a6 a7 a8 a9 a10 a11 a12 a13 a14 a15 m_stepsMade m_stepsMost m_taped m_reading m_statements m_telling m_hasImage m_isKeeping m_cursor m_rowMany m_lots m_refused m_bytes m_owner m_block m_written m_waits m_kinds m_tape m_sort m_sortAt m_told m_kept m_was m_ends m_row x2 x3 h2) ⟨(Nat.le_of_ble_eq_true rfl), (Nat.le_of_ble_eq_true rfl), (Nat.le_of_ble_eq_true rfl), (Nat.le_of_ble_eq_true rfl)⟩ 0 rfl rfl [0, 1, 2, 3, 4, 5, 6, 7, 8, 9, 10, 11, 12, 13, 14, 15] rfl rfl rfl (Up.of [] [] rfl rfl rfl 16 rfl (by decide +kernel)) rfl rfl (Nat.le_of_ble_eq_true rfl) ?_
      refine x_pop (pc := 29) X d_Mod_comesPlain_29 rfl ?_
      refine x_goto (pc := 30) (tgt := 40) X d_Mod_comesPlain_30 rfl ?_
      refine x_iconst (pc := 40) X d_Mod_comesPlain_40  ?_
      cases h
      exact x_zret (pc := 41) X hR d_Mod_comesPlain_41 (Or.inr rfl)
  · skip
    refine x_aload_n (pc := 6) X d_Mod_comesPlain_6 0 rfl rfl ?_
    refine x_iload_n (pc := 7) X d_Mod_comesPlain_7 2 rfl rfl ?_
    refine x_ldc (pc := 8) X d_Mod_comesPlain_8 cw_Mod_165 cg_Mod_165 ?_
    obtain ⟨r3, h4, h⟩ := bnd_e h
    refine x_callV (pc := 10) (As := [.int (zi x2), .int (zi 1000000)]) (rest := []) (w2 := (w_Mod cI cB a0 a1 a2 a3 a4 a5 a6 a7 a8 a9 a10 a11 a12 a13 a14 a15 r3.2.1 r3.2.2.1 m_taped m_reading m_statements m_telling m_hasImage m_isKeeping m_cursor m_rowMany m_lots m_refused r3.2.2.2.1 r3.2.2.2.2.1 r3.2.2.2.2.2.1 r3.2.2.2.2.2.2.1 r3.2.2.2.2.2.2.2 m_kinds m_tape m_sort m_sortAt m_told m_kept m_was m_ends m_row)) X d_Mod_comesPlain_10 lk_Mod_150 mv_Mod_flushes (c_Mod_flushes l D cI cB a0 a1 a2 a3 a4 a5 a6 a7 a8 a9 a10 a11 a12 a13 a14 a15 m_stepsMade m_stepsMost m_taped m_reading m_statements m_telling m_hasImage m_isKeeping m_cursor m_rowMany m_lots m_refused m_bytes m_owner m_block m_written m_waits m_kinds m_tape m_sort m_sortAt m_told m_kept m_was m_ends m_row x2 1000000 h4) ⟨(Nat.le_of_ble_eq_true rfl), (Nat.le_of_ble_eq_true rfl), (Nat.le_of_ble_eq_true rfl), (Nat.le_of_ble_eq_true rfl)⟩ 0 rfl rfl [0, 1, 2, 3, 4, 5, 6, 7, 8, 9, 10, 11, 12, 13, 14, 15] rfl rfl rfl (Up.of [] [] rfl rfl rfl 16 rfl (by decide +kernel)) rfl rfl (Nat.le_of_ble_eq_true rfl) ?_
    refine x_pop (pc := 13) X d_Mod_comesPlain_13 rfl ?_
    refine x_goto (pc := 14) (tgt := 40) X d_Mod_comesPlain_14 rfl ?_
    refine x_iconst (pc := 40) X d_Mod_comesPlain_40  ?_
    cases h
    exact x_zret (pc := 41) X hR d_Mod_comesPlain_41 (Or.inr rfl)
theorem d_Mod_isHole_0 : decode b_Mod_isHole 0 = .ok (.aload_n 0, 1) := by decide +kernel
theorem d_Mod_isHole_1 : decode b_Mod_isHole 1 = .ok (.iload_n 1, 1) := by decide +kernel
theorem d_Mod_isHole_2 : decode b_Mod_isHole 2 = .ok (.invokevirtual 62, 3) := by decide +kernel
theorem d_Mod_isHole_5 : decode b_Mod_isHole 5 = .ok (.ifCond .ne 15, 3) := by decide +kernel
theorem d_Mod_isHole_8 : decode b_Mod_isHole 8 = .ok (.aload_n 0, 1) := by decide +kernel
theorem d_Mod_isHole_9 : decode b_Mod_isHole 9 = .ok (.iload_n 1, 1) := by decide +kernel
theorem d_Mod_isHole_10 : decode b_Mod_isHole 10 = .ok (.invokevirtual 66, 3) := by decide +kernel
theorem d_Mod_isHole_13 : decode b_Mod_isHole 13 = .ok (.ifCond .ne 7, 3) := by decide +kernel
theorem d_Mod_isHole_16 : decode b_Mod_isHole 16 = .ok (.iconst 1, 1) := by decide +kernel
theorem d_Mod_isHole_17 : decode b_Mod_isHole 17 = .ok (.goto 4, 3) := by decide +kernel
theorem d_Mod_isHole_20 : decode b_Mod_isHole 20 = .ok (.iconst 0, 1) := by decide +kernel
theorem d_Mod_isHole_21 : decode b_Mod_isHole 21 = .ok (.ireturn, 1) := by decide +kernel
def m_Mod_isHole (x1 : Int) (m_block : Int → Int) (m_waits : Int → Int) : Option (Int) :=
  bnd (m_Mod_isPlaced x1 m_block) (fun r1 => ceq r1 0 (bnd (m_Mod_isWaiting x1 m_waits) (fun r3 => ceq r3 0 (some (1)) (some (0)))) (some (0)))
set_option maxHeartbeats 4000000 in
set_option maxRecDepth 100000 in
theorem c_Mod_isHole (l : Launch) (D : va_G) (cI cB : ClassId) (a0 a1 a2 a3 a4 a5 a6 a7 a8 a9 a10 a11 a12 a13 a14 a15 : Nat) (m_stepsMade : Int) (m_stepsMost : Int) (m_taped : Int) (m_reading : Int) (m_statements : Int) (m_telling : Int) (m_hasImage : Int) (m_isKeeping : Int) (m_cursor : Int) (m_rowMany : Int) (m_lots : Int) (m_refused : Int → Int) (m_bytes : Int → Int) (m_owner : Int → Int) (m_block : Int → Int) (m_written : Int → Int) (m_waits : Int → Int) (m_kinds : Int → Int) (m_tape : Int → Int) (m_sort : Int → Int) (m_sortAt : Int → Int) (m_told : Int → Int) (m_kept : Int → Int) (m_was : Int → Int) (m_ends : Int → Int) (m_row : Int → Int) (x1 : Int) {o : Int} (h : m_Mod_isHole x1 m_block m_waits = some o) : Ct l D cI cB y_Mod_isHole b_Mod_isHole 2 (some .boolean) { frames := 1, cells := 0, slots := 0, locals := 21 } [.ref a0, .int (zi x1)] (w_Mod cI cB a0 a1 a2 a3 a4 a5 a6 a7 a8 a9 a10 a11 a12 a13 a14 a15 m_stepsMade m_stepsMost m_taped m_reading m_statements m_telling m_hasImage m_isKeeping m_cursor m_rowMany m_lots m_refused m_bytes m_owner m_block m_written m_waits m_kinds m_tape m_sort m_sortAt m_told m_kept m_was m_ends m_row) (w_Mod cI cB a0 a1 a2 a3 a4 a5 a6 a7 a8 a9 a10 a11 a12 a13 a14 a15 m_stepsMade m_stepsMost m_taped m_reading m_statements m_telling m_hasImage m_isKeeping m_cursor m_rowMany m_lots m_refused m_bytes m_owner m_block m_written m_waits m_kinds m_tape m_sort m_sortAt m_told m_kept m_was m_ends m_row) (some (.int (zi o))) := by
  refine Ct.start (by decide) (Nat.le_of_ble_eq_true rfl) (fun G X hR => ?_)
  refine x_ls (ls2 := [(0, .ref a0), (1, .int (zi x1))]) [0, 1] rfl ?_
  unfold m_Mod_isHole at h
  refine x_aload_n (pc := 0) X d_Mod_isHole_0 0 rfl rfl ?_
  refine x_iload_n (pc := 1) X d_Mod_isHole_1 1 rfl rfl ?_
  obtain ⟨r1, h2, h⟩ := bnd_e h
  refine x_callV (pc := 2) (As := [.int (zi x1)]) (rest := []) (w2 := (w_Mod cI cB a0 a1 a2 a3 a4 a5 a6 a7 a8 a9 a10 a11 a12 a13 a14 a15 m_stepsMade m_stepsMost m_taped m_reading m_statements m_telling m_hasImage m_isKeeping m_cursor m_rowMany m_lots m_refused m_bytes m_owner m_block m_written m_waits m_kinds m_tape m_sort m_sortAt m_told m_kept m_was m_ends m_row)) X d_Mod_isHole_2 lk_Mod_62 mv_Mod_isPlaced (c_Mod_isPlaced l D cI cB a0 a1 a2 a3 a4 a5 a6 a7 a8 a9 a10 a11 a12 a13 a14 a15 m_stepsMade m_stepsMost m_taped m_reading m_statements m_telling m_hasImage m_isKeeping m_cursor m_rowMany m_lots m_refused m_bytes m_owner m_block m_written m_waits m_kinds m_tape m_sort m_sortAt m_told m_kept m_was m_ends m_row x1 h2) ⟨(Nat.le_of_ble_eq_true rfl), (Nat.le_of_ble_eq_true rfl), (Nat.le_of_ble_eq_true rfl), (Nat.le_of_ble_eq_true rfl)⟩ 0 rfl rfl [0, 1, 2, 3, 4, 5, 6, 7, 8, 9, 10, 11, 12, 13, 14, 15] rfl rfl rfl (Up.same rfl) rfl rfl (Nat.le_of_ble_eq_true rfl) ?_
  refine x_ifne (pc := 5) (tgt := 20) X d_Mod_isHole_5 rfl h (fun h => ?_) (fun h => ?_)
  · skip
    refine x_iconst (pc := 20) X d_Mod_isHole_20  ?_
    cases h
    exact x_zret (pc := 21) X hR d_Mod_isHole_21 (Or.inl rfl)
  · skip
    refine x_aload_n (pc := 8) X d_Mod_isHole_8 0 rfl rfl ?_
    refine x_iload_n (pc := 9) X d_Mod_isHole_9 1 rfl rfl ?_
    obtain ⟨r3, h4, h⟩ := bnd_e h
    refine x_callV (pc := 10) (As := [.int (zi x1)]) (rest := []) (w2 := (w_Mod cI cB a0 a1 a2 a3 a4 a5 a6 a7 a8 a9 a10 a11 a12 a13 a14 a15 m_stepsMade m_stepsMost m_taped m_reading m_statements m_telling m_hasImage m_isKeeping m_cursor m_rowMany m_lots m_refused m_bytes m_owner m_block m_written m_waits m_kinds m_tape m_sort m_sortAt m_told m_kept m_was m_ends m_row)) X d_Mod_isHole_10 lk_Mod_66 mv_Mod_isWaiting (c_Mod_isWaiting l D cI cB a0 a1 a2 a3 a4 a5 a6 a7 a8 a9 a10 a11 a12 a13 a14 a15 m_stepsMade m_stepsMost m_taped m_reading m_statements m_telling m_hasImage m_isKeeping m_cursor m_rowMany m_lots m_refused m_bytes m_owner m_block m_written m_waits m_kinds m_tape m_sort m_sortAt m_told m_kept m_was m_ends m_row x1 h4) ⟨(Nat.le_of_ble_eq_true rfl), (Nat.le_of_ble_eq_true rfl), (Nat.le_of_ble_eq_true rfl), (Nat.le_of_ble_eq_true rfl)⟩ 0 rfl rfl [0, 1, 2, 3, 4, 5, 6, 7, 8, 9, 10, 11, 12, 13, 14, 15] rfl rfl rfl (Up.same rfl) rfl rfl (Nat.le_of_ble_eq_true rfl) ?_
    refine x_ifne (pc := 13) (tgt := 20) X d_Mod_isHole_13 rfl h (fun h => ?_) (fun h => ?_)
    · skip
      refine x_iconst (pc := 20) X d_Mod_isHole_20  ?_
      cases h
      exact x_zret (pc := 21) X hR d_Mod_isHole_21 (Or.inl rfl)
    · skip
      refine x_iconst (pc := 16) X d_Mod_isHole_16  ?_
      refine x_goto (pc := 17) (tgt := 21) X d_Mod_isHole_17 rfl ?_
      cases h
      exact x_zret (pc := 21) X hR d_Mod_isHole_21 (Or.inr rfl)
theorem d_Mod_freeBlocks_0 : decode b_Mod_freeBlocks 0 = .ok (.iconst 0, 1) := by decide +kernel
theorem d_Mod_freeBlocks_1 : decode b_Mod_freeBlocks 1 = .ok (.istore_n 1, 1) := by decide +kernel
theorem d_Mod_freeBlocks_2 : decode b_Mod_freeBlocks 2 = .ok (.iconst 0, 1) := by decide +kernel
theorem d_Mod_freeBlocks_3 : decode b_Mod_freeBlocks 3 = .ok (.istore_n 2, 1) := by decide +kernel
theorem d_Mod_freeBlocks_4 : decode b_Mod_freeBlocks 4 = .ok (.iload_n 2, 1) := by decide +kernel
theorem d_Mod_freeBlocks_5 : decode b_Mod_freeBlocks 5 = .ok (.bipush 64, 2) := by decide +kernel
theorem d_Mod_freeBlocks_7 : decode b_Mod_freeBlocks 7 = .ok (.if_icmp .ge 26, 3) := by decide +kernel
theorem d_Mod_freeBlocks_10 : decode b_Mod_freeBlocks 10 = .ok (.iload_n 1, 1) := by decide +kernel
theorem d_Mod_freeBlocks_11 : decode b_Mod_freeBlocks 11 = .ok (.aload_n 0, 1) := by decide +kernel
theorem d_Mod_freeBlocks_12 : decode b_Mod_freeBlocks 12 = .ok (.getfield 16, 3) := by decide +kernel
theorem d_Mod_freeBlocks_15 : decode b_Mod_freeBlocks 15 = .ok (.iload_n 2, 1) := by decide +kernel
theorem d_Mod_freeBlocks_16 : decode b_Mod_freeBlocks 16 = .ok (.iaload, 1) := by decide +kernel
theorem d_Mod_freeBlocks_17 : decode b_Mod_freeBlocks 17 = .ok (.ifCond .ge 7, 3) := by decide +kernel
theorem d_Mod_freeBlocks_20 : decode b_Mod_freeBlocks 20 = .ok (.iconst 1, 1) := by decide +kernel
theorem d_Mod_freeBlocks_21 : decode b_Mod_freeBlocks 21 = .ok (.goto 4, 3) := by decide +kernel
theorem d_Mod_freeBlocks_24 : decode b_Mod_freeBlocks 24 = .ok (.iconst 0, 1) := by decide +kernel
theorem d_Mod_freeBlocks_25 : decode b_Mod_freeBlocks 25 = .ok (.iadd, 1) := by decide +kernel
theorem d_Mod_freeBlocks_26 : decode b_Mod_freeBlocks 26 = .ok (.istore_n 1, 1) := by decide +kernel
theorem d_Mod_freeBlocks_27 : decode b_Mod_freeBlocks 27 = .ok (.iinc 2 1, 3) := by decide +kernel
theorem d_Mod_freeBlocks_30 : decode b_Mod_freeBlocks 30 = .ok (.goto (-26), 3) := by decide +kernel
theorem d_Mod_freeBlocks_33 : decode b_Mod_freeBlocks 33 = .ok (.iload_n 1, 1) := by decide +kernel
theorem d_Mod_freeBlocks_34 : decode b_Mod_freeBlocks 34 = .ok (.ireturn, 1) := by decide +kernel
def m_Mod_freeBlocks_4 : Nat → Int → Int → (Int → Int) → Option (Int)
  | 0, _, _, _ => none
  | fuel + 1, v1, v2, m_owner =>
  clt v2 64 (gd (zx v2 64) (clt (m_owner v2) 0 (m_Mod_freeBlocks_4 fuel (v1 + 1) (v2 + 1) m_owner) (m_Mod_freeBlocks_4 fuel (v1 + 0) (v2 + 1) m_owner))) (some (v1))
def m_Mod_freeBlocks  (m_owner : Int → Int) : Option (Int) :=
  m_Mod_freeBlocks_4 5000 0 0 m_owner
set_option maxHeartbeats 4000000 in
set_option maxRecDepth 100000 in
theorem l_Mod_freeBlocks_4 {G : GT} {l : Launch} {D : va_G} {cI cB : ClassId} {a0 a1 a2 a3 a4 a5 a6 a7 a8 a9 a10 a11 a12 a13 a14 a15 : Nat} {m_stepsMade : Int} {m_stepsMost : Int} {m_taped : Int} {m_reading : Int} {m_statements : Int} {m_telling : Int} {m_hasImage : Int} {m_isKeeping : Int} {m_cursor : Int} {m_rowMany : Int} {m_lots : Int} {m_refused : Int → Int} {m_bytes : Int → Int} {m_block : Int → Int} {m_written : Int → Int} {m_waits : Int → Int} {m_kinds : Int → Int} {m_tape : Int → Int} {m_sort : Int → Int} {m_sortAt : Int → Int} {m_told : Int → Int} {m_kept : Int → Int} {m_was : Int → Int} {m_ends : Int → Int} {m_row : Int → Int} (X : Cx G l D cI cB b_Mod_freeBlocks y_Mod_freeBlocks.cls 3 { frames := 0, cells := 0, slots := 0, locals := 0 }) : ∀ (fuel : Nat) (v1 : Int) (v2 : Int) (m_owner : Int → Int) (o : Int), m_Mod_freeBlocks_4 fuel v1 v2 m_owner = some o → Rt G (some .int) (some (.int (zi o))) (w_Mod cI cB a0 a1 a2 a3 a4 a5 a6 a7 a8 a9 a10 a11 a12 a13 a14 a15 m_stepsMade m_stepsMost m_taped m_reading m_statements m_telling m_hasImage m_isKeeping m_cursor m_rowMany m_lots m_refused m_bytes m_owner m_block m_written m_waits m_kinds m_tape m_sort m_sortAt m_told m_kept m_was m_ends m_row) → Wx G 0 0 4 [(0, .ref a0), (1, .int (zi v1)), (2, .int (zi v2))] [] (w_Mod cI cB a0 a1 a2 a3 a4 a5 a6 a7 a8 a9 a10 a11 a12 a13 a14 a15 m_stepsMade m_stepsMost m_taped m_reading m_statements m_telling m_hasImage m_isKeeping m_cursor m_rowMany m_lots m_refused m_bytes m_owner m_block m_written m_waits m_kinds m_tape m_sort m_sortAt m_told m_kept m_was m_ends m_row) := by
  intro fuel
  induction fuel with
  | zero =>
    intro v1 v2 m_owner o h
    exact absurd h (by simp [m_Mod_freeBlocks_4])
  | succ fuel ih =>
    intro v1 v2 m_owner o h hR
    rw [m_Mod_freeBlocks_4] at h
    refine x_iload_n (pc := 4) X d_Mod_freeBlocks_4 2 rfl rfl ?_
    refine x_bipush (pc := 5) (v := 64) X d_Mod_freeBlocks_5 rfl ?_
    refine x_icmpge (pc := 7) (tgt := 33) X d_Mod_freeBlocks_7 rfl h (fun h => ?_) (fun h => ?_)
    · skip
      refine x_iload_n (pc := 33) X d_Mod_freeBlocks_33 1 rfl rfl ?_
      cases h
      exact x_iret (pc := 34) X hR d_Mod_freeBlocks_34
    · skip
      refine x_iload_n (pc := 10) X d_Mod_freeBlocks_10 1 rfl rfl ?_
      refine x_aload_n (pc := 11) X d_Mod_freeBlocks_11 0 rfl rfl ?_
      refine x_get (pc := 12) X d_Mod_freeBlocks_12 0 rfl fl_Mod_16 rfl ?_
      refine x_iload_n (pc := 15) X d_Mod_freeBlocks_15 2 rfl rfl ?_
      refine x_iald (pc := 16) X d_Mod_freeBlocks_16 3 rfl (Nat.le_of_ble_eq_true rfl) rfl h (fun h => ?_)
      refine x_ifge (pc := 17) (tgt := 24) X d_Mod_freeBlocks_17 rfl h (fun h => ?_) (fun h => ?_)
      · skip
        refine x_iconst (pc := 24) X d_Mod_freeBlocks_24  ?_
        refine x_iadd (pc := 25) X d_Mod_freeBlocks_25  ?_
        refine x_istore_n (pc := 26) (ls2 := [(1, .int (zi (v1 + 0))), (0, .ref a0), (2, .int (zi v2))]) X d_Mod_freeBlocks_26 rfl (Nat.le_of_ble_eq_true rfl) rfl ?_
        refine x_iinc (pc := 27) (ls2 := [(2, .int (zi (v2 + 1))), (1, .int (zi (v1 + 0))), (0, .ref a0)]) X d_Mod_freeBlocks_27 2 (Nat.le_of_ble_eq_true rfl) rfl rfl ?_
        refine x_goto (pc := 30) (tgt := 4) X d_Mod_freeBlocks_30 rfl ?_
        refine x_ls (ls2 := [(0, .ref a0), (1, .int (zi (v1 + 0))), (2, .int (zi (v2 + 1)))]) [2, 1, 0] rfl ?_
        exact ih (v1 + 0) (v2 + 1) m_owner o h hR
      · skip
        refine x_iconst (pc := 20) X d_Mod_freeBlocks_20  ?_
        refine x_goto (pc := 21) (tgt := 25) X d_Mod_freeBlocks_21 rfl ?_
        refine x_iadd (pc := 25) X d_Mod_freeBlocks_25  ?_
        refine x_istore_n (pc := 26) (ls2 := [(1, .int (zi (v1 + 1))), (0, .ref a0), (2, .int (zi v2))]) X d_Mod_freeBlocks_26 rfl (Nat.le_of_ble_eq_true rfl) rfl ?_
        refine x_iinc (pc := 27) (ls2 := [(2, .int (zi (v2 + 1))), (1, .int (zi (v1 + 1))), (0, .ref a0)]) X d_Mod_freeBlocks_27 2 (Nat.le_of_ble_eq_true rfl) rfl rfl ?_
        refine x_goto (pc := 30) (tgt := 4) X d_Mod_freeBlocks_30 rfl ?_
        refine x_ls (ls2 := [(0, .ref a0), (1, .int (zi (v1 + 1))), (2, .int (zi (v2 + 1)))]) [2, 1, 0] rfl ?_
        exact ih (v1 + 1) (v2 + 1) m_owner o h hR
set_option maxHeartbeats 4000000 in
set_option maxRecDepth 100000 in
theorem c_Mod_freeBlocks (l : Launch) (D : va_G) (cI cB : ClassId) (a0 a1 a2 a3 a4 a5 a6 a7 a8 a9 a10 a11 a12 a13 a14 a15 : Nat) (m_stepsMade : Int) (m_stepsMost : Int) (m_taped : Int) (m_reading : Int) (m_statements : Int) (m_telling : Int) (m_hasImage : Int) (m_isKeeping : Int) (m_cursor : Int) (m_rowMany : Int) (m_lots : Int) (m_refused : Int → Int) (m_bytes : Int → Int) (m_owner : Int → Int) (m_block : Int → Int) (m_written : Int → Int) (m_waits : Int → Int) (m_kinds : Int → Int) (m_tape : Int → Int) (m_sort : Int → Int) (m_sortAt : Int → Int) (m_told : Int → Int) (m_kept : Int → Int) (m_was : Int → Int) (m_ends : Int → Int) (m_row : Int → Int)  {o : Int} (h : m_Mod_freeBlocks m_owner = some o) : Ct l D cI cB y_Mod_freeBlocks b_Mod_freeBlocks 3 (some .int) { frames := 0, cells := 0, slots := 0, locals := 0 } [.ref a0] (w_Mod cI cB a0 a1 a2 a3 a4 a5 a6 a7 a8 a9 a10 a11 a12 a13 a14 a15 m_stepsMade m_stepsMost m_taped m_reading m_statements m_telling m_hasImage m_isKeeping m_cursor m_rowMany m_lots m_refused m_bytes m_owner m_block m_written m_waits m_kinds m_tape m_sort m_sortAt m_told m_kept m_was m_ends m_row) (w_Mod cI cB a0 a1 a2 a3 a4 a5 a6 a7 a8 a9 a10 a11 a12 a13 a14 a15 m_stepsMade m_stepsMost m_taped m_reading m_statements m_telling m_hasImage m_isKeeping m_cursor m_rowMany m_lots m_refused m_bytes m_owner m_block m_written m_waits m_kinds m_tape m_sort m_sortAt m_told m_kept m_was m_ends m_row) (some (.int (zi o))) := by
  refine Ct.start (by decide) (Nat.le_of_ble_eq_true rfl) (fun G X hR => ?_)
  refine x_ls (ls2 := [(0, .ref a0)]) [0] rfl ?_
  unfold m_Mod_freeBlocks at h
  refine x_iconst (pc := 0) X d_Mod_freeBlocks_0  ?_
  refine x_istore_n (pc := 1) (ls2 := [(1, .int (zi 0)), (0, .ref a0)]) X d_Mod_freeBlocks_1 rfl (Nat.le_of_ble_eq_true rfl) rfl ?_
  refine x_iconst (pc := 2) X d_Mod_freeBlocks_2  ?_
  refine x_istore_n (pc := 3) (ls2 := [(2, .int (zi 0)), (1, .int (zi 0)), (0, .ref a0)]) X d_Mod_freeBlocks_3 rfl (Nat.le_of_ble_eq_true rfl) rfl ?_
  refine x_ls (ls2 := [(0, .ref a0), (1, .int (zi 0)), (2, .int (zi 0))]) [2, 1, 0] rfl ?_
  exact l_Mod_freeBlocks_4 X 5000 0 0 m_owner o h hR
theorem d_Mod_reserved_0 : decode b_Mod_reserved 0 = .ok (.iconst 0, 1) := by decide +kernel
theorem d_Mod_reserved_1 : decode b_Mod_reserved 1 = .ok (.istore_n 1, 1) := by decide +kernel
theorem d_Mod_reserved_2 : decode b_Mod_reserved 2 = .ok (.iconst 0, 1) := by decide +kernel
theorem d_Mod_reserved_3 : decode b_Mod_reserved 3 = .ok (.istore_n 2, 1) := by decide +kernel
theorem d_Mod_reserved_4 : decode b_Mod_reserved 4 = .ok (.iload_n 2, 1) := by decide +kernel
theorem d_Mod_reserved_5 : decode b_Mod_reserved 5 = .ok (.bipush 96, 2) := by decide +kernel
theorem d_Mod_reserved_7 : decode b_Mod_reserved 7 = .ok (.if_icmp .ge 25, 3) := by decide +kernel
theorem d_Mod_reserved_10 : decode b_Mod_reserved 10 = .ok (.iload_n 1, 1) := by decide +kernel
theorem d_Mod_reserved_11 : decode b_Mod_reserved 11 = .ok (.aload_n 0, 1) := by decide +kernel
theorem d_Mod_reserved_12 : decode b_Mod_reserved 12 = .ok (.iload_n 2, 1) := by decide +kernel
theorem d_Mod_reserved_13 : decode b_Mod_reserved 13 = .ok (.invokevirtual 69, 3) := by decide +kernel
theorem d_Mod_reserved_16 : decode b_Mod_reserved 16 = .ok (.ifCond .eq 7, 3) := by decide +kernel
theorem d_Mod_reserved_19 : decode b_Mod_reserved 19 = .ok (.iconst 1, 1) := by decide +kernel
theorem d_Mod_reserved_20 : decode b_Mod_reserved 20 = .ok (.goto 4, 3) := by decide +kernel
theorem d_Mod_reserved_23 : decode b_Mod_reserved 23 = .ok (.iconst 0, 1) := by decide +kernel
theorem d_Mod_reserved_24 : decode b_Mod_reserved 24 = .ok (.iadd, 1) := by decide +kernel
theorem d_Mod_reserved_25 : decode b_Mod_reserved 25 = .ok (.istore_n 1, 1) := by decide +kernel
theorem d_Mod_reserved_26 : decode b_Mod_reserved 26 = .ok (.iinc 2 1, 3) := by decide +kernel
theorem d_Mod_reserved_29 : decode b_Mod_reserved 29 = .ok (.goto (-25), 3) := by decide +kernel
theorem d_Mod_reserved_32 : decode b_Mod_reserved 32 = .ok (.iload_n 1, 1) := by decide +kernel
theorem d_Mod_reserved_33 : decode b_Mod_reserved 33 = .ok (.ireturn, 1) := by decide +kernel
def m_Mod_reserved_4 : Nat → Int → Int → (Int → Int) → (Int → Int) → Option (Int)
  | 0, _, _, _, _ => none
  | fuel + 1, v1, v2, m_block, m_waits =>
  clt v2 96 (bnd (m_Mod_isToPlace v2 m_block m_waits) (fun r1 => ceq r1 0 (m_Mod_reserved_4 fuel (v1 + 0) (v2 + 1) m_block m_waits) (m_Mod_reserved_4 fuel (v1 + 1) (v2 + 1) m_block m_waits))) (some (v1))
def m_Mod_reserved  (m_block : Int → Int) (m_waits : Int → Int) : Option (Int) :=
  m_Mod_reserved_4 5000 0 0 m_block m_waits
set_option maxHeartbeats 4000000 in
set_option maxRecDepth 100000 in
theorem l_Mod_reserved_4 {G : GT} {l : Launch} {D : va_G} {cI cB : ClassId} {a0 a1 a2 a3 a4 a5 a6 a7 a8 a9 a10 a11 a12 a13 a14 a15 : Nat} {m_stepsMade : Int} {m_stepsMost : Int} {m_taped : Int} {m_reading : Int} {m_statements : Int} {m_telling : Int} {m_hasImage : Int} {m_isKeeping : Int} {m_cursor : Int} {m_rowMany : Int} {m_lots : Int} {m_refused : Int → Int} {m_bytes : Int → Int} {m_owner : Int → Int} {m_written : Int → Int} {m_kinds : Int → Int} {m_tape : Int → Int} {m_sort : Int → Int} {m_sortAt : Int → Int} {m_told : Int → Int} {m_kept : Int → Int} {m_was : Int → Int} {m_ends : Int → Int} {m_row : Int → Int} (X : Cx G l D cI cB b_Mod_reserved y_Mod_reserved.cls 3 { frames := 2, cells := 0, slots := 0, locals := 42 }) : ∀ (fuel : Nat) (v1 : Int) (v2 : Int) (m_block : Int → Int) (m_waits : Int → Int) (o : Int), m_Mod_reserved_4 fuel v1 v2 m_block m_waits = some o → Rt G (some .int) (some (.int (zi o))) (w_Mod cI cB a0 a1 a2 a3 a4 a5 a6 a7 a8 a9 a10 a11 a12 a13 a14 a15 m_stepsMade m_stepsMost m_taped m_reading m_statements m_telling m_hasImage m_isKeeping m_cursor m_rowMany m_lots m_refused m_bytes m_owner m_block m_written m_waits m_kinds m_tape m_sort m_sortAt m_told m_kept m_was m_ends m_row) → Wx G 0 0 4 [(0, .ref a0), (1, .int (zi v1)), (2, .int (zi v2))] [] (w_Mod cI cB a0 a1 a2 a3 a4 a5 a6 a7 a8 a9 a10 a11 a12 a13 a14 a15 m_stepsMade m_stepsMost m_taped m_reading m_statements m_telling m_hasImage m_isKeeping m_cursor m_rowMany m_lots m_refused m_bytes m_owner m_block m_written m_waits m_kinds m_tape m_sort m_sortAt m_told m_kept m_was m_ends m_row) := by
  intro fuel
  induction fuel with
  | zero =>
    intro v1 v2 m_block m_waits o h
    exact absurd h (by simp [m_Mod_reserved_4])
  | succ fuel ih =>
    intro v1 v2 m_block m_waits o h hR
    rw [m_Mod_reserved_4] at h
    refine x_iload_n (pc := 4) X d_Mod_reserved_4 2 rfl rfl ?_
    refine x_bipush (pc := 5) (v := 96) X d_Mod_reserved_5 rfl ?_
    refine x_icmpge (pc := 7) (tgt := 32) X d_Mod_reserved_7 rfl h (fun h => ?_) (fun h => ?_)
    · skip
      refine x_iload_n (pc := 32) X d_Mod_reserved_32 1 rfl rfl ?_
      cases h
      exact x_iret (pc := 33) X hR d_Mod_reserved_33
    · skip
      refine x_iload_n (pc := 10) X d_Mod_reserved_10 1 rfl rfl ?_
      refine x_aload_n (pc := 11) X d_Mod_reserved_11 0 rfl rfl ?_
      refine x_iload_n (pc := 12) X d_Mod_reserved_12 2 rfl rfl ?_
      obtain ⟨r1, h2, h⟩ := bnd_e h
      refine x_callV (pc := 13) (As := [.int (zi v2)]) (rest := [.int (zi v1)]) (w2 := (w_Mod cI cB a0 a1 a2 a3 a4 a5 a6 a7 a8 a9 a10 a11 a12 a13 a14 a15 m_stepsMade m_stepsMost m_taped m_reading m_statements m_telling m_hasImage m_isKeeping m_cursor m_rowMany m_lots m_refused m_bytes m_owner m_block m_written m_waits m_kinds m_tape m_sort m_sortAt m_told m_kept m_was m_ends m_row)) X d_Mod_reserved_13 lk_Mod_69 mv_Mod_isToPlace (c_Mod_isToPlace l D cI cB a0 a1 a2 a3 a4 a5 a6 a7 a8 a9 a10 a11 a12 a13 a14 a15 m_stepsMade m_stepsMost m_taped m_reading m_statements m_telling m_hasImage m_isKeeping m_cursor m_rowMany m_lots m_refused m_bytes m_owner m_block m_written m_waits m_kinds m_tape m_sort m_sortAt m_told m_kept m_was m_ends m_row v2 h2) ⟨(Nat.le_of_ble_eq_true rfl), (Nat.le_of_ble_eq_true rfl), (Nat.le_of_ble_eq_true rfl), (Nat.le_of_ble_eq_true rfl)⟩ 0 rfl rfl [0, 1, 2, 3, 4, 5, 6, 7, 8, 9, 10, 11, 12, 13, 14, 15] rfl rfl rfl (Up.same rfl) rfl rfl (Nat.le_of_ble_eq_true rfl) ?_
      refine x_ifeq (pc := 16) (tgt := 23) X d_Mod_reserved_16 rfl h (fun h => ?_) (fun h => ?_)
      · skip
        refine x_iconst (pc := 23) X d_Mod_reserved_23  ?_
        refine x_iadd (pc := 24) X d_Mod_reserved_24  ?_
        refine x_istore_n (pc := 25) (ls2 := [(1, .int (zi (v1 + 0))), (0, .ref a0), (2, .int (zi v2))]) X d_Mod_reserved_25 rfl (Nat.le_of_ble_eq_true rfl) rfl ?_
        refine x_iinc (pc := 26) (ls2 := [(2, .int (zi (v2 + 1))), (1, .int (zi (v1 + 0))), (0, .ref a0)]) X d_Mod_reserved_26 2 (Nat.le_of_ble_eq_true rfl) rfl rfl ?_
        refine x_goto (pc := 29) (tgt := 4) X d_Mod_reserved_29 rfl ?_
        refine x_ls (ls2 := [(0, .ref a0), (1, .int (zi (v1 + 0))), (2, .int (zi (v2 + 1)))]) [2, 1, 0] rfl ?_
        exact ih (v1 + 0) (v2 + 1) m_block m_waits o h hR
      · skip
        refine x_iconst (pc := 19) X d_Mod_reserved_19  ?_
        refine x_goto (pc := 20) (tgt := 24) X d_Mod_reserved_20 rfl ?_
        refine x_iadd (pc := 24) X d_Mod_reserved_24  ?_
        refine x_istore_n (pc := 25) (ls2 := [(1, .int (zi (v1 + 1))), (0, .ref a0), (2, .int (zi v2))]) X d_Mod_reserved_25 rfl (Nat.le_of_ble_eq_true rfl) rfl ?_
        refine x_iinc (pc := 26) (ls2 := [(2, .int (zi (v2 + 1))), (1, .int (zi (v1 + 1))), (0, .ref a0)]) X d_Mod_reserved_26 2 (Nat.le_of_ble_eq_true rfl) rfl rfl ?_
        refine x_goto (pc := 29) (tgt := 4) X d_Mod_reserved_29 rfl ?_
        refine x_ls (ls2 := [(0, .ref a0), (1, .int (zi (v1 + 1))), (2, .int (zi (v2 + 1)))]) [2, 1, 0] rfl ?_
        exact ih (v1 + 1) (v2 + 1) m_block m_waits o h hR
set_option maxHeartbeats 4000000 in
set_option maxRecDepth 100000 in
theorem c_Mod_reserved (l : Launch) (D : va_G) (cI cB : ClassId) (a0 a1 a2 a3 a4 a5 a6 a7 a8 a9 a10 a11 a12 a13 a14 a15 : Nat) (m_stepsMade : Int) (m_stepsMost : Int) (m_taped : Int) (m_reading : Int) (m_statements : Int) (m_telling : Int) (m_hasImage : Int) (m_isKeeping : Int) (m_cursor : Int) (m_rowMany : Int) (m_lots : Int) (m_refused : Int → Int) (m_bytes : Int → Int) (m_owner : Int → Int) (m_block : Int → Int) (m_written : Int → Int) (m_waits : Int → Int) (m_kinds : Int → Int) (m_tape : Int → Int) (m_sort : Int → Int) (m_sortAt : Int → Int) (m_told : Int → Int) (m_kept : Int → Int) (m_was : Int → Int) (m_ends : Int → Int) (m_row : Int → Int)  {o : Int} (h : m_Mod_reserved m_block m_waits = some o) : Ct l D cI cB y_Mod_reserved b_Mod_reserved 3 (some .int) { frames := 2, cells := 0, slots := 0, locals := 42 } [.ref a0] (w_Mod cI cB a0 a1 a2 a3 a4 a5 a6 a7 a8 a9 a10 a11 a12 a13 a14 a15 m_stepsMade m_stepsMost m_taped m_reading m_statements m_telling m_hasImage m_isKeeping m_cursor m_rowMany m_lots m_refused m_bytes m_owner m_block m_written m_waits m_kinds m_tape m_sort m_sortAt m_told m_kept m_was m_ends m_row) (w_Mod cI cB a0 a1 a2 a3 a4 a5 a6 a7 a8 a9 a10 a11 a12 a13 a14 a15 m_stepsMade m_stepsMost m_taped m_reading m_statements m_telling m_hasImage m_isKeeping m_cursor m_rowMany m_lots m_refused m_bytes m_owner m_block m_written m_waits m_kinds m_tape m_sort m_sortAt m_told m_kept m_was m_ends m_row) (some (.int (zi o))) := by
  refine Ct.start (by decide) (Nat.le_of_ble_eq_true rfl) (fun G X hR => ?_)
  refine x_ls (ls2 := [(0, .ref a0)]) [0] rfl ?_
  unfold m_Mod_reserved at h
  refine x_iconst (pc := 0) X d_Mod_reserved_0  ?_
  refine x_istore_n (pc := 1) (ls2 := [(1, .int (zi 0)), (0, .ref a0)]) X d_Mod_reserved_1 rfl (Nat.le_of_ble_eq_true rfl) rfl ?_
  refine x_iconst (pc := 2) X d_Mod_reserved_2  ?_
  refine x_istore_n (pc := 3) (ls2 := [(2, .int (zi 0)), (1, .int (zi 0)), (0, .ref a0)]) X d_Mod_reserved_3 rfl (Nat.le_of_ble_eq_true rfl) rfl ?_
  refine x_ls (ls2 := [(0, .ref a0), (1, .int (zi 0)), (2, .int (zi 0))]) [2, 1, 0] rfl ?_
  exact l_Mod_reserved_4 X 5000 0 0 m_block m_waits o h hR
theorem d_Mod_roomNow_0 : decode b_Mod_roomNow 0 = .ok (.aload_n 0, 1) := by decide +kernel
theorem d_Mod_roomNow_1 : decode b_Mod_roomNow 1 = .ok (.invokevirtual 72, 3) := by decide +kernel
theorem d_Mod_roomNow_4 : decode b_Mod_roomNow 4 = .ok (.aload_n 0, 1) := by decide +kernel
theorem d_Mod_roomNow_5 : decode b_Mod_roomNow 5 = .ok (.invokevirtual 76, 3) := by decide +kernel
theorem d_Mod_roomNow_8 : decode b_Mod_roomNow 8 = .ok (.isub, 1) := by decide +kernel
theorem d_Mod_roomNow_9 : decode b_Mod_roomNow 9 = .ok (.ireturn, 1) := by decide +kernel
def m_Mod_roomNow  (m_owner : Int → Int) (m_block : Int → Int) (m_waits : Int → Int) : Option (Int) :=
  bnd (m_Mod_freeBlocks m_owner) (fun r1 => bnd (m_Mod_reserved m_block m_waits) (fun r3 => some ((r1 - r3))))
set_option maxHeartbeats 4000000 in
set_option maxRecDepth 100000 in
theorem c_Mod_roomNow (l : Launch) (D : va_G) (cI cB : ClassId) (a0 a1 a2 a3 a4 a5 a6 a7 a8 a9 a10 a11 a12 a13 a14 a15 : Nat) (m_stepsMade : Int) (m_stepsMost : Int) (m_taped : Int) (m_reading : Int) (m_statements : Int) (m_telling : Int) (m_hasImage : Int) (m_isKeeping : Int) (m_cursor : Int) (m_rowMany : Int) (m_lots : Int) (m_refused : Int → Int) (m_bytes : Int → Int) (m_owner : Int → Int) (m_block : Int → Int) (m_written : Int → Int) (m_waits : Int → Int) (m_kinds : Int → Int) (m_tape : Int → Int) (m_sort : Int → Int) (m_sortAt : Int → Int) (m_told : Int → Int) (m_kept : Int → Int) (m_was : Int → Int) (m_ends : Int → Int) (m_row : Int → Int)  {o : Int} (h : m_Mod_roomNow m_owner m_block m_waits = some o) : Ct l D cI cB y_Mod_roomNow b_Mod_roomNow 1 (some .int) { frames := 3, cells := 0, slots := 0, locals := 64 } [.ref a0] (w_Mod cI cB a0 a1 a2 a3 a4 a5 a6 a7 a8 a9 a10 a11 a12 a13 a14 a15 m_stepsMade m_stepsMost m_taped m_reading m_statements m_telling m_hasImage m_isKeeping m_cursor m_rowMany m_lots m_refused m_bytes m_owner m_block m_written m_waits m_kinds m_tape m_sort m_sortAt m_told m_kept m_was m_ends m_row) (w_Mod cI cB a0 a1 a2 a3 a4 a5 a6 a7 a8 a9 a10 a11 a12 a13 a14 a15 m_stepsMade m_stepsMost m_taped m_reading m_statements m_telling m_hasImage m_isKeeping m_cursor m_rowMany m_lots m_refused m_bytes m_owner m_block m_written m_waits m_kinds m_tape m_sort m_sortAt m_told m_kept m_was m_ends m_row) (some (.int (zi o))) := by
  refine Ct.start (by decide) (Nat.le_of_ble_eq_true rfl) (fun G X hR => ?_)
  refine x_ls (ls2 := [(0, .ref a0)]) [0] rfl ?_
  unfold m_Mod_roomNow at h
  refine x_aload_n (pc := 0) X d_Mod_roomNow_0 0 rfl rfl ?_
  obtain ⟨r1, h2, h⟩ := bnd_e h
  refine x_callV (pc := 1) (As := []) (rest := []) (w2 := (w_Mod cI cB a0 a1 a2 a3 a4 a5 a6 a7 a8 a9 a10 a11 a12 a13 a14 a15 m_stepsMade m_stepsMost m_taped m_reading m_statements m_telling m_hasImage m_isKeeping m_cursor m_rowMany m_lots m_refused m_bytes m_owner m_block m_written m_waits m_kinds m_tape m_sort m_sortAt m_told m_kept m_was m_ends m_row)) X d_Mod_roomNow_1 lk_Mod_72 mv_Mod_freeBlocks (c_Mod_freeBlocks l D cI cB a0 a1 a2 a3 a4 a5 a6 a7 a8 a9 a10 a11 a12 a13 a14 a15 m_stepsMade m_stepsMost m_taped m_reading m_statements m_telling m_hasImage m_isKeeping m_cursor m_rowMany m_lots m_refused m_bytes m_owner m_block m_written m_waits m_kinds m_tape m_sort m_sortAt m_told m_kept m_was m_ends m_row h2) ⟨(Nat.le_of_ble_eq_true rfl), (Nat.le_of_ble_eq_true rfl), (Nat.le_of_ble_eq_true rfl), (Nat.le_of_ble_eq_true rfl)⟩ 0 rfl rfl [0, 1, 2, 3, 4, 5, 6, 7, 8, 9, 10, 11, 12, 13, 14, 15] rfl rfl rfl (Up.same rfl) rfl rfl (Nat.le_of_ble_eq_true rfl) ?_
  refine x_aload_n (pc := 4) X d_Mod_roomNow_4 0 rfl rfl ?_
  obtain ⟨r3, h4, h⟩ := bnd_e h
  refine x_callV (pc := 5) (As := []) (rest := [.int (zi r1)]) (w2 := (w_Mod cI cB a0 a1 a2 a3 a4 a5 a6 a7 a8 a9 a10 a11 a12 a13 a14 a15 m_stepsMade m_stepsMost m_taped m_reading m_statements m_telling m_hasImage m_isKeeping m_cursor m_rowMany m_lots m_refused m_bytes m_owner m_block m_written m_waits m_kinds m_tape m_sort m_sortAt m_told m_kept m_was m_ends m_row)) X d_Mod_roomNow_5 lk_Mod_76 mv_Mod_reserved (c_Mod_reserved l D cI cB a0 a1 a2 a3 a4 a5 a6 a7 a8 a9 a10 a11 a12 a13 a14 a15 m_stepsMade m_stepsMost m_taped m_reading m_statements m_telling m_hasImage m_isKeeping m_cursor m_rowMany m_lots m_refused m_bytes m_owner m_block m_written m_waits m_kinds m_tape m_sort m_sortAt m_told m_kept m_was m_ends m_row h4) ⟨(Nat.le_of_ble_eq_true rfl), (Nat.le_of_ble_eq_true rfl), (Nat.le_of_ble_eq_true rfl), (Nat.le_of_ble_eq_true rfl)⟩ 0 rfl rfl [0, 1, 2, 3, 4, 5, 6, 7, 8, 9, 10, 11, 12, 13, 14, 15] rfl rfl rfl (Up.same rfl) rfl rfl (Nat.le_of_ble_eq_true rfl) ?_
  refine x_isub (pc := 8) X d_Mod_roomNow_8  ?_
  cases h
  exact x_iret (pc := 9) X hR d_Mod_roomNow_9
theorem d_Mod_canSay_0 : decode b_Mod_canSay 0 = .ok (.aload_n 0, 1) := by decide +kernel
theorem d_Mod_canSay_1 : decode b_Mod_canSay 1 = .ok (.iload_n 1, 1) := by decide +kernel
theorem d_Mod_canSay_2 : decode b_Mod_canSay 2 = .ok (.invokevirtual 159, 3) := by decide +kernel
theorem d_Mod_canSay_5 : decode b_Mod_canSay 5 = .ok (.ifCond .eq 11, 3) := by decide +kernel
theorem d_Mod_canSay_8 : decode b_Mod_canSay 8 = .ok (.aload_n 0, 1) := by decide +kernel
theorem d_Mod_canSay_9 : decode b_Mod_canSay 9 = .ok (.invokevirtual 162, 3) := by decide +kernel
theorem d_Mod_canSay_12 : decode b_Mod_canSay 12 = .ok (.iconst 1, 1) := by decide +kernel
theorem d_Mod_canSay_13 : decode b_Mod_canSay 13 = .ok (.if_icmp .lt 7, 3) := by decide +kernel
theorem d_Mod_canSay_16 : decode b_Mod_canSay 16 = .ok (.iconst 1, 1) := by decide +kernel
theorem d_Mod_canSay_17 : decode b_Mod_canSay 17 = .ok (.goto 4, 3) := by decide +kernel
theorem d_Mod_canSay_20 : decode b_Mod_canSay 20 = .ok (.iconst 0, 1) := by decide +kernel
theorem d_Mod_canSay_21 : decode b_Mod_canSay 21 = .ok (.ireturn, 1) := by decide +kernel
def m_Mod_canSay (x1 : Int) (m_owner : Int → Int) (m_block : Int → Int) (m_waits : Int → Int) : Option (Int) :=
  bnd (m_Mod_isHole x1 m_block m_waits) (fun r1 => ceq r1 0 (some (1)) (bnd (m_Mod_roomNow m_owner m_block m_waits) (fun r3 => clt r3 1 (some (0)) (some (1)))))
set_option maxHeartbeats 4000000 in
set_option maxRecDepth 100000 in
theorem c_Mod_canSay (l : Launch) (D : va_G) (cI cB : ClassId) (a0 a1 a2 a3 a4 a5 a6 a7 a8 a9 a10 a11 a12 a13 a14 a15 : Nat) (m_stepsMade : Int) (m_stepsMost : Int) (m_taped : Int) (m_reading : Int) (m_statements : Int) (m_telling : Int) (m_hasImage : Int) (m_isKeeping : Int) (m_cursor : Int) (m_rowMany : Int) (m_lots : Int) (m_refused : Int → Int) (m_bytes : Int → Int) (m_owner : Int → Int) (m_block : Int → Int) (m_written : Int → Int) (m_waits : Int → Int) (m_kinds : Int → Int) (m_tape : Int → Int) (m_sort : Int → Int) (m_sortAt : Int → Int) (m_told : Int → Int) (m_kept : Int → Int) (m_was : Int → Int) (m_ends : Int → Int) (m_row : Int → Int) (x1 : Int) {o : Int} (h : m_Mod_canSay x1 m_owner m_block m_waits = some o) : Ct l D cI cB y_Mod_canSay b_Mod_canSay 2 (some .boolean) { frames := 4, cells := 0, slots := 0, locals := 84 } [.ref a0, .int (zi x1)] (w_Mod cI cB a0 a1 a2 a3 a4 a5 a6 a7 a8 a9 a10 a11 a12 a13 a14 a15 m_stepsMade m_stepsMost m_taped m_reading m_statements m_telling m_hasImage m_isKeeping m_cursor m_rowMany m_lots m_refused m_bytes m_owner m_block m_written m_waits m_kinds m_tape m_sort m_sortAt m_told m_kept m_was m_ends m_row) (w_Mod cI cB a0 a1 a2 a3 a4 a5 a6 a7 a8 a9 a10 a11 a12 a13 a14 a15 m_stepsMade m_stepsMost m_taped m_reading m_statements m_telling m_hasImage m_isKeeping m_cursor m_rowMany m_lots m_refused m_bytes m_owner m_block m_written m_waits m_kinds m_tape m_sort m_sortAt m_told m_kept m_was m_ends m_row) (some (.int (zi o))) := by
  refine Ct.start (by decide) (Nat.le_of_ble_eq_true rfl) (fun G X hR => ?_)
  refine x_ls (ls2 := [(0, .ref a0), (1, .int (zi x1))]) [0, 1] rfl ?_
  unfold m_Mod_canSay at h
  refine x_aload_n (pc := 0) X d_Mod_canSay_0 0 rfl rfl ?_
  refine x_iload_n (pc := 1) X d_Mod_canSay_1 1 rfl rfl ?_
  obtain ⟨r1, h2, h⟩ := bnd_e h
  refine x_callV (pc := 2) (As := [.int (zi x1)]) (rest := []) (w2 := (w_Mod cI cB a0 a1 a2 a3 a4 a5 a6 a7 a8 a9 a10 a11 a12 a13 a14 a15 m_stepsMade m_stepsMost m_taped m_reading m_statements m_telling m_hasImage m_isKeeping m_cursor m_rowMany m_lots m_refused m_bytes m_owner m_block m_written m_waits m_kinds m_tape m_sort m_sortAt m_told m_kept m_was m_ends m_row)) X d_Mod_canSay_2 lk_Mod_159 mv_Mod_isHole (c_Mod_isHole l D cI cB a0 a1 a2 a3 a4 a5 a6 a7 a8 a9 a10 a11 a12 a13 a14 a15 m_stepsMade m_stepsMost m_taped m_reading m_statements m_telling m_hasImage m_isKeeping m_cursor m_rowMany m_lots m_refused m_bytes m_owner m_block m_written m_waits m_kinds m_tape m_sort m_sortAt m_told m_kept m_was m_ends m_row x1 h2) ⟨(Nat.le_of_ble_eq_true rfl), (Nat.le_of_ble_eq_true rfl), (Nat.le_of_ble_eq_true rfl), (Nat.le_of_ble_eq_true rfl)⟩ 0 rfl rfl [0, 1, 2, 3, 4, 5, 6, 7, 8, 9, 10, 11, 12, 13, 14, 15] rfl rfl rfl (Up.same rfl) rfl rfl (Nat.le_of_ble_eq_true rfl) ?_
  refine x_ifeq (pc := 5) (tgt := 16) X d_Mod_canSay_5 rfl h (fun h => ?_) (fun h => ?_)
  · skip
    refine x_iconst (pc := 16) X d_Mod_canSay_16  ?_
    refine x_goto (pc := 17) (tgt := 21) X d_Mod_canSay_17 rfl ?_
    cases h
    exact x_zret (pc := 21) X hR d_Mod_canSay_21 (Or.inr rfl)
  · skip
    refine x_aload_n (pc := 8) X d_Mod_canSay_8 0 rfl rfl ?_
    obtain ⟨r3, h4, h⟩ := bnd_e h
    refine x_callV (pc := 9) (As := []) (rest := []) (w2 := (w_Mod cI cB a0 a1 a2 a3 a4 a5 a6 a7 a8 a9 a10 a11 a12 a13 a14 a15 m_stepsMade m_stepsMost m_taped m_reading m_statements m_telling m_hasImage m_isKeeping m_cursor m_rowMany m_lots m_refused m_bytes m_owner m_block m_written m_waits m_kinds m_tape m_sort m_sortAt m_told m_kept m_was m_ends m_row)) X d_Mod_canSay_9 lk_Mod_162 mv_Mod_roomNow (c_Mod_roomNow l D cI cB a0 a1 a2 a3 a4 a5 a6 a7 a8 a9 a10 a11 a12 a13 a14 a15 m_stepsMade m_stepsMost m_taped m_reading m_statements m_telling m_hasImage m_isKeeping m_cursor m_rowMany m_lots m_refused m_bytes m_owner m_block m_written m_waits m_kinds m_tape m_sort m_sortAt m_told m_kept m_was m_ends m_row h4) ⟨(Nat.le_of_ble_eq_true rfl), (Nat.le_of_ble_eq_true rfl), (Nat.le_of_ble_eq_true rfl), (Nat.le_of_ble_eq_true rfl)⟩ 0 rfl rfl [0, 1, 2, 3, 4, 5, 6, 7, 8, 9, 10, 11, 12, 13, 14, 15] rfl rfl rfl (Up.same rfl) rfl rfl (Nat.le_of_ble_eq_true rfl) ?_
    refine x_iconst (pc := 12) X d_Mod_canSay_12  ?_
    refine x_icmplt (pc := 13) (tgt := 20) X d_Mod_canSay_13 rfl h (fun h => ?_) (fun h => ?_)
    · skip
      refine x_iconst (pc := 20) X d_Mod_canSay_20  ?_
      cases h
      exact x_zret (pc := 21) X hR d_Mod_canSay_21 (Or.inl rfl)
    · skip
      refine x_iconst (pc := 16) X d_Mod_canSay_16  ?_
      refine x_goto (pc := 17) (tgt := 21) X d_Mod_canSay_17 rfl ?_
      cases h
      exact x_zret (pc := 21) X hR d_Mod_canSay_21 (Or.inr rfl)
theorem d_Mod_saysAt_0 : decode b_Mod_saysAt 0 = .ok (.aload_n 0, 1) := by decide +kernel
theorem d_Mod_saysAt_1 : decode b_Mod_saysAt 1 = .ok (.getfield 25, 3) := by decide +kernel
theorem d_Mod_saysAt_4 : decode b_Mod_saysAt 4 = .ok (.iload_n 1, 1) := by decide +kernel
theorem d_Mod_saysAt_5 : decode b_Mod_saysAt 5 = .ok (.iload_n 2, 1) := by decide +kernel
theorem d_Mod_saysAt_6 : decode b_Mod_saysAt 6 = .ok (.iastore, 1) := by decide +kernel
theorem d_Mod_saysAt_7 : decode b_Mod_saysAt 7 = .ok (.return_, 1) := by decide +kernel
def m_Mod_saysAt (x1 : Int) (x2 : Int) (m_waits : Int → Int) : Option ((Int → Int)) :=
  gd (zx x1 96) (some ((uf m_waits x1 x2)))
set_option maxHeartbeats 4000000 in
set_option maxRecDepth 100000 in
theorem c_Mod_saysAt (l : Launch) (D : va_G) (cI cB : ClassId) (a0 a1 a2 a3 a4 a5 a6 a7 a8 a9 a10 a11 a12 a13 a14 a15 : Nat) (m_stepsMade : Int) (m_stepsMost : Int) (m_taped : Int) (m_reading : Int) (m_statements : Int) (m_telling : Int) (m_hasImage : Int) (m_isKeeping : Int) (m_cursor : Int) (m_rowMany : Int) (m_lots : Int) (m_refused : Int → Int) (m_bytes : Int → Int) (m_owner : Int → Int) (m_block : Int → Int) (m_written : Int → Int) (m_waits : Int → Int) (m_kinds : Int → Int) (m_tape : Int → Int) (m_sort : Int → Int) (m_sortAt : Int → Int) (m_told : Int → Int) (m_kept : Int → Int) (m_was : Int → Int) (m_ends : Int → Int) (m_row : Int → Int) (x1 : Int) (x2 : Int) {o : (Int → Int)} (h : m_Mod_saysAt x1 x2 m_waits = some o) : Ct l D cI cB y_Mod_saysAt b_Mod_saysAt 3 none { frames := 0, cells := 0, slots := 0, locals := 0 } [.ref a0, .int (zi x1), .int (zi x2)] (w_Mod cI cB a0 a1 a2 a3 a4 a5 a6 a7 a8 a9 a10 a11 a12 a13 a14 a15 m_stepsMade m_stepsMost m_taped m_reading m_statements m_telling m_hasImage m_isKeeping m_cursor m_rowMany m_lots m_refused m_bytes m_owner m_block m_written m_waits m_kinds m_tape m_sort m_sortAt m_told m_kept m_was m_ends m_row) (w_Mod cI cB a0 a1 a2 a3 a4 a5 a6 a7 a8 a9 a10 a11 a12 a13 a14 a15 m_stepsMade m_stepsMost m_taped m_reading m_statements m_telling m_hasImage m_isKeeping m_cursor m_rowMany m_lots m_refused m_bytes m_owner m_block m_written o m_kinds m_tape m_sort m_sortAt m_told m_kept m_was m_ends m_row) none := by
  refine Ct.start (by decide) (Nat.le_of_ble_eq_true rfl) (fun G X hR => ?_)
  refine x_ls (ls2 := [(0, .ref a0), (1, .int (zi x1)), (2, .int (zi x2))]) [0, 1, 2] rfl ?_
  unfold m_Mod_saysAt at h
  refine x_aload_n (pc := 0) X d_Mod_saysAt_0 0 rfl rfl ?_
  refine x_get (pc := 1) X d_Mod_saysAt_1 0 rfl fl_Mod_25 rfl ?_
  refine x_iload_n (pc := 4) X d_Mod_saysAt_4 1 rfl rfl ?_
  refine x_iload_n (pc := 5) X d_Mod_saysAt_5 2 rfl rfl ?_
  refine x_iast (pc := 6) (w2 := (w_Mod cI cB a0 a1 a2 a3 a4 a5 a6 a7 a8 a9 a10 a11 a12 a13 a14 a15 m_stepsMade m_stepsMost m_taped m_reading m_statements m_telling m_hasImage m_isKeeping m_cursor m_rowMany m_lots m_refused m_bytes m_owner m_block m_written (uf m_waits x1 x2) m_kinds m_tape m_sort m_sortAt m_told m_kept m_was m_ends m_row)) X d_Mod_saysAt_6 6 rfl (Nat.le_of_ble_eq_true rfl) rfl rfl h (fun h => ?_)
  cases h
  exact x_vret (pc := 7) X hR d_Mod_saysAt_7
theorem d_Mod_comesSaid_0 : decode b_Mod_comesSaid 0 = .ok (.iload_n 2, 1) := by decide +kernel
theorem d_Mod_comesSaid_1 : decode b_Mod_comesSaid 1 = .ok (.invokestatic 199, 3) := by decide +kernel
theorem d_Mod_comesSaid_4 : decode b_Mod_comesSaid 4 = .ok (.ifCond .eq 16, 3) := by decide +kernel
theorem d_Mod_comesSaid_7 : decode b_Mod_comesSaid 7 = .ok (.aload_n 0, 1) := by decide +kernel
theorem d_Mod_comesSaid_8 : decode b_Mod_comesSaid 8 = .ok (.bipush 24, 2) := by decide +kernel
theorem d_Mod_comesSaid_10 : decode b_Mod_comesSaid 10 = .ok (.iload_n 1, 1) := by decide +kernel
theorem d_Mod_comesSaid_11 : decode b_Mod_comesSaid 11 = .ok (.imul, 1) := by decide +kernel
theorem d_Mod_comesSaid_12 : decode b_Mod_comesSaid 12 = .ok (.iload_n 2, 1) := by decide +kernel
theorem d_Mod_comesSaid_13 : decode b_Mod_comesSaid 13 = .ok (.iadd, 1) := by decide +kernel
theorem d_Mod_comesSaid_14 : decode b_Mod_comesSaid 14 = .ok (.invokevirtual 202, 3) := by decide +kernel
theorem d_Mod_comesSaid_17 : decode b_Mod_comesSaid 17 = .ok (.ifCond .ne 5, 3) := by decide +kernel
theorem d_Mod_comesSaid_20 : decode b_Mod_comesSaid 20 = .ok (.iconst 0, 1) := by decide +kernel
theorem d_Mod_comesSaid_21 : decode b_Mod_comesSaid 21 = .ok (.ireturn, 1) := by decide +kernel
theorem d_Mod_comesSaid_22 : decode b_Mod_comesSaid 22 = .ok (.aload_n 0, 1) := by decide +kernel
theorem d_Mod_comesSaid_23 : decode b_Mod_comesSaid 23 = .ok (.bipush 24, 2) := by decide +kernel
theorem d_Mod_comesSaid_25 : decode b_Mod_comesSaid 25 = .ok (.iload_n 1, 1) := by decide +kernel
theorem d_Mod_comesSaid_26 : decode b_Mod_comesSaid 26 = .ok (.imul, 1) := by decide +kernel
theorem d_Mod_comesSaid_27 : decode b_Mod_comesSaid 27 = .ok (.iload_n 2, 1) := by decide +kernel
theorem d_Mod_comesSaid_28 : decode b_Mod_comesSaid 28 = .ok (.iadd, 1) := by decide +kernel
theorem d_Mod_comesSaid_29 : decode b_Mod_comesSaid 29 = .ok (.iload_n 3, 1) := by decide +kernel
theorem d_Mod_comesSaid_30 : decode b_Mod_comesSaid 30 = .ok (.invokevirtual 205, 3) := by decide +kernel
theorem d_Mod_comesSaid_33 : decode b_Mod_comesSaid 33 = .ok (.iconst 1, 1) := by decide +kernel
theorem d_Mod_comesSaid_34 : decode b_Mod_comesSaid 34 = .ok (.ireturn, 1) := by decide +kernel
def m_Mod_comesSaid (x1 : Int) (x2 : Int) (x3 : Int) (m_owner : Int → Int) (m_block : Int → Int) (m_waits : Int → Int) : Option (Int × (Int → Int)) :=
  bnd (m_Mod_isPage x2) (fun r1 => ceq r1 0 (some (0, m_waits)) (bnd (m_Mod_canSay ((24 * x1) + x2) m_owner m_block m_waits) (fun r3 => ceq r3 0 (some (0, m_waits)) (bnd (m_Mod_saysAt ((24 * x1) + x2) x3 m_waits) (fun r5 => some (1, r5))))))
set_option maxHeartbeats 4000000 in
set_option maxRecDepth 100000 in
theorem c_Mod_comesSaid (l : Launch) (D : va_G) (cI cB : ClassId) (a0 a1 a2 a3 a4 a5 a6 a7 a8 a9 a10 a11 a12 a13 a14 a15 : Nat) (m_stepsMade : Int) (m_stepsMost : Int) (m_taped : Int) (m_reading : Int) (m_statements : Int) (m_telling : Int) (m_hasImage : Int) (m_isKeeping : Int) (m_cursor : Int) (m_rowMany : Int) (m_lots : Int) (m_refused : Int → Int) (m_bytes : Int → Int) (m_owner : Int → Int) (m_block : Int → Int) (m_written : Int → Int) (m_waits : Int → Int) (m_kinds : Int → Int) (m_tape : Int → Int) (m_sort : Int → Int) (m_sortAt : Int → Int) (m_told : Int → Int) (m_kept : Int → Int) (m_was : Int → Int) (m_ends : Int → Int) (m_row : Int → Int) (x1 : Int) (x2 : Int) (x3 : Int) {o : Int × (Int → Int)} (h : m_Mod_comesSaid x1 x2 x3 m_owner m_block m_waits = some o) : Ct l D cI cB y_Mod_comesSaid b_Mod_comesSaid 4 (some .boolean) { frames := 5, cells := 0, slots := 0, locals := 105 } [.ref a0, .int (zi x1), .int (zi x2), .int (zi x3)] (w_Mod cI cB a0 a1 a2 a3 a4 a5 a6 a7 a8 a9 a10 a11 a12 a13 a14 a15 m_stepsMade m_stepsMost m_taped m_reading m_statements m_telling m_hasImage m_isKeeping m_cursor m_rowMany m_lots m_refused m_bytes m_owner m_block m_written m_waits m_kinds m_tape m_sort m_sortAt m_told m_kept m_was m_ends m_row) (w_Mod cI cB a0 a1 a2 a3 a4 a5 a6 a7 a8 a9 a10 a11 a12 a13 a14 a15 m_stepsMade m_stepsMost m_taped m_reading m_statements m_telling m_hasImage m_isKeeping m_cursor m_rowMany m_lots m_refused m_bytes m_owner m_block m_written o.2 m_kinds m_tape m_sort m_sortAt m_told m_kept m_was m_ends m_row) (some (.int (zi o.1))) := by
  refine Ct.start (by decide) (Nat.le_of_ble_eq_true rfl) (fun G X hR => ?_)
  refine x_ls (ls2 := [(0, .ref a0), (1, .int (zi x1)), (2, .int (zi x2)), (3, .int (zi x3))]) [0, 1, 2, 3] rfl ?_
  unfold m_Mod_comesSaid at h
  refine x_iload_n (pc := 0) X d_Mod_comesSaid_0 2 rfl rfl ?_
  obtain ⟨r1, h2, h⟩ := bnd_e h
  refine x_callS (pc := 1) (As := [.int (zi x2)]) (rest := []) (w2 := (w_Mod cI cB a0 a1 a2 a3 a4 a5 a6 a7 a8 a9 a10 a11 a12 a13 a14 a15 m_stepsMade m_stepsMost m_taped m_reading m_statements m_telling m_hasImage m_isKeeping m_cursor m_rowMany m_lots m_refused m_bytes m_owner m_block m_written m_waits m_kinds m_tape m_sort m_sortAt m_told m_kept m_was m_ends m_row)) X d_Mod_comesSaid_1 lk_Mod_199 mv_Mod_isPage (c_Mod_isPage l D cI cB x2 h2) ⟨(Nat.le_of_ble_eq_true rfl), (Nat.le_of_ble_eq_true rfl), (Nat.le_of_ble_eq_true rfl), (Nat.le_of_ble_eq_true rfl)⟩ [] rfl rfl rfl (Up.same rfl) rfl rfl (Nat.le_of_ble_eq_true rfl) ?_
  refine x_ifeq (pc := 4) (tgt := 20) X d_Mod_comesSaid_4 rfl h (fun h => ?_) (fun h => ?_)
  · skip
    refine x_iconst (pc := 20) X d_Mod_comesSaid_20  ?_
    cases h
    exact x_zret (pc := 21) X hR d_Mod_comesSaid_21 (Or.inl rfl)
  · skip
    refine x_aload_n (pc := 7) X d_Mod_comesSaid_7 0 rfl rfl ?_
    refine x_bipush (pc := 8) (v := 24) X d_Mod_comesSaid_8 rfl ?_
    refine x_iload_n (pc := 10) X d_Mod_comesSaid_10 1 rfl rfl ?_
    refine x_imul (pc := 11) X d_Mod_comesSaid_11  ?_
    refine x_iload_n (pc := 12) X d_Mod_comesSaid_12 2 rfl rfl ?_
    refine x_iadd (pc := 13) X d_Mod_comesSaid_13  ?_
    obtain ⟨r3, h4, h⟩ := bnd_e h
    refine x_callV (pc := 14) (As := [.int (zi ((24 * x1) + x2))]) (rest := []) (w2 := (w_Mod cI cB a0 a1 a2 a3 a4 a5 a6 a7 a8 a9 a10 a11 a12 a13 a14 a15 m_stepsMade m_stepsMost m_taped m_reading m_statements m_telling m_hasImage m_isKeeping m_cursor m_rowMany m_lots m_refused m_bytes m_owner m_block m_written m_waits m_kinds m_tape m_sort m_sortAt m_told m_kept m_was m_ends m_row)) X d_Mod_comesSaid_14 lk_Mod_202 mv_Mod_canSay (c_Mod_canSay l D cI cB a0 a1 a2 a3 a4 a5 a6 a7 a8 a9 a10 a11 a12 a13 a14 a15 m_stepsMade m_stepsMost m_taped m_reading m_statements m_telling m_hasImage m_isKeeping m_cursor m_rowMany m_lots m_refused m_bytes m_owner m_block m_written m_waits m_kinds m_tape m_sort m_sortAt m_told m_kept m_was m_ends m_row ((24 * x1) + x2) h4) ⟨(Nat.le_of_ble_eq_true rfl), (Nat.le_of_ble_eq_true rfl), (Nat.le_of_ble_eq_true rfl), (Nat.le_of_ble_eq_true rfl)⟩ 0 rfl rfl [0, 1, 2, 3, 4, 5, 6, 7, 8, 9, 10, 11, 12, 13, 14, 15] rfl rfl rfl (Up.same rfl) rfl rfl (Nat.le_of_ble_eq_true rfl) ?_
    refine x_ifne (pc := 17) (tgt := 22) X d_Mod_comesSaid_17 rfl h (fun h => ?_) (fun h => ?_)
    · skip
      refine x_aload_n (pc := 22) X d_Mod_comesSaid_22 0 rfl rfl ?_
      refine x_bipush (pc := 23) (v := 24) X d_Mod_comesSaid_23 rfl ?_
      refine x_iload_n (pc := 25) X d_Mod_comesSaid_25 1 rfl rfl ?_
      refine x_imul (pc := 26) X d_Mod_comesSaid_26  ?_
      refine x_iload_n (pc := 27) X d_Mod_comesSaid_27 2 rfl rfl ?_
      refine x_iadd (pc := 28) X d_Mod_comesSaid_28  ?_
      refine x_iload_n (pc := 29) X d_Mod_comesSaid_29 3 rfl rfl ?_
      obtain ⟨r5, h6, h⟩ := bnd_e h
      refine x_callV (pc := 30) (As := [.int (zi ((24 * x1) + x2)), .int (zi x3)]) (rest := []) (w2 := (w_Mod cI cB a0 a1 a2 a3 a4 a5 a6 a7 a8 a9 a10 a11 a12 a13 a14 a15 m_stepsMade m_stepsMost m_taped m_reading m_statements m_telling m_hasImage m_isKeeping m_cursor m_rowMany m_lots m_refused m_bytes m_owner m_block m_written r5 m_kinds m_tape m_sort m_sortAt m_told m_kept m_was m_ends m_row)) X d_Mod_comesSaid_30 lk_Mod_205 mv_Mod_saysAt (c_Mod_saysAt l D cI cB a0 a1 a2 a3 a4 a5 a6 a7 a8 a9 a10 a11 a12 a13 a14 a15 m_stepsMade m_stepsMost m_taped m_reading m_statements m_telling m_hasImage m_isKeeping m_cursor m_rowMany m_lots m_refused m_bytes m_owner m_block m_written m_waits m_kinds m_tape m_sort m_sortAt m_told m_kept m_was m_ends m_row ((24 * x1) + x2) x3 h6) ⟨(Nat.le_of_ble_eq_true rfl), (Nat.le_of_ble_eq_true rfl), (Nat.le_of_ble_eq_true rfl), (Nat.le_of_ble_eq_true rfl)⟩ 0 rfl rfl [0, 1, 2, 3, 4, 5, 6, 7, 8, 9, 10, 11, 12, 13, 14, 15] rfl rfl rfl (Up.of [] [] rfl rfl rfl 16 rfl (by decide +kernel)) rfl rfl (Nat.le_of_ble_eq_true rfl) ?_
      refine x_iconst (pc := 33) X d_Mod_comesSaid_33  ?_
      cases h
      exact x_zret (pc := 34) X hR d_Mod_comesSaid_34 (Or.inr rfl)
    · skip
      refine x_iconst (pc := 20) X d_Mod_comesSaid_20  ?_
      cases h
      exact x_zret (pc := 21) X hR d_Mod_comesSaid_21 (Or.inl rfl)
theorem d_Mod_placedOf_0 : decode b_Mod_placedOf 0 = .ok (.iconst 0, 1) := by decide +kernel
theorem d_Mod_placedOf_1 : decode b_Mod_placedOf 1 = .ok (.istore_n 2, 1) := by decide +kernel
theorem d_Mod_placedOf_2 : decode b_Mod_placedOf 2 = .ok (.iconst 0, 1) := by decide +kernel
theorem d_Mod_placedOf_3 : decode b_Mod_placedOf 3 = .ok (.istore_n 3, 1) := by decide +kernel
theorem d_Mod_placedOf_4 : decode b_Mod_placedOf 4 = .ok (.iload_n 3, 1) := by decide +kernel
theorem d_Mod_placedOf_5 : decode b_Mod_placedOf 5 = .ok (.bipush 24, 2) := by decide +kernel
theorem d_Mod_placedOf_7 : decode b_Mod_placedOf 7 = .ok (.if_icmp .ge 30, 3) := by decide +kernel
theorem d_Mod_placedOf_10 : decode b_Mod_placedOf 10 = .ok (.iload_n 2, 1) := by decide +kernel
theorem d_Mod_placedOf_11 : decode b_Mod_placedOf 11 = .ok (.aload_n 0, 1) := by decide +kernel
theorem d_Mod_placedOf_12 : decode b_Mod_placedOf 12 = .ok (.bipush 24, 2) := by decide +kernel
theorem d_Mod_placedOf_14 : decode b_Mod_placedOf 14 = .ok (.iload_n 1, 1) := by decide +kernel
theorem d_Mod_placedOf_15 : decode b_Mod_placedOf 15 = .ok (.imul, 1) := by decide +kernel
theorem d_Mod_placedOf_16 : decode b_Mod_placedOf 16 = .ok (.iload_n 3, 1) := by decide +kernel
theorem d_Mod_placedOf_17 : decode b_Mod_placedOf 17 = .ok (.iadd, 1) := by decide +kernel
theorem d_Mod_placedOf_18 : decode b_Mod_placedOf 18 = .ok (.invokevirtual 62, 3) := by decide +kernel
theorem d_Mod_placedOf_21 : decode b_Mod_placedOf 21 = .ok (.ifCond .eq 7, 3) := by decide +kernel
theorem d_Mod_placedOf_24 : decode b_Mod_placedOf 24 = .ok (.iconst 1, 1) := by decide +kernel
theorem d_Mod_placedOf_25 : decode b_Mod_placedOf 25 = .ok (.goto 4, 3) := by decide +kernel
theorem d_Mod_placedOf_28 : decode b_Mod_placedOf 28 = .ok (.iconst 0, 1) := by decide +kernel
theorem d_Mod_placedOf_29 : decode b_Mod_placedOf 29 = .ok (.iadd, 1) := by decide +kernel
theorem d_Mod_placedOf_30 : decode b_Mod_placedOf 30 = .ok (.istore_n 2, 1) := by decide +kernel
theorem d_Mod_placedOf_31 : decode b_Mod_placedOf 31 = .ok (.iinc 3 1, 3) := by decide +kernel
theorem d_Mod_placedOf_34 : decode b_Mod_placedOf 34 = .ok (.goto (-30), 3) := by decide +kernel
theorem d_Mod_placedOf_37 : decode b_Mod_placedOf 37 = .ok (.iload_n 2, 1) := by decide +kernel
theorem d_Mod_placedOf_38 : decode b_Mod_placedOf 38 = .ok (.ireturn, 1) := by decide +kernel
def m_Mod_placedOf_4 : Nat → Int → Int → Int → (Int → Int) → Option (Int)
  | 0, _, _, _, _ => none
  | fuel + 1, v1, v2, v3, m_block =>
  clt v3 24 (bnd (m_Mod_isPlaced ((24 * v1) + v3) m_block) (fun r1 => ceq r1 0 (m_Mod_placedOf_4 fuel v1 (v2 + 0) (v3 + 1) m_block) (m_Mod_placedOf_4 fuel v1 (v2 + 1) (v3 + 1) m_block))) (some (v2))
def m_Mod_placedOf (x1 : Int) (m_block : Int → Int) : Option (Int) :=
  m_Mod_placedOf_4 5000 x1 0 0 m_block
set_option maxHeartbeats 4000000 in
set_option maxRecDepth 100000 in
theorem l_Mod_placedOf_4 {G : GT} {l : Launch} {D : va_G} {cI cB : ClassId} {a0 a1 a2 a3 a4 a5 a6 a7 a8 a9 a10 a11 a12 a13 a14 a15 : Nat} {m_stepsMade : Int} {m_stepsMost : Int} {m_taped : Int} {m_reading : Int} {m_statements : Int} {m_telling : Int} {m_hasImage : Int} {m_isKeeping : Int} {m_cursor : Int} {m_rowMany : Int} {m_lots : Int} {m_refused : Int → Int} {m_bytes : Int → Int} {m_owner : Int → Int} {m_written : Int → Int} {m_waits : Int → Int} {m_kinds : Int → Int} {m_tape : Int → Int} {m_sort : Int → Int} {m_sortAt : Int → Int} {m_told : Int → Int} {m_kept : Int → Int} {m_was : Int → Int} {m_ends : Int → Int} {m_row : Int → Int} (X : Cx G l D cI cB b_Mod_placedOf y_Mod_placedOf.cls 4 { frames := 1, cells := 0, slots := 0, locals := 21 }) : ∀ (fuel : Nat) (v1 : Int) (v2 : Int) (v3 : Int) (m_block : Int → Int) (o : Int), m_Mod_placedOf_4 fuel v1 v2 v3 m_block = some o → Rt G (some .int) (some (.int (zi o))) (w_Mod cI cB a0 a1 a2 a3 a4 a5 a6 a7 a8 a9 a10 a11 a12 a13 a14 a15 m_stepsMade m_stepsMost m_taped m_reading m_statements m_telling m_hasImage m_isKeeping m_cursor m_rowMany m_lots m_refused m_bytes m_owner m_block m_written m_waits m_kinds m_tape m_sort m_sortAt m_told m_kept m_was m_ends m_row) → Wx G 0 0 4 [(0, .ref a0), (1, .int (zi v1)), (2, .int (zi v2)), (3, .int (zi v3))] [] (w_Mod cI cB a0 a1 a2 a3 a4 a5 a6 a7 a8 a9 a10 a11 a12 a13 a14 a15 m_stepsMade m_stepsMost m_taped m_reading m_statements m_telling m_hasImage m_isKeeping m_cursor m_rowMany m_lots m_refused m_bytes m_owner m_block m_written m_waits m_kinds m_tape m_sort m_sortAt m_told m_kept m_was m_ends m_row) := by
  intro fuel
  induction fuel with
  | zero =>
    intro v1 v2 v3 m_block o h
    exact absurd h (by simp [m_Mod_placedOf_4])
  | succ fuel ih =>
    intro v1 v2 v3 m_block o h hR
    rw [m_Mod_placedOf_4] at h
    refine x_iload_n (pc := 4) X d_Mod_placedOf_4 3 rfl rfl ?_
    refine x_bipush (pc := 5) (v := 24) X d_Mod_placedOf_5 rfl ?_
    refine x_icmpge (pc := 7) (tgt := 37) X d_Mod_placedOf_7 rfl h (fun h => ?_) (fun h => ?_)
    · skip
      refine x_iload_n (pc := 37) X d_Mod_placedOf_37 2 rfl rfl ?_
      cases h
      exact x_iret (pc := 38) X hR d_Mod_placedOf_38
    · skip
      refine x_iload_n (pc := 10) X d_Mod_placedOf_10 2 rfl rfl ?_
      refine x_aload_n (pc := 11) X d_Mod_placedOf_11 0 rfl rfl ?_
      refine x_bipush (pc := 12) (v := 24) X d_Mod_placedOf_12 rfl ?_
      refine x_iload_n (pc := 14) X d_Mod_placedOf_14 1 rfl rfl ?_
      refine x_imul (pc := 15) X d_Mod_placedOf_15  ?_
      refine x_iload_n (pc := 16) X d_Mod_placedOf_16 3 rfl rfl ?_
      refine x_iadd (pc := 17) X d_Mod_placedOf_17  ?_
      obtain ⟨r1, h2, h⟩ := bnd_e h
      refine x_callV (pc := 18) (As := [.int (zi ((24 * v1) + v3))]) (rest := [.int (zi v2)]) (w2 := (w_Mod cI cB a0 a1 a2 a3 a4 a5 a6 a7 a8 a9 a10 a11 a12 a13 a14 a15 m_stepsMade m_stepsMost m_taped m_reading m_statements m_telling m_hasImage m_isKeeping m_cursor m_rowMany m_lots m_refused m_bytes m_owner m_block m_written m_waits m_kinds m_tape m_sort m_sortAt m_told m_kept m_was m_ends m_row)) X d_Mod_placedOf_18 lk_Mod_62 mv_Mod_isPlaced (c_Mod_isPlaced l D cI cB a0 a1 a2 a3 a4 a5 a6 a7 a8 a9 a10 a11 a12 a13 a14 a15 m_stepsMade m_stepsMost m_taped m_reading m_statements m_telling m_hasImage m_isKeeping m_cursor m_rowMany m_lots m_refused m_bytes m_owner m_block m_written m_waits m_kinds m_tape m_sort m_sortAt m_told m_kept m_was m_ends m_row ((24 * v1) + v3) h2) ⟨(Nat.le_of_ble_eq_true rfl), (Nat.le_of_ble_eq_true rfl), (Nat.le_of_ble_eq_true rfl), (Nat.le_of_ble_eq_true rfl)⟩ 0 rfl rfl [0, 1, 2, 3, 4, 5, 6, 7, 8, 9, 10, 11, 12, 13, 14, 15] rfl rfl rfl (Up.same rfl) rfl rfl (Nat.le_of_ble_eq_true rfl) ?_
      refine x_ifeq (pc := 21) (tgt := 28) X d_Mod_placedOf_21 rfl h (fun h => ?_) (fun h => ?_)
      · skip
        refine x_iconst (pc := 28) X d_Mod_placedOf_28  ?_
        refine x_iadd (pc := 29) X d_Mod_placedOf_29  ?_
        refine x_istore_n (pc := 30) (ls2 := [(2, .int (zi (v2 + 0))), (0, .ref a0), (1, .int (zi v1)), (3, .int (zi v3))]) X d_Mod_placedOf_30 rfl (Nat.le_of_ble_eq_true rfl) rfl ?_
        refine x_iinc (pc := 31) (ls2 := [(3, .int (zi (v3 + 1))), (2, .int (zi (v2 + 0))), (0, .ref a0), (1, .int (zi v1))]) X d_Mod_placedOf_31 3 (Nat.le_of_ble_eq_true rfl) rfl rfl ?_
        refine x_goto (pc := 34) (tgt := 4) X d_Mod_placedOf_34 rfl ?_
        refine x_ls (ls2 := [(0, .ref a0), (1, .int (zi v1)), (2, .int (zi (v2 + 0))), (3, .int (zi (v3 + 1)))]) [2, 3, 1, 0] rfl ?_
        exact ih v1 (v2 + 0) (v3 + 1) m_block o h hR
      · skip
        refine x_iconst (pc := 24) X d_Mod_placedOf_24  ?_
        refine x_goto (pc := 25) (tgt := 29) X d_Mod_placedOf_25 rfl ?_
        refine x_iadd (pc := 29) X d_Mod_placedOf_29  ?_
        refine x_istore_n (pc := 30) (ls2 := [(2, .int (zi (v2 + 1))), (0, .ref a0), (1, .int (zi v1)), (3, .int (zi v3))]) X d_Mod_placedOf_30 rfl (Nat.le_of_ble_eq_true rfl) rfl ?_
        refine x_iinc (pc := 31) (ls2 := [(3, .int (zi (v3 + 1))), (2, .int (zi (v2 + 1))), (0, .ref a0), (1, .int (zi v1))]) X d_Mod_placedOf_31 3 (Nat.le_of_ble_eq_true rfl) rfl rfl ?_
        refine x_goto (pc := 34) (tgt := 4) X d_Mod_placedOf_34 rfl ?_
        refine x_ls (ls2 := [(0, .ref a0), (1, .int (zi v1)), (2, .int (zi (v2 + 1))), (3, .int (zi (v3 + 1)))]) [2, 3, 1, 0] rfl ?_
        exact ih v1 (v2 + 1) (v3 + 1) m_block o h hR
set_option maxHeartbeats 4000000 in
set_option maxRecDepth 100000 in
theorem c_Mod_placedOf (l : Launch) (D : va_G) (cI cB : ClassId) (a0 a1 a2 a3 a4 a5 a6 a7 a8 a9 a10 a11 a12 a13 a14 a15 : Nat) (m_stepsMade : Int) (m_stepsMost : Int) (m_taped : Int) (m_reading : Int) (m_statements : Int) (m_telling : Int) (m_hasImage : Int) (m_isKeeping : Int) (m_cursor : Int) (m_rowMany : Int) (m_lots : Int) (m_refused : Int → Int) (m_bytes : Int → Int) (m_owner : Int → Int) (m_block : Int → Int) (m_written : Int → Int) (m_waits : Int → Int) (m_kinds : Int → Int) (m_tape : Int → Int) (m_sort : Int → Int) (m_sortAt : Int → Int) (m_told : Int → Int) (m_kept : Int → Int) (m_was : Int → Int) (m_ends : Int → Int) (m_row : Int → Int) (x1 : Int) {o : Int} (h : m_Mod_placedOf x1 m_block = some o) : Ct l D cI cB y_Mod_placedOf b_Mod_placedOf 4 (some .int) { frames := 1, cells := 0, slots := 0, locals := 21 } [.ref a0, .int (zi x1)] (w_Mod cI cB a0 a1 a2 a3 a4 a5 a6 a7 a8 a9 a10 a11 a12 a13 a14 a15 m_stepsMade m_stepsMost m_taped m_reading m_statements m_telling m_hasImage m_isKeeping m_cursor m_rowMany m_lots m_refused m_bytes m_owner m_block m_written m_waits m_kinds m_tape m_sort m_sortAt m_told m_kept m_was m_ends m_row) (w_Mod cI cB a0 a1 a2 a3 a4 a5 a6 a7 a8 a9 a10 a11 a12 a13 a14 a15 m_stepsMade m_stepsMost m_taped m_reading m_statements m_telling m_hasImage m_isKeeping m_cursor m_rowMany m_lots m_refused m_bytes m_owner m_block m_written m_waits m_kinds m_tape m_sort m_sortAt m_told m_kept m_was m_ends m_row) (some (.int (zi o))) := by
  refine Ct.start (by decide) (Nat.le_of_ble_eq_true rfl) (fun G X hR => ?_)
  refine x_ls (ls2 := [(0, .ref a0), (1, .int (zi x1))]) [0, 1] rfl ?_
  unfold m_Mod_placedOf at h
  refine x_iconst (pc := 0) X d_Mod_placedOf_0  ?_
  refine x_istore_n (pc := 1) (ls2 := [(2, .int (zi 0)), (0, .ref a0), (1, .int (zi x1))]) X d_Mod_placedOf_1 rfl (Nat.le_of_ble_eq_true rfl) rfl ?_
  refine x_iconst (pc := 2) X d_Mod_placedOf_2  ?_
  refine x_istore_n (pc := 3) (ls2 := [(3, .int (zi 0)), (2, .int (zi 0)), (0, .ref a0), (1, .int (zi x1))]) X d_Mod_placedOf_3 rfl (Nat.le_of_ble_eq_true rfl) rfl ?_
  refine x_ls (ls2 := [(0, .ref a0), (1, .int (zi x1)), (2, .int (zi 0)), (3, .int (zi 0))]) [2, 3, 1, 0] rfl ?_
  exact l_Mod_placedOf_4 X 5000 x1 0 0 m_block o h hR
theorem d_Mod_canSettle_0 : decode b_Mod_canSettle 0 = .ok (.aload_n 0, 1) := by decide +kernel
theorem d_Mod_canSettle_1 : decode b_Mod_canSettle 1 = .ok (.iload_n 1, 1) := by decide +kernel
theorem d_Mod_canSettle_2 : decode b_Mod_canSettle 2 = .ok (.invokevirtual 156, 3) := by decide +kernel
theorem d_Mod_canSettle_5 : decode b_Mod_canSettle 5 = .ok (.ifCond .le 19, 3) := by decide +kernel
theorem d_Mod_canSettle_8 : decode b_Mod_canSettle 8 = .ok (.aload_n 0, 1) := by decide +kernel
theorem d_Mod_canSettle_9 : decode b_Mod_canSettle 9 = .ok (.aload_n 0, 1) := by decide +kernel
theorem d_Mod_canSettle_10 : decode b_Mod_canSettle 10 = .ok (.iload_n 1, 1) := by decide +kernel
theorem d_Mod_canSettle_11 : decode b_Mod_canSettle 11 = .ok (.invokevirtual 156, 3) := by decide +kernel
theorem d_Mod_canSettle_14 : decode b_Mod_canSettle 14 = .ok (.invokevirtual 106, 3) := by decide +kernel
theorem d_Mod_canSettle_17 : decode b_Mod_canSettle 17 = .ok (.ifCond .lt 7, 3) := by decide +kernel
theorem d_Mod_canSettle_20 : decode b_Mod_canSettle 20 = .ok (.iconst 1, 1) := by decide +kernel
theorem d_Mod_canSettle_21 : decode b_Mod_canSettle 21 = .ok (.goto 4, 3) := by decide +kernel
theorem d_Mod_canSettle_24 : decode b_Mod_canSettle 24 = .ok (.iconst 0, 1) := by decide +kernel
theorem d_Mod_canSettle_25 : decode b_Mod_canSettle 25 = .ok (.ireturn, 1) := by decide +kernel
def m_Mod_canSettle (x1 : Int) (m_owner : Int → Int) (m_block : Int → Int) : Option (Int) :=
  bnd (m_Mod_placedOf x1 m_block) (fun r1 => cle r1 0 (some (0)) (bnd (m_Mod_placedOf x1 m_block) (fun r3 => bnd (m_Mod_fitOf r3 m_owner) (fun r5 => clt r5 0 (some (0)) (some (1))))))
set_option maxHeartbeats 4000000 in
set_option maxRecDepth 100000 in
theorem c_Mod_canSettle (l : Launch) (D : va_G) (cI cB : ClassId) (a0 a1 a2 a3 a4 a5 a6 a7 a8 a9 a10 a11 a12 a13 a14 a15 : Nat) (m_stepsMade : Int) (m_stepsMost : Int) (m_taped : Int) (m_reading : Int) (m_statements : Int) (m_telling : Int) (m_hasImage : Int) (m_isKeeping : Int) (m_cursor : Int) (m_rowMany : Int) (m_lots : Int) (m_refused : Int → Int) (m_bytes : Int → Int) (m_owner : Int → Int) (m_block : Int → Int) (m_written : Int → Int) (m_waits : Int → Int) (m_kinds : Int → Int) (m_tape : Int → Int) (m_sort : Int → Int) (m_sortAt : Int → Int) (m_told : Int → Int) (m_kept : Int → Int) (m_was : Int → Int) (m_ends : Int → Int) (m_row : Int → Int) (x1 : Int) {o : Int} (h : m_Mod_canSettle x1 m_owner m_block = some o) : Ct l D cI cB y_Mod_canSettle b_Mod_canSettle 2 (some .boolean) { frames := 2, cells := 0, slots := 0, locals := 45 } [.ref a0, .int (zi x1)] (w_Mod cI cB a0 a1 a2 a3 a4 a5 a6 a7 a8 a9 a10 a11 a12 a13 a14 a15 m_stepsMade m_stepsMost m_taped m_reading m_statements m_telling m_hasImage m_isKeeping m_cursor m_rowMany m_lots m_refused m_bytes m_owner m_block m_written m_waits m_kinds m_tape m_sort m_sortAt m_told m_kept m_was m_ends m_row) (w_Mod cI cB a0 a1 a2 a3 a4 a5 a6 a7 a8 a9 a10 a11 a12 a13 a14 a15 m_stepsMade m_stepsMost m_taped m_reading m_statements m_telling m_hasImage m_isKeeping m_cursor m_rowMany m_lots m_refused m_bytes m_owner m_block m_written m_waits m_kinds m_tape m_sort m_sortAt m_told m_kept m_was m_ends m_row) (some (.int (zi o))) := by
  refine Ct.start (by decide) (Nat.le_of_ble_eq_true rfl) (fun G X hR => ?_)
  refine x_ls (ls2 := [(0, .ref a0), (1, .int (zi x1))]) [0, 1] rfl ?_
  unfold m_Mod_canSettle at h
  refine x_aload_n (pc := 0) X d_Mod_canSettle_0 0 rfl rfl ?_
  refine x_iload_n (pc := 1) X d_Mod_canSettle_1 1 rfl rfl ?_
  obtain ⟨r1, h2, h⟩ := bnd_e h
  refine x_callV (pc := 2) (As := [.int (zi x1)]) (rest := []) (w2 := (w_Mod cI cB a0 a1 a2 a3 a4 a5 a6 a7 a8 a9 a10 a11 a12 a13 a14 a15 m_stepsMade m_stepsMost m_taped m_reading m_statements m_telling m_hasImage m_isKeeping m_cursor m_rowMany m_lots m_refused m_bytes m_owner m_block m_written m_waits m_kinds m_tape m_sort m_sortAt m_told m_kept m_was m_ends m_row)) X d_Mod_canSettle_2 lk_Mod_156 mv_Mod_placedOf (c_Mod_placedOf l D cI cB a0 a1 a2 a3 a4 a5 a6 a7 a8 a9 a10 a11 a12 a13 a14 a15 m_stepsMade m_stepsMost m_taped m_reading m_statements m_telling m_hasImage m_isKeeping m_cursor m_rowMany m_lots m_refused m_bytes m_owner m_block m_written m_waits m_kinds m_tape m_sort m_sortAt m_told m_kept m_was m_ends m_row x1 h2) ⟨(Nat.le_of_ble_eq_true rfl), (Nat.le_of_ble_eq_true rfl), (Nat.le_of_ble_eq_true rfl), (Nat.le_of_ble_eq_true rfl)⟩ 0 rfl rfl [0, 1, 2, 3, 4, 5, 6, 7, 8, 9, 10, 11, 12, 13, 14, 15] rfl rfl rfl (Up.same rfl) rfl rfl (Nat.le_of_ble_eq_true rfl) ?_
  refine x_ifle (pc := 5) (tgt := 24) X d_Mod_canSettle_5 rfl h (fun h => ?_) (fun h => ?_)
  · skip
    refine x_iconst (pc := 24) X d_Mod_canSettle_24  ?_
    cases h
    exact x_zret (pc := 25) X hR d_Mod_canSettle_25 (Or.inl rfl)
  · skip
    refine x_aload_n (pc := 8) X d_Mod_canSettle_8 0 rfl rfl ?_
    refine x_aload_n (pc := 9) X d_Mod_canSettle_9 0 rfl rfl ?_
    refine x_iload_n (pc := 10) X d_Mod_canSettle_10 1 rfl rfl ?_
    obtain ⟨r3, h4, h⟩ := bnd_e h
    refine x_callV (pc := 11) (As := [.int (zi x1)]) (rest := [.ref a0]) (w2 := (w_Mod cI cB a0 a1 a2 a3 a4 a5 a6 a7 a8 a9 a10 a11 a12 a13 a14 a15 m_stepsMade m_stepsMost m_taped m_reading m_statements m_telling m_hasImage m_isKeeping m_cursor m_rowMany m_lots m_refused m_bytes m_owner m_block m_written m_waits m_kinds m_tape m_sort m_sortAt m_told m_kept m_was m_ends m_row)) X d_Mod_canSettle_11 lk_Mod_156 mv_Mod_placedOf (c_Mod_placedOf l D cI cB a0 a1 a2 a3 a4 a5 a6 a7 a8 a9 a10 a11 a12 a13 a14 a15 m_stepsMade m_stepsMost m_taped m_reading m_statements m_telling m_hasImage m_isKeeping m_cursor m_rowMany m_lots m_refused m_bytes m_owner m_block m_written m_waits m_kinds m_tape m_sort m_sortAt m_told m_kept m_was m_ends m_row x1 h4) ⟨(Nat.le_of_ble_eq_true rfl), (Nat.le_of_ble_eq_true rfl), (Nat.le_of_ble_eq_true rfl), (Nat.le_of_ble_eq_true rfl)⟩ 0 rfl rfl [0, 1, 2, 3, 4, 5, 6, 7, 8, 9, 10, 11, 12, 13, 14, 15] rfl rfl rfl (Up.same rfl) rfl rfl (Nat.le_of_ble_eq_true rfl) ?_
    obtain ⟨r5, h6, h⟩ := bnd_e h
    refine x_callV (pc := 14) (As := [.int (zi r3)]) (rest := []) (w2 := (w_Mod cI cB a0 a1 a2 a3 a4 a5 a6 a7 a8 a9 a10 a11 a12 a13 a14 a15 m_stepsMade m_stepsMost m_taped m_reading m_statements m_telling m_hasImage m_isKeeping m_cursor m_rowMany m_lots m_refused m_bytes m_owner m_block m_written m_waits m_kinds m_tape m_sort m_sortAt m_told m_kept m_was m_ends m_row)) X d_Mod_canSettle_14 lk_Mod_106 mv_Mod_fitOf (c_Mod_fitOf l D cI cB a0 a1 a2 a3 a4 a5 a6 a7 a8 a9 a10 a11 a12 a13 a14 a15 m_stepsMade m_stepsMost m_taped m_reading m_statements m_telling m_hasImage m_isKeeping m_cursor m_rowMany m_lots m_refused m_bytes m_owner m_block m_written m_waits m_kinds m_tape m_sort m_sortAt m_told m_kept m_was m_ends m_row r3 h6) ⟨(Nat.le_of_ble_eq_true rfl), (Nat.le_of_ble_eq_true rfl), (Nat.le_of_ble_eq_true rfl), (Nat.le_of_ble_eq_true rfl)⟩ 0 rfl rfl [0, 1, 2, 3, 4, 5, 6, 7, 8, 9, 10, 11, 12, 13, 14, 15] rfl rfl rfl (Up.same rfl) rfl rfl (Nat.le_of_ble_eq_true rfl) ?_
    refine x_iflt (pc := 17) (tgt := 24) X d_Mod_canSettle_17 rfl h (fun h => ?_) (fun h => ?_)
    · skip
      refine x_iconst (pc := 24) X d_Mod_canSettle_24  ?_
      cases h
      exact x_zret (pc := 25) X hR d_Mod_canSettle_25 (Or.inl rfl)
    · skip
      refine x_iconst (pc := 20) X d_Mod_canSettle_20  ?_
      refine x_goto (pc := 21) (tgt := 25) X d_Mod_canSettle_21 rfl ?_
      cases h
      exact x_zret (pc := 25) X hR d_Mod_canSettle_25 (Or.inr rfl)
theorem d_Mod_settles_0 : decode b_Mod_settles 0 = .ok (.aload_n 0, 1) := by decide +kernel
theorem d_Mod_settles_1 : decode b_Mod_settles 1 = .ok (.aload_n 0, 1) := by decide +kernel
theorem d_Mod_settles_2 : decode b_Mod_settles 2 = .ok (.iload_n 1, 1) := by decide +kernel
theorem d_Mod_settles_3 : decode b_Mod_settles 3 = .ok (.invokevirtual 156, 3) := by decide +kernel
theorem d_Mod_settles_6 : decode b_Mod_settles 6 = .ok (.invokevirtual 106, 3) := by decide +kernel
theorem d_Mod_settles_9 : decode b_Mod_settles 9 = .ok (.istore_n 2, 1) := by decide +kernel
theorem d_Mod_settles_10 : decode b_Mod_settles 10 = .ok (.iload_n 2, 1) := by decide +kernel
theorem d_Mod_settles_11 : decode b_Mod_settles 11 = .ok (.istore_n 3, 1) := by decide +kernel
theorem d_Mod_settles_12 : decode b_Mod_settles 12 = .ok (.bipush 24, 2) := by decide +kernel
theorem d_Mod_settles_14 : decode b_Mod_settles 14 = .ok (.iload_n 1, 1) := by decide +kernel
theorem d_Mod_settles_15 : decode b_Mod_settles 15 = .ok (.imul, 1) := by decide +kernel
theorem d_Mod_settles_16 : decode b_Mod_settles 16 = .ok (.istore 4, 2) := by decide +kernel
theorem d_Mod_settles_18 : decode b_Mod_settles 18 = .ok (.iload 4, 2) := by decide +kernel
theorem d_Mod_settles_20 : decode b_Mod_settles 20 = .ok (.bipush 24, 2) := by decide +kernel
theorem d_Mod_settles_22 : decode b_Mod_settles 22 = .ok (.iload_n 1, 1) := by decide +kernel
theorem d_Mod_settles_23 : decode b_Mod_settles 23 = .ok (.imul, 1) := by decide +kernel
theorem d_Mod_settles_24 : decode b_Mod_settles 24 = .ok (.bipush 24, 2) := by decide +kernel
theorem d_Mod_settles_26 : decode b_Mod_settles 26 = .ok (.iadd, 1) := by decide +kernel
theorem d_Mod_settles_27 : decode b_Mod_settles 27 = .ok (.if_icmp .ge 72, 3) := by decide +kernel
theorem d_Mod_settles_30 : decode b_Mod_settles 30 = .ok (.aload_n 0, 1) := by decide +kernel
theorem d_Mod_settles_31 : decode b_Mod_settles 31 = .ok (.iload 4, 2) := by decide +kernel
theorem d_Mod_settles_33 : decode b_Mod_settles 33 = .ok (.invokevirtual 62, 3) := by decide +kernel
theorem d_Mod_settles_36 : decode b_Mod_settles 36 = .ok (.ifCond .ne 6, 3) := by decide +kernel
theorem d_Mod_settles_39 : decode b_Mod_settles 39 = .ok (.goto 54, 3) := by decide +kernel
theorem d_Mod_settles_42 : decode b_Mod_settles 42 = .ok (.aload_n 0, 1) := by decide +kernel
theorem d_Mod_settles_43 : decode b_Mod_settles 43 = .ok (.getfield 13, 3) := by decide +kernel
theorem d_Mod_settles_46 : decode b_Mod_settles 46 = .ok (.iload_n 2, 1) := by decide +kernel
theorem d_Mod_settles_47 : decode b_Mod_settles 47 = .ok (.aload_n 0, 1) := by decide +kernel
theorem d_Mod_settles_48 : decode b_Mod_settles 48 = .ok (.getfield 13, 3) := by decide +kernel
theorem d_Mod_settles_51 : decode b_Mod_settles 51 = .ok (.aload_n 0, 1) := by decide +kernel
theorem d_Mod_settles_52 : decode b_Mod_settles 52 = .ok (.getfield 19, 3) := by decide +kernel
theorem d_Mod_settles_55 : decode b_Mod_settles 55 = .ok (.iload 4, 2) := by decide +kernel
theorem d_Mod_settles_57 : decode b_Mod_settles 57 = .ok (.iaload, 1) := by decide +kernel
theorem d_Mod_settles_58 : decode b_Mod_settles 58 = .ok (.iaload, 1) := by decide +kernel
theorem d_Mod_settles_59 : decode b_Mod_settles 59 = .ok (.iastore, 1) := by decide +kernel
theorem d_Mod_settles_60 : decode b_Mod_settles 60 = .ok (.aload_n 0, 1) := by decide +kernel
theorem d_Mod_settles_61 : decode b_Mod_settles 61 = .ok (.getfield 16, 3) := by decide +kernel
theorem d_Mod_settles_64 : decode b_Mod_settles 64 = .ok (.iload_n 2, 1) := by decide +kernel
theorem d_Mod_settles_65 : decode b_Mod_settles 65 = .ok (.iload 4, 2) := by decide +kernel
theorem d_Mod_settles_67 : decode b_Mod_settles 67 = .ok (.iastore, 1) := by decide +kernel
theorem d_Mod_settles_68 : decode b_Mod_settles 68 = .ok (.aload_n 0, 1) := by decide +kernel
theorem d_Mod_settles_69 : decode b_Mod_settles 69 = .ok (.getfield 16, 3) := by decide +kernel
theorem d_Mod_settles_72 : decode b_Mod_settles 72 = .ok (.aload_n 0, 1) := by decide +kernel
theorem d_Mod_settles_73 : decode b_Mod_settles 73 = .ok (.getfield 19, 3) := by decide +kernel
theorem d_Mod_settles_76 : decode b_Mod_settles 76 = .ok (.iload 4, 2) := by decide +kernel
theorem d_Mod_settles_78 : decode b_Mod_settles 78 = .ok (.iaload, 1) := by decide +kernel
theorem d_Mod_settles_79 : decode b_Mod_settles 79 = .ok (.bipush (-9), 2) := by decide +kernel
theorem d_Mod_settles_81 : decode b_Mod_settles 81 = .ok (.iastore, 1) := by decide +kernel
theorem d_Mod_settles_82 : decode b_Mod_settles 82 = .ok (.aload_n 0, 1) := by decide +kernel
theorem d_Mod_settles_83 : decode b_Mod_settles 83 = .ok (.getfield 19, 3) := by decide +kernel
theorem d_Mod_settles_86 : decode b_Mod_settles 86 = .ok (.iload 4, 2) := by decide +kernel
theorem d_Mod_settles_88 : decode b_Mod_settles 88 = .ok (.iload_n 2, 1) := by decide +kernel
theorem d_Mod_settles_89 : decode b_Mod_settles 89 = .ok (.iastore, 1) := by decide +kernel
theorem d_Mod_settles_90 : decode b_Mod_settles 90 = .ok (.iinc 2 1, 3) := by decide +kernel
theorem d_Mod_settles_93 : decode b_Mod_settles 93 = .ok (.iinc 4 1, 3) := by decide +kernel
theorem d_Mod_settles_96 : decode b_Mod_settles 96 = .ok (.goto (-78), 3) := by decide +kernel
theorem d_Mod_settles_99 : decode b_Mod_settles 99 = .ok (.iload_n 3, 1) := by decide +kernel
theorem d_Mod_settles_100 : decode b_Mod_settles 100 = .ok (.ireturn, 1) := by decide +kernel
def m_Mod_settles_18 : Nat → Int → Int → Int → Int → (Int → Int) → (Int → Int) → (Int → Int) → Option (Int × (Int → Int) × (Int → Int) × (Int → Int))
  | 0, _, _, _, _, _, _, _ => none
  | fuel + 1, v1, v2, v3, v4, m_bytes, m_owner, m_block =>
  clt v4 ((24 * v1) + 24) (bnd (m_Mod_isPlaced v4 m_block) (fun r5 => ceq r5 0 (m_Mod_settles_18 fuel v1 v2 v3 (v4 + 1) m_bytes m_owner m_block) (gd (zx v4 96) (gd (zx (m_block v4) 64) (gd (zx v2 64) (gd (zx v2 64) (gd (zx v4 96) (gd (zx (m_block v4) 64) (gd (zx v4 96) (m_Mod_settles_18 fuel v1 (v2 + 1) v3 (v4 + 1) (uf m_bytes v2 (m_bytes (m_block v4))) (uf (uf m_owner v2 v4) (m_block v4) (-9)) (uf m_block v4 v2))))))))))) (some (v3, m_bytes, m_owner, m_block))
def m_Mod_settles (x1 : Int) (m_bytes : Int → Int) (m_owner : Int → Int) (m_block : Int → Int) : Option (Int × (Int → Int) × (Int → Int) × (Int → Int)) :=
  bnd (m_Mod_placedOf x1 m_block) (fun r1 => bnd (m_Mod_fitOf r1 m_owner) (fun r3 => m_Mod_settles_18 5000 x1 r3 r3 (24 * x1) m_bytes m_owner m_block))
set_option maxHeartbeats 4000000 in
set_option maxRecDepth 100000 in
theorem l_Mod_settles_18 {G : GT} {l : Launch} {D : va_G} {cI cB : ClassId} {a0 a1 a2 a3 a4 a5 a6 a7 a8 a9 a10 a11 a12 a13 a14 a15 : Nat} {m_stepsMade : Int} {m_stepsMost : Int} {m_taped : Int} {m_reading : Int} {m_statements : Int} {m_telling : Int} {m_hasImage : Int} {m_isKeeping : Int} {m_cursor : Int} {m_rowMany : Int} {m_lots : Int} {m_refused : Int → Int} {m_written : Int → Int} {m_waits : Int → Int} {m_kinds : Int → Int} {m_tape : Int → Int} {m_sort : Int → Int} {m_sortAt : Int → Int} {m_told : Int → Int} {m_kept : Int → Int} {m_was : Int → Int} {m_ends : Int → Int} {m_row : Int → Int} (X : Cx G l D cI cB b_Mod_settles y_Mod_settles.cls 5 { frames := 2, cells := 0, slots := 0, locals := 45 }) : ∀ (fuel : Nat) (v1 : Int) (v2 : Int) (v3 : Int) (v4 : Int) (m_bytes : Int → Int) (m_owner : Int → Int) (m_block : Int → Int) (o : Int × (Int → Int) × (Int → Int) × (Int → Int)), m_Mod_settles_18 fuel v1 v2 v3 v4 m_bytes m_owner m_block = some o → Rt G (some .int) (some (.int (zi o.1))) (w_Mod cI cB a0 a1 a2 a3 a4 a5 a6 a7 a8 a9 a10 a11 a12 a13 a14 a15 m_stepsMade m_stepsMost m_taped m_reading m_statements m_telling m_hasImage m_isKeeping m_cursor m_rowMany m_lots m_refused o.2.1 o.2.2.1 o.2.2.2 m_written m_waits m_kinds m_tape m_sort m_sortAt m_told m_kept m_was m_ends m_row) → Wx G 0 0 18 [(0, .ref a0), (1, .int (zi v1)), (2, .int (zi v2)), (3, .int (zi v3)), (4, .int (zi v4))] [] (w_Mod cI cB a0 a1 a2 a3 a4 a5 a6 a7 a8 a9 a10 a11 a12 a13 a14 a15 m_stepsMade m_stepsMost m_taped m_reading m_statements m_telling m_hasImage m_isKeeping m_cursor m_rowMany m_lots m_refused m_bytes m_owner m_block m_written m_waits m_kinds m_tape m_sort m_sortAt m_told m_kept m_was m_ends m_row) := by
  intro fuel
  induction fuel with
  | zero =>
    intro v1 v2 v3 v4 m_bytes m_owner m_block o h
    exact absurd h (by simp [m_Mod_settles_18])
  | succ fuel ih =>
    intro v1 v2 v3 v4 m_bytes m_owner m_block o h hR
    rw [m_Mod_settles_18] at h
    refine x_iload (pc := 18) X d_Mod_settles_18 4 rfl ?_
    refine x_bipush (pc := 20) (v := 24) X d_Mod_settles_20 rfl ?_
    refine x_iload_n (pc := 22) X d_Mod_settles_22 1 rfl rfl ?_
    refine x_imul (pc := 23) X d_Mod_settles_23  ?_
    refine x_bipush (pc := 24) (v := 24) X d_Mod_settles_24 rfl ?_
    refine x_iadd (pc := 26) X d_Mod_settles_26  ?_
    refine x_icmpge (pc := 27) (tgt := 99) X d_Mod_settles_27 rfl h (fun h => ?_) (fun h => ?_)
    · skip
      refine x_iload_n (pc := 99) X d_Mod_settles_99 3 rfl rfl ?_
      cases h
      exact x_iret (pc := 100) X hR d_Mod_settles_100
    · skip
      refine x_aload_n (pc := 30) X d_Mod_settles_30 0 rfl rfl ?_
      refine x_iload (pc := 31) X d_Mod_settles_31 4 rfl ?_
      obtain ⟨r5, h6, h⟩ := bnd_e h
      refine x_callV (pc := 33) (As := [.int (zi v4)]) (rest := []) (w2 := (w_Mod cI cB a0 a1 a2 a3 a4 a5 a6 a7 a8 a9 a10 a11 a12 a13 a14 a15 m_stepsMade m_stepsMost m_taped m_reading m_statements m_telling m_hasImage m_isKeeping m_cursor m_rowMany m_lots m_refused m_bytes m_owner m_block m_written m_waits m_kinds m_tape m_sort m_sortAt m_told m_kept m_was m_ends m_row)) X d_Mod_settles_33 lk_Mod_62 mv_Mod_isPlaced (c_Mod_isPlaced l D cI cB a0 a1 a2 a3 a4 a5 a6 a7 a8 a9 a10 a11 a12 a13 a14 a15 m_stepsMade m_stepsMost m_taped m_reading m_statements m_telling m_hasImage m_isKeeping m_cursor m_rowMany m_lots m_refused m_bytes m_owner m_block m_written m_waits m_kinds m_tape m_sort m_sortAt m_told m_kept m_was m_ends m_row v4 h6) ⟨(Nat.le_of_ble_eq_true rfl), (Nat.le_of_ble_eq_true rfl), (Nat.le_of_ble_eq_true rfl), (Nat.le_of_ble_eq_true rfl)⟩ 0 rfl rfl [0, 1, 2, 3, 4, 5, 6, 7, 8, 9, 10, 11, 12, 13, 14, 15] rfl rfl rfl (Up.same rfl) rfl rfl (Nat.le_of_ble_eq_true rfl) ?_
      refine x_ifne (pc := 36) (tgt := 42) X d_Mod_settles_36 rfl h (fun h => ?_) (fun h => ?_)
      · skip
        refine x_aload_n (pc := 42) X d_Mod_settles_42 0 rfl rfl ?_
        refine x_get (pc := 43) X d_Mod_settles_43 0 rfl fl_Mod_13 rfl ?_
        refine x_iload_n (pc := 46) X d_Mod_settles_46 2 rfl rfl ?_
        refine x_aload_n (pc := 47) X d_Mod_settles_47 0 rfl rfl ?_
        refine x_get (pc := 48) X d_Mod_settles_48 0 rfl fl_Mod_13 rfl ?_
        refine x_aload_n (pc := 51) X d_Mod_settles_51 0 rfl rfl ?_
        refine x_get (pc := 52) X d_Mod_settles_52 0 rfl fl_Mod_19 rfl ?_
        refine x_iload (pc := 55) X d_Mod_settles_55 4 rfl ?_
        refine x_iald (pc := 57) X d_Mod_settles_57 4 rfl (Nat.le_of_ble_eq_true rfl) rfl h (fun h => ?_)
        refine x_iald (pc := 58) X d_Mod_settles_58 2 rfl (Nat.le_of_ble_eq_true rfl) rfl h (fun h => ?_)
        refine x_iast (pc := 59) (w2 := (w_Mod cI cB a0 a1 a2 a3 a4 a5 a6 a7 a8 a9 a10 a11 a12 a13 a14 a15 m_stepsMade m_stepsMost m_taped m_reading m_statements m_telling m_hasImage m_isKeeping m_cursor m_rowMany m_lots m_refused (uf m_bytes v2 (m_bytes (m_block v4))) m_owner m_block m_written m_waits m_kinds m_tape m_sort m_sortAt m_told m_kept m_was m_ends m_row)) X d_Mod_settles_59 2 rfl (Nat.le_of_ble_eq_true rfl) rfl rfl h (fun h => ?_)
        refine x_aload_n (pc := 60) X d_Mod_settles_60 0 rfl rfl ?_
        refine x_get (pc := 61) X d_Mod_settles_61 0 rfl fl_Mod_16 rfl ?_
        refine x_iload_n (pc := 64) X d_Mod_settles_64 2 rfl rfl ?_
        refine x_iload (pc := 65) X d_Mod_settles_65 4 rfl ?_
        refine x_iast (pc := 67) (w2 := (w_Mod cI cB a0 a1 a2 a3 a4 a5 a6 a7 a8 a9 a10 a11 a12 a13 a14 a15 m_stepsMade m_stepsMost m_taped m_reading m_statements m_telling m_hasImage m_isKeeping m_cursor m_rowMany m_lots m_refused (uf m_bytes v2 (m_bytes (m_block v4))) (uf m_owner v2 v4) m_block m_written m_waits m_kinds m_tape m_sort m_sortAt m_told m_kept m_was m_ends m_row)) X d_Mod_settles_67 3 rfl (Nat.le_of_ble_eq_true rfl) rfl rfl h (fun h => ?_)
        refine x_aload_n (pc := 68) X d_Mod_settles_68 0 rfl rfl ?_
        refine x_get (pc := 69) X d_Mod_settles_69 0 rfl fl_Mod_16 rfl ?_
        refine x_aload_n (pc := 72) X d_Mod_settles_72 0 rfl rfl ?_
        refine x_get (pc := 73) X d_Mod_settles_73 0 rfl fl_Mod_19 rfl ?_
        refine x_iload (pc := 76) X d_Mod_settles_76 4 rfl ?_
        refine x_iald (pc := 78) X d_Mod_settles_78 4 rfl (Nat.le_of_ble_eq_true rfl) rfl h (fun h => ?_)
        refine x_bipush (pc := 79) (v := -9) X d_Mod_settles_79 rfl ?_
        refine x_iast (pc := 81) (w2 := (w_Mod cI cB a0 a1 a2 a3 a4 a5 a6 a7 a8 a9 a10 a11 a12 a13 a14 a15 m_stepsMade m_stepsMost m_taped m_reading m_statements m_telling m_hasImage m_isKeeping m_cursor m_rowMany m_lots m_refused (uf m_bytes v2 (m_bytes (m_block v4))) (uf (uf m_owner v2 v4) (m_block v4) (-9)) m_block m_written m_waits m_kinds m_tape m_sort m_sortAt m_told m_kept m_was m_ends m_row)) X d_Mod_settles_81 3 rfl (Nat.le_of_ble_eq_true rfl) rfl rfl h (fun h => ?_)
        refine x_aload_n (pc := 82) X d_Mod_settles_82 0 rfl rfl ?_
        refine x_get (pc := 83) X d_Mod_settles_83 0 rfl fl_Mod_19 rfl ?_
        refine x_iload (pc := 86) X d_Mod_settles_86 4 rfl ?_
        refine x_iload_n (pc := 88) X d_Mod_settles_88 2 rfl rfl ?_
        refine x_iast (pc := 89) (w2 := (w_Mod cI cB a0 a1 a2 a3 a4 a5 a6 a7 a8 a9 a10 a11 a12 a13 a14 a15 m_stepsMade m_stepsMost m_taped m_reading m_statements m_telling m_hasImage m_isKeeping m_cursor m_rowMany m_lots m_refused (uf m_bytes v2 (m_bytes (m_block v4))) (uf (uf m_owner v2 v4) (m_block v4) (-9)) (uf m_block v4 v2) m_written m_waits m_kinds m_tape m_sort m_sortAt m_told m_kept m_was m_ends m_row)) X d_Mod_settles_89 4 rfl (Nat.le_of_ble_eq_true rfl) rfl rfl h (fun h => ?_)
        refine x_iinc (pc := 90) (ls2 := [(2, .int (zi (v2 + 1))), (0, .ref a0), (1, .int (zi v1)), (3, .int (zi v3)), (4, .int (zi v4))]) X d_Mod_settles_90 2 (Nat.le_of_ble_eq_true rfl) rfl rfl ?_
        refine x_iinc (pc := 93) (ls2 := [(4, .int (zi (v4 + 1))), (2, .int (zi (v2 + 1))), (0, .ref a0), (1, .int (zi v1)), (3, .int (zi v3))]) X d_Mod_settles_93 4 (Nat.le_of_ble_eq_true rfl) rfl rfl ?_
        refine x_goto (pc := 96) (tgt := 18) X d_Mod_settles_96 rfl ?_
        refine x_ls (ls2 := [(0, .ref a0), (1, .int (zi v1)), (2, .int (zi (v2 + 1))), (3, .int (zi v3)), (4, .int (zi (v4 + 1)))]) [2, 3, 1, 4, 0] rfl ?_
        exact ih v1 (v2 + 1) v3 (v4 + 1) (uf m_bytes v2 (m_bytes (m_block v4))) (uf (uf m_owner v2 v4) (m_block v4) (-9)) (uf m_block v4 v2) o h hR
      · skip
        refine x_goto (pc := 39) (tgt := 93) X d_Mod_settles_39 rfl ?_
        refine x_iinc (pc := 93) (ls2 := [(4, .int (zi (v4 + 1))), (0, .ref a0), (1, .int (zi v1)), (2, .int (zi v2)), (3, .int (zi v3))]) X d_Mod_settles_93 4 (Nat.le_of_ble_eq_true rfl) rfl rfl ?_
        refine x_goto (pc := 96) (tgt := 18) X d_Mod_settles_96 rfl ?_
        refine x_ls (ls2 := [(0, .ref a0), (1, .int (zi v1)), (2, .int (zi v2)), (3, .int (zi v3)), (4, .int (zi (v4 + 1)))]) [1, 2, 3, 4, 0] rfl ?_
        exact ih v1 v2 v3 (v4 + 1) m_bytes m_owner m_block o h hR
set_option maxHeartbeats 4000000 in
set_option maxRecDepth 100000 in
theorem c_Mod_settles (l : Launch) (D : va_G) (cI cB : ClassId) (a0 a1 a2 a3 a4 a5 a6 a7 a8 a9 a10 a11 a12 a13 a14 a15 : Nat) (m_stepsMade : Int) (m_stepsMost : Int) (m_taped : Int) (m_reading : Int) (m_statements : Int) (m_telling : Int) (m_hasImage : Int) (m_isKeeping : Int) (m_cursor : Int) (m_rowMany : Int) (m_lots : Int) (m_refused : Int → Int) (m_bytes : Int → Int) (m_owner : Int → Int) (m_block : Int → Int) (m_written : Int → Int) (m_waits : Int → Int) (m_kinds : Int → Int) (m_tape : Int → Int) (m_sort : Int → Int) (m_sortAt : Int → Int) (m_told : Int → Int) (m_kept : Int → Int) (m_was : Int → Int) (m_ends : Int → Int) (m_row : Int → Int) (x1 : Int) {o : Int × (Int → Int) × (Int → Int) × (Int → Int)} (h : m_Mod_settles x1 m_bytes m_owner m_block = some o) : Ct l D cI cB y_Mod_settles b_Mod_settles 5 (some .int) { frames := 2, cells := 0, slots := 0, locals := 45 } [.ref a0, .int (zi x1)] (w_Mod cI cB a0 a1 a2 a3 a4 a5 a6 a7 a8 a9 a10 a11 a12 a13 a14 a15 m_stepsMade m_stepsMost m_taped m_reading m_statements m_telling m_hasImage m_isKeeping m_cursor m_rowMany m_lots m_refused m_bytes m_owner m_block m_written m_waits m_kinds m_tape m_sort m_sortAt m_told m_kept m_was m_ends m_row) (w_Mod cI cB a0 a1 a2 a3 a4 a5 a6 a7 a8 a9 a10 a11 a12 a13 a14 a15 m_stepsMade m_stepsMost m_taped m_reading m_statements m_telling m_hasImage m_isKeeping m_cursor m_rowMany m_lots m_refused o.2.1 o.2.2.1 o.2.2.2 m_written m_waits m_kinds m_tape m_sort m_sortAt m_told m_kept m_was m_ends m_row) (some (.int (zi o.1))) := by
  refine Ct.start (by decide) (Nat.le_of_ble_eq_true rfl) (fun G X hR => ?_)
  refine x_ls (ls2 := [(0, .ref a0), (1, .int (zi x1))]) [0, 1] rfl ?_
  unfold m_Mod_settles at h
  refine x_aload_n (pc := 0) X d_Mod_settles_0 0 rfl rfl ?_
  refine x_aload_n (pc := 1) X d_Mod_settles_1 0 rfl rfl ?_
  refine x_iload_n (pc := 2) X d_Mod_settles_2 1 rfl rfl ?_
  obtain ⟨r1, h2, h⟩ := bnd_e h
  refine x_callV (pc := 3) (As := [.int (zi x1)]) (rest := [.ref a0]) (w2 := (w_Mod cI cB a0 a1 a2 a3 a4 a5 a6 a7 a8 a9 a10 a11 a12 a13 a14 a15 m_stepsMade m_stepsMost m_taped m_reading m_statements m_telling m_hasImage m_isKeeping m_cursor m_rowMany m_lots m_refused m_bytes m_owner m_block m_written m_waits m_kinds m_tape m_sort m_sortAt m_told m_kept m_was m_ends m_row)) X d_Mod_settles_3 lk_Mod_156 mv_Mod_placedOf (c_Mod_placedOf l D cI cB a0 a1 a2 a3 a4 a5 a6 a7 a8 a9 a10 a11 a12 a13 a14 a15 m_stepsMade m_stepsMost m_taped m_reading m_statements m_telling m_hasImage m_isKeeping m_cursor m_rowMany m_lots m_refused m_bytes m_owner m_block m_written m_waits m_kinds m_tape m_sort m_sortAt m_told m_kept m_was m_ends m_row x1 h2) ⟨(Nat.le_of_ble_eq_true rfl), (Nat.le_of_ble_eq_true rfl), (Nat.le_of_ble_eq_true rfl), (Nat.le_of_ble_eq_true rfl)⟩ 0 rfl rfl [0, 1, 2, 3, 4, 5, 6, 7, 8, 9, 10, 11, 12, 13, 14, 15] rfl rfl rfl (Up.same rfl) rfl rfl (Nat.le_of_ble_eq_true rfl) ?_
  obtain ⟨r3, h4, h⟩ := bnd_e h
  refine x_callV (pc := 6) (As := [.int (zi r1)]) (rest := []) (w2 := (w_Mod cI cB a0 a1 a2 a3 a4 a5 a6 a7 a8 a9 a10 a11 a12 a13 a14 a15 m_stepsMade m_stepsMost m_taped m_reading m_statements m_telling m_hasImage m_isKeeping m_cursor m_rowMany m_lots m_refused m_bytes m_owner m_block m_written m_waits m_kinds m_tape m_sort m_sortAt m_told m_kept m_was m_ends m_row)) X d_Mod_settles_6 lk_Mod_106 mv_Mod_fitOf (c_Mod_fitOf l D cI cB a0 a1 a2 a3 a4 a5 a6 a7 a8 a9 a10 a11 a12 a13 a14 a15 m_stepsMade m_stepsMost m_taped m_reading m_statements m_telling m_hasImage m_isKeeping m_cursor m_rowMany m_lots m_refused m_bytes m_owner m_block m_written m_waits m_kinds m_tape m_sort m_sortAt m_told m_kept m_was m_ends m_row r1 h4) ⟨(Nat.le_of_ble_eq_true rfl), (Nat.le_of_ble_eq_true rfl), (Nat.le_of_ble_eq_true rfl), (Nat.le_of_ble_eq_true rfl)⟩ 0 rfl rfl [0, 1, 2, 3, 4, 5, 6, 7, 8, 9, 10, 11, 12, 13, 14, 15] rfl rfl rfl (Up.same rfl) rfl rfl (Nat.le_of_ble_eq_true rfl) ?_
  refine x_istore_n (pc := 9) (ls2 := [(2, .int (zi r3)), (0, .ref a0), (1, .int (zi x1))]) X d_Mod_settles_9 rfl (Nat.le_of_ble_eq_true rfl) rfl ?_
  refine x_iload_n (pc := 10) X d_Mod_settles_10 0 rfl rfl ?_
  refine x_istore_n (pc := 11) (ls2 := [(3, .int (zi r3)), (2, .int (zi r3)), (0, .ref a0), (1, .int (zi x1))]) X d_Mod_settles_11 rfl (Nat.le_of_ble_eq_true rfl) rfl ?_
  refine x_bipush (pc := 12) (v := 24) X d_Mod_settles_12 rfl ?_
  refine x_iload_n (pc := 14) X d_Mod_settles_14 3 rfl rfl ?_
  refine x_imul (pc := 15) X d_Mod_settles_15  ?_
  refine x_istore (pc := 16) (ls2 := [(4, .int (zi (24 * x1))), (3, .int (zi r3)), (2, .int (zi r3)), (0, .ref a0), (1, .int (zi x1))]) X d_Mod_settles_16 (Nat.le_of_ble_eq_true rfl) rfl ?_
  refine x_ls (ls2 := [(0, .ref a0), (1, .int (zi x1)), (2, .int (zi r3)), (3, .int (zi r3)), (4, .int (zi (24 * x1)))]) [3, 4, 2, 1, 0] rfl ?_
  exact l_Mod_settles_18 X 5000 x1 r3 r3 (24 * x1) m_bytes m_owner m_block o h hR
theorem d_Mod_comesSettle_0 : decode b_Mod_comesSettle 0 = .ok (.aload_n 0, 1) := by decide +kernel
theorem d_Mod_comesSettle_1 : decode b_Mod_comesSettle 1 = .ok (.iload_n 1, 1) := by decide +kernel
theorem d_Mod_comesSettle_2 : decode b_Mod_comesSettle 2 = .ok (.invokevirtual 221, 3) := by decide +kernel
theorem d_Mod_comesSettle_5 : decode b_Mod_comesSettle 5 = .ok (.ifCond .ne 5, 3) := by decide +kernel
theorem d_Mod_comesSettle_8 : decode b_Mod_comesSettle 8 = .ok (.iconst 0, 1) := by decide +kernel
theorem d_Mod_comesSettle_9 : decode b_Mod_comesSettle 9 = .ok (.ireturn, 1) := by decide +kernel
theorem d_Mod_comesSettle_10 : decode b_Mod_comesSettle 10 = .ok (.aload_n 0, 1) := by decide +kernel
theorem d_Mod_comesSettle_11 : decode b_Mod_comesSettle 11 = .ok (.iload_n 1, 1) := by decide +kernel
theorem d_Mod_comesSettle_12 : decode b_Mod_comesSettle 12 = .ok (.invokevirtual 224, 3) := by decide +kernel
theorem d_Mod_comesSettle_15 : decode b_Mod_comesSettle 15 = .ok (.pop, 1) := by decide +kernel
theorem d_Mod_comesSettle_16 : decode b_Mod_comesSettle 16 = .ok (.iconst 1, 1) := by decide +kernel
theorem d_Mod_comesSettle_17 : decode b_Mod_comesSettle 17 = .ok (.ireturn, 1) := by decide +kernel
def m_Mod_comesSettle (x1 : Int) (m_bytes : Int → Int) (m_owner : Int → Int) (m_block : Int → Int) : Option (Int × (Int → Int) × (Int → Int) × (Int → Int)) :=
  bnd (m_Mod_canSettle x1 m_owner m_block) (fun r1 => ceq r1 0 (some (0, m_bytes, m_owner, m_block)) (bnd (m_Mod_settles x1 m_bytes m_owner m_block) (fun r3 => some (1, r3.2.1, r3.2.2.1, r3.2.2.2))))
set_option maxHeartbeats 4000000 in
set_option maxRecDepth 100000 in
theorem c_Mod_comesSettle (l : Launch) (D : va_G) (cI cB : ClassId) (a0 a1 a2 a3 a4 a5 a6 a7 a8 a9 a10 a11 a12 a13 a14 a15 : Nat) (m_stepsMade : Int) (m_stepsMost : Int) (m_taped : Int) (m_reading : Int) (m_statements : Int) (m_telling : Int) (m_hasImage : Int) (m_isKeeping : Int) (m_cursor : Int) (m_rowMany : Int) (m_lots : Int) (m_refused : Int → Int) (m_bytes : Int → Int) (m_owner : Int → Int) (m_block : Int → Int) (m_written : Int → Int) (m_waits : Int → Int) (m_kinds : Int → Int) (m_tape : Int → Int) (m_sort : Int → Int) (m_sortAt : Int → Int) (m_told : Int → Int) (m_kept : Int → Int) (m_was : Int → Int) (m_ends : Int → Int) (m_row : Int → Int) (x1 : Int) {o : Int × (Int → Int) × (Int → Int) × (Int → Int)} (h : m_Mod_comesSettle x1 m_bytes m_owner m_block = some o) : Ct l D cI cB y_Mod_comesSettle b_Mod_comesSettle 2 (some .boolean) { frames := 3, cells := 0, slots := 0, locals := 69 } [.ref a0, .int (zi x1)] (w_Mod cI cB a0 a1 a2 a3 a4 a5 a6 a7 a8 a9 a10 a11 a12 a13 a14 a15 m_stepsMade m_stepsMost m_taped m_reading m_statements m_telling m_hasImage m_isKeeping m_cursor m_rowMany m_lots m_refused m_bytes m_owner m_block m_written m_waits m_kinds m_tape m_sort m_sortAt m_told m_kept m_was m_ends m_row) (w_Mod cI cB a0 a1 a2 a3 a4 a5 a6 a7 a8 a9 a10 a11 a12 a13 a14 a15 m_stepsMade m_stepsMost m_taped m_reading m_statements m_telling m_hasImage m_isKeeping m_cursor m_rowMany m_lots m_refused o.2.1 o.2.2.1 o.2.2.2 m_written m_waits m_kinds m_tape m_sort m_sortAt m_told m_kept m_was m_ends m_row) (some (.int (zi o.1))) := by
  refine Ct.start (by decide) (Nat.le_of_ble_eq_true rfl) (fun G X hR => ?_)
  refine x_ls (ls2 := [(0, .ref a0), (1, .int (zi x1))]) [0, 1] rfl ?_
  unfold m_Mod_comesSettle at h
  refine x_aload_n (pc := 0) X d_Mod_comesSettle_0 0 rfl rfl ?_
  refine x_iload_n (pc := 1) X d_Mod_comesSettle_1 1 rfl rfl ?_
  obtain ⟨r1, h2, h⟩ := bnd_e h
  refine x_callV (pc := 2) (As := [.int (zi x1)]) (rest := []) (w2 := (w_Mod cI cB a0 a1 a2 a3 a4 a5 a6 a7 a8 a9 a10 a11 a12 a13 a14 a15 m_stepsMade m_stepsMost m_taped m_reading m_statements m_telling m_hasImage m_isKeeping m_cursor m_rowMany m_lots m_refused m_bytes m_owner m_block m_written m_waits m_kinds m_tape m_sort m_sortAt m_told m_kept m_was m_ends m_row)) X d_Mod_comesSettle_2 lk_Mod_221 mv_Mod_canSettle (c_Mod_canSettle l D cI cB a0 a1 a2 a3 a4 a5 a6 a7 a8 a9 a10 a11 a12 a13 a14 a15 m_stepsMade m_stepsMost m_taped m_reading m_statements m_telling m_hasImage m_isKeeping m_cursor m_rowMany m_lots m_refused m_bytes m_owner m_block m_written m_waits m_kinds m_tape m_sort m_sortAt m_told m_kept m_was m_ends m_row x1 h2) ⟨(Nat.le_of_ble_eq_true rfl), (Nat.le_of_ble_eq_true rfl), (Nat.le_of_ble_eq_true rfl), (Nat.le_of_ble_eq_true rfl)⟩ 0 rfl rfl [0, 1, 2, 3, 4, 5, 6, 7, 8, 9, 10, 11, 12, 13, 14, 15] rfl rfl rfl (Up.same rfl) rfl rfl (Nat.le_of_ble_eq_true rfl) ?_
  refine x_ifne (pc := 5) (tgt := 10) X d_Mod_comesSettle_5 rfl h (fun h => ?_) (fun h => ?_)
  · skip
    refine x_aload_n (pc := 10) X d_Mod_comesSettle_10 0 rfl rfl ?_
    refine x_iload_n (pc := 11) X d_Mod_comesSettle_11 1 rfl rfl ?_
    obtain ⟨r3, h4, h⟩ := bnd_e h
    refine x_callV (pc := 12) (As := [.int (zi x1)]) (rest := []) (w2 := (w_Mod cI cB a0 a1 a2 a3 a4 a5 a6 a7 a8 a9 a10 a11 a12 a13 a14 a15 m_stepsMade m_stepsMost m_taped m_reading m_statements m_telling m_hasImage m_isKeeping m_cursor m_rowMany m_lots m_refused r3.2.1 r3.2.2.1 r3.2.2.2 m_written m_waits m_kinds m_tape m_sort m_sortAt m_told m_kept m_was m_ends m_row)) X d_Mod_comesSettle_12 lk_Mod_224 mv_Mod_settles (c_Mod_settles l D cI cB a0 a1 a2 a3 a4 a5 a6 a7 a8 a9 a10 a11 a12 a13 a14 a15 m_stepsMade m_stepsMost m_taped m_reading m_statements m_telling m_hasImage m_isKeeping m_cursor m_rowMany m_lots m_refused m_bytes m_owner m_block m_written m_waits m_kinds m_tape m_sort m_sortAt m_told m_kept m_was m_ends m_row x1 h4) ⟨(Nat.le_of_ble_eq_true rfl), (Nat.le_of_ble_eq_true rfl), (Nat.le_of_ble_eq_true rfl), (Nat.le_of_ble_eq_true rfl)⟩ 0 rfl rfl [0, 1, 2, 3, 4, 5, 6, 7, 8, 9, 10, 11, 12, 13, 14, 15] rfl rfl rfl (Up.of [] [] rfl rfl rfl 16 rfl (by decide +kernel)) rfl rfl (Nat.le_of_ble_eq_true rfl) ?_
    refine x_pop (pc := 15) X d_Mod_comesSettle_15 rfl ?_
    refine x_iconst (pc := 16) X d_Mod_comesSettle_16  ?_
    cases h
    exact x_zret (pc := 17) X hR d_Mod_comesSettle_17 (Or.inr rfl)
  · skip
    refine x_iconst (pc := 8) X d_Mod_comesSettle_8  ?_
    cases h
    exact x_zret (pc := 9) X hR d_Mod_comesSettle_9 (Or.inl rfl)
theorem d_Mod_punches_0 : decode b_Mod_punches 0 = .ok (.iconst 0, 1) := by decide +kernel
theorem d_Mod_punches_1 : decode b_Mod_punches 1 = .ok (.istore 4, 2) := by decide +kernel
theorem d_Mod_punches_3 : decode b_Mod_punches 3 = .ok (.bipush 24, 2) := by decide +kernel
theorem d_Mod_punches_5 : decode b_Mod_punches 5 = .ok (.iload_n 1, 1) := by decide +kernel
theorem d_Mod_punches_6 : decode b_Mod_punches 6 = .ok (.imul, 1) := by decide +kernel
theorem d_Mod_punches_7 : decode b_Mod_punches 7 = .ok (.iload_n 2, 1) := by decide +kernel
theorem d_Mod_punches_8 : decode b_Mod_punches 8 = .ok (.iadd, 1) := by decide +kernel
theorem d_Mod_punches_9 : decode b_Mod_punches 9 = .ok (.istore 5, 2) := by decide +kernel
theorem d_Mod_punches_11 : decode b_Mod_punches 11 = .ok (.iload 5, 2) := by decide +kernel
theorem d_Mod_punches_13 : decode b_Mod_punches 13 = .ok (.bipush 24, 2) := by decide +kernel
theorem d_Mod_punches_15 : decode b_Mod_punches 15 = .ok (.iload_n 1, 1) := by decide +kernel
theorem d_Mod_punches_16 : decode b_Mod_punches 16 = .ok (.imul, 1) := by decide +kernel
theorem d_Mod_punches_17 : decode b_Mod_punches 17 = .ok (.iload_n 2, 1) := by decide +kernel
theorem d_Mod_punches_18 : decode b_Mod_punches 18 = .ok (.iadd, 1) := by decide +kernel
theorem d_Mod_punches_19 : decode b_Mod_punches 19 = .ok (.iload_n 3, 1) := by decide +kernel
theorem d_Mod_punches_20 : decode b_Mod_punches 20 = .ok (.iadd, 1) := by decide +kernel
theorem d_Mod_punches_21 : decode b_Mod_punches 21 = .ok (.if_icmp .ge 64, 3) := by decide +kernel
theorem d_Mod_punches_24 : decode b_Mod_punches 24 = .ok (.aload_n 0, 1) := by decide +kernel
theorem d_Mod_punches_25 : decode b_Mod_punches 25 = .ok (.getfield 25, 3) := by decide +kernel
theorem d_Mod_punches_28 : decode b_Mod_punches 28 = .ok (.iload 5, 2) := by decide +kernel
theorem d_Mod_punches_30 : decode b_Mod_punches 30 = .ok (.bipush (-9), 2) := by decide +kernel
theorem d_Mod_punches_32 : decode b_Mod_punches 32 = .ok (.iastore, 1) := by decide +kernel
theorem d_Mod_punches_33 : decode b_Mod_punches 33 = .ok (.aload_n 0, 1) := by decide +kernel
theorem d_Mod_punches_34 : decode b_Mod_punches 34 = .ok (.iload 5, 2) := by decide +kernel
theorem d_Mod_punches_36 : decode b_Mod_punches 36 = .ok (.invokevirtual 62, 3) := by decide +kernel
theorem d_Mod_punches_39 : decode b_Mod_punches 39 = .ok (.ifCond .ne 6, 3) := by decide +kernel
theorem d_Mod_punches_42 : decode b_Mod_punches 42 = .ok (.goto 37, 3) := by decide +kernel
theorem d_Mod_punches_45 : decode b_Mod_punches 45 = .ok (.aload_n 0, 1) := by decide +kernel
theorem d_Mod_punches_46 : decode b_Mod_punches 46 = .ok (.getfield 16, 3) := by decide +kernel
theorem d_Mod_punches_49 : decode b_Mod_punches 49 = .ok (.aload_n 0, 1) := by decide +kernel
theorem d_Mod_punches_50 : decode b_Mod_punches 50 = .ok (.getfield 19, 3) := by decide +kernel
theorem d_Mod_punches_53 : decode b_Mod_punches 53 = .ok (.iload 5, 2) := by decide +kernel
theorem d_Mod_punches_55 : decode b_Mod_punches 55 = .ok (.iaload, 1) := by decide +kernel
theorem d_Mod_punches_56 : decode b_Mod_punches 56 = .ok (.bipush (-9), 2) := by decide +kernel
theorem d_Mod_punches_58 : decode b_Mod_punches 58 = .ok (.iastore, 1) := by decide +kernel
theorem d_Mod_punches_59 : decode b_Mod_punches 59 = .ok (.aload_n 0, 1) := by decide +kernel
theorem d_Mod_punches_60 : decode b_Mod_punches 60 = .ok (.getfield 19, 3) := by decide +kernel
theorem d_Mod_punches_63 : decode b_Mod_punches 63 = .ok (.iload 5, 2) := by decide +kernel
theorem d_Mod_punches_65 : decode b_Mod_punches 65 = .ok (.bipush (-9), 2) := by decide +kernel
theorem d_Mod_punches_67 : decode b_Mod_punches 67 = .ok (.iastore, 1) := by decide +kernel
theorem d_Mod_punches_68 : decode b_Mod_punches 68 = .ok (.aload_n 0, 1) := by decide +kernel
theorem d_Mod_punches_69 : decode b_Mod_punches 69 = .ok (.getfield 22, 3) := by decide +kernel
theorem d_Mod_punches_72 : decode b_Mod_punches 72 = .ok (.iload 5, 2) := by decide +kernel
theorem d_Mod_punches_74 : decode b_Mod_punches 74 = .ok (.iconst 0, 1) := by decide +kernel
theorem d_Mod_punches_75 : decode b_Mod_punches 75 = .ok (.iastore, 1) := by decide +kernel
theorem d_Mod_punches_76 : decode b_Mod_punches 76 = .ok (.iinc 4 1, 3) := by decide +kernel
theorem d_Mod_punches_79 : decode b_Mod_punches 79 = .ok (.iinc 5 1, 3) := by decide +kernel
theorem d_Mod_punches_82 : decode b_Mod_punches 82 = .ok (.goto (-71), 3) := by decide +kernel
theorem d_Mod_punches_85 : decode b_Mod_punches 85 = .ok (.iload 4, 2) := by decide +kernel
theorem d_Mod_punches_87 : decode b_Mod_punches 87 = .ok (.ireturn, 1) := by decide +kernel
def m_Mod_punches_11 : Nat → Int → Int → Int → Int → Int → (Int → Int) → (Int → Int) → (Int → Int) → (Int → Int) → Option (Int × (Int → Int) × (Int → Int) × (Int → Int) × (Int → Int))
  | 0, _, _, _, _, _, _, _, _, _ => none
  | fuel + 1, v1, v2, v3, v4, v5, m_owner, m_block, m_written, m_waits =>
  clt v5 (((24 * v1) + v2) + v3) (gd (zx v5 96) (bnd (m_Mod_isPlaced v5 m_block) (fun r1 => ceq r1 0 (m_Mod_punches_11 fuel v1 v2 v3 v4 (v5 + 1) m_owner m_block m_written (uf m_waits v5 (-9))) (gd (zx v5 96) (gd (zx (m_block v5) 64) (gd (zx v5 96) (gd (zx v5 96) (m_Mod_punches_11 fuel v1 v2 v3 (v4 + 1) (v5 + 1) (uf m_owner (m_block v5) (-9)) (uf m_block v5 (-9)) (uf m_written v5 0) (uf m_waits v5 (-9)))))))))) (some (v4, m_owner, m_block, m_written, m_waits))
def m_Mod_punches (x1 : Int) (x2 : Int) (x3 : Int) (m_owner : Int → Int) (m_block : Int → Int) (m_written : Int → Int) (m_waits : Int → Int) : Option (Int × (Int → Int) × (Int → Int) × (Int → Int) × (Int → Int)) :=
  m_Mod_punches_11 5000 x1 x2 x3 0 ((24 * x1) + x2) m_owner m_block m_written m_waits
set_option maxHeartbeats 4000000 in
set_option maxRecDepth 100000 in
theorem l_Mod_punches_11 {G : GT} {l : Launch} {D : va_G} {cI cB : ClassId} {a0 a1 a2 a3 a4 a5 a6 a7 a8 a9 a10 a11 a12 a13 a14 a15 : Nat} {m_stepsMade : Int} {m_stepsMost : Int} {m_taped : Int} {m_reading : Int} {m_statements : Int} {m_telling : Int} {m_hasImage : Int} {m_isKeeping : Int} {m_cursor : Int} {m_rowMany : Int} {m_lots : Int} {m_refused : Int → Int} {m_bytes : Int → Int} {m_kinds : Int → Int} {m_tape : Int → Int} {m_sort : Int → Int} {m_sortAt : Int → Int} {m_told : Int → Int} {m_kept : Int → Int} {m_was : Int → Int} {m_ends : Int → Int} {m_row : Int → Int} (X : Cx G l D cI cB b_Mod_punches y_Mod_punches.cls 6 { frames := 1, cells := 0, slots := 0, locals := 21 }) : ∀ (fuel : Nat) (v1 : Int) (v2 : Int) (v3 : Int) (v4 : Int) (v5 : Int) (m_owner : Int → Int) (m_block : Int → Int) (m_written : Int → Int) (m_waits : Int → Int) (o : Int × (Int → Int) × (Int → Int) × (Int → Int) × (Int → Int)), m_Mod_punches_11 fuel v1 v2 v3 v4 v5 m_owner m_block m_written m_waits = some o → Rt G (some .int) (some (.int (zi o.1))) (w_Mod cI cB a0 a1 a2 a3 a4 a5 a6 a7 a8 a9 a10 a11 a12 a13 a14 a15 m_stepsMade m_stepsMost m_taped m_reading m_statements m_telling m_hasImage m_isKeeping m_cursor m_rowMany m_lots m_refused m_bytes o.2.1 o.2.2.1 o.2.2.2.1 o.2.2.2.2 m_kinds m_tape m_sort m_sortAt m_told m_kept m_was m_ends m_row) → Wx G 0 0 11 [(0, .ref a0), (1, .int (zi v1)), (2, .int (zi v2)), (3, .int (zi v3)), (4, .int (zi v4)), (5, .int (zi v5))] [] (w_Mod cI cB a0 a1 a2 a3 a4 a5 a6 a7 a8 a9 a10 a11 a12 a13 a14 a15 m_stepsMade m_stepsMost m_taped m_reading m_statements m_telling m_hasImage m_isKeeping m_cursor m_rowMany m_lots m_refused m_bytes m_owner m_block m_written m_waits m_kinds m_tape m_sort m_sortAt m_told m_kept m_was m_ends m_row) := by
  intro fuel
  induction fuel with
  | zero =>
    intro v1 v2 v3 v4 v5 m_owner m_block m_written m_waits o h
    exact absurd h (by simp [m_Mod_punches_11])
  | succ fuel ih =>
    intro v1 v2 v3 v4 v5 m_owner m_block m_written m_waits o h hR
    rw [m_Mod_punches_11] at h
    refine x_iload (pc := 11) X d_Mod_punches_11 5 rfl ?_
    refine x_bipush (pc := 13) (v := 24) X d_Mod_punches_13 rfl ?_
    refine x_iload_n (pc := 15) X d_Mod_punches_15 1 rfl rfl ?_
    refine x_imul (pc := 16) X d_Mod_punches_16  ?_
    refine x_iload_n (pc := 17) X d_Mod_punches_17 2 rfl rfl ?_
    refine x_iadd (pc := 18) X d_Mod_punches_18  ?_
    refine x_iload_n (pc := 19) X d_Mod_punches_19 3 rfl rfl ?_
    refine x_iadd (pc := 20) X d_Mod_punches_20  ?_
    refine x_icmpge (pc := 21) (tgt := 85) X d_Mod_punches_21 rfl h (fun h => ?_) (fun h => ?_)
    · skip
      refine x_iload (pc := 85) X d_Mod_punches_85 4 rfl ?_
      cases h
      exact x_iret (pc := 87) X hR d_Mod_punches_87
    · skip
      refine x_aload_n (pc := 24) X d_Mod_punches_24 0 rfl rfl ?_
      refine x_get (pc := 25) X d_Mod_punches_25 0 rfl fl_Mod_25 rfl ?_
      refine x_iload (pc := 28) X d_Mod_punches_28 5 rfl ?_
      refine x_bipush (pc := 30) (v := -9) X d_Mod_punches_30 rfl ?_
      refine x_iast (pc := 32) (w2 := (w_Mod cI cB a0 a1 a2 a3 a4 a5 a6 a7 a8 a9 a10 a11 a12 a13 a14 a15 m_stepsMade m_stepsMost m_taped m_reading m_statements m_telling m_hasImage m_isKeeping m_cursor m_rowMany m_lots m_refused m_bytes m_owner m_block m_written (uf m_waits v5 (-9)) m_kinds m_tape m_sort m_sortAt m_told m_kept m_was m_ends m_row)) X d_Mod_punches_32 6 rfl (Nat.le_of_ble_eq_true rfl) rfl rfl h (fun h => ?_)
      refine x_aload_n (pc := 33) X d_Mod_punches_33 0 rfl rfl ?_
      refine x_iload (pc := 34) X d_Mod_punches_34 5 rfl ?_
      obtain ⟨r1, h2, h⟩ := bnd_e h
      refine x_callV (pc := 36) (As := [.int (zi v5)]) (rest := []) (w2 := (w_Mod cI cB a0 a1 a2 a3 a4 a5 a6 a7 a8 a9 a10 a11 a12 a13 a14 a15 m_stepsMade m_stepsMost m_taped m_reading m_statements m_telling m_hasImage m_isKeeping m_cursor m_rowMany m_lots m_refused m_bytes m_owner m_block m_written (uf m_waits v5 (-9)) m_kinds m_tape m_sort m_sortAt m_told m_kept m_was m_ends m_row)) X d_Mod_punches_36 lk_Mod_62 mv_Mod_isPlaced (c_Mod_isPlaced l D cI cB a0 a1 a2 a3 a4 a5 a6 a7 a8 a9 a10 a11 a12 a13 a14 a15 m_stepsMade m_stepsMost m_taped m_reading m_statements m_telling m_hasImage m_isKeeping m_cursor m_rowMany m_lots m_refused m_bytes m_owner m_block m_written (uf m_waits v5 (-9)) m_kinds m_tape m_sort m_sortAt m_told m_kept m_was m_ends m_row v5 h2) ⟨(Nat.le_of_ble_eq_true rfl), (Nat.le_of_ble_eq_true rfl), (Nat.le_of_ble_eq_true rfl), (Nat.le_of_ble_eq_true rfl)⟩ 0 rfl rfl [0, 1, 2, 3, 4, 5, 6, 7, 8, 9, 10, 11, 12, 13, 14, 15] rfl rfl rfl (Up.same rfl) rfl rfl (Nat.le_of_ble_eq_true rfl) ?_
      refine x_ifne (pc := 39) (tgt := 45) X d_Mod_punches_39 rfl h (fun h => ?_) (fun h => ?_)
      · skip
        refine x_aload_n (pc := 45) X d_Mod_punches_45 0 rfl rfl ?_
        refine x_get (pc := 46) X d_Mod_punches_46 0 rfl fl_Mod_16 rfl ?_
        refine x_aload_n (pc := 49) X d_Mod_punches_49 0 rfl rfl ?_
        refine x_get (pc := 50) X d_Mod_punches_50 0 rfl fl_Mod_19 rfl ?_
        refine x_iload (pc := 53) X d_Mod_punches_53 5 rfl ?_
        refine x_iald (pc := 55) X d_Mod_punches_55 4 rfl (Nat.le_of_ble_eq_true rfl) rfl h (fun h => ?_)
        refine x_bipush (pc := 56) (v := -9) X d_Mod_punches_56 rfl ?_
        refine x_iast (pc := 58) (w2 := (w_Mod cI cB a0 a1 a2 a3 a4 a5 a6 a7 a8 a9 a10 a11 a12 a13 a14 a15 m_stepsMade m_stepsMost m_taped m_reading m_statements m_telling m_hasImage m_isKeeping m_cursor m_rowMany m_lots m_refused m_bytes (uf m_owner (m_block v5) (-9)) m_block m_written (uf m_waits v5 (-9)) m_kinds m_tape m_sort m_sortAt m_told m_kept m_was m_ends m_row)) X d_Mod_punches_58 3 rfl (Nat.le_of_ble_eq_true rfl) rfl rfl h (fun h => ?_)
        refine x_aload_n (pc := 59) X d_Mod_punches_59 0 rfl rfl ?_
        refine x_get (pc := 60) X d_Mod_punches_60 0 rfl fl_Mod_19 rfl ?_
        refine x_iload (pc := 63) X d_Mod_punches_63 5 rfl ?_
        refine x_bipush (pc := 65) (v := -9) X d_Mod_punches_65 rfl ?_
        refine x_iast (pc := 67) (w2 := (w_Mod cI cB a0 a1 a2 a3 a4 a5 a6 a7 a8 a9 a10 a11 a12 a13 a14 a15 m_stepsMade m_stepsMost m_taped m_reading m_statements m_telling m_hasImage m_isKeeping m_cursor m_rowMany m_lots m_refused m_bytes (uf m_owner (m_block v5) (-9)) (uf m_block v5 (-9)) m_written (uf m_waits v5 (-9)) m_kinds m_tape m_sort m_sortAt m_told m_kept m_was m_ends m_row)) X d_Mod_punches_67 4 rfl (Nat.le_of_ble_eq_true rfl) rfl rfl h (fun h => ?_)
        refine x_aload_n (pc := 68) X d_Mod_punches_68 0 rfl rfl ?_
        refine x_get (pc := 69) X d_Mod_punches_69 0 rfl fl_Mod_22 rfl ?_
        refine x_iload (pc := 72) X d_Mod_punches_72 5 rfl ?_
        refine x_iconst (pc := 74) X d_Mod_punches_74  ?_
        refine x_iast (pc := 75) (w2 := (w_Mod cI cB a0 a1 a2 a3 a4 a5 a6 a7 a8 a9 a10 a11 a12 a13 a14 a15 m_stepsMade m_stepsMost m_taped m_reading m_statements m_telling m_hasImage m_isKeeping m_cursor m_rowMany m_lots m_refused m_bytes (uf m_owner (m_block v5) (-9)) (uf m_block v5 (-9)) (uf m_written v5 0) (uf m_waits v5 (-9)) m_kinds m_tape m_sort m_sortAt m_told m_kept m_was m_ends m_row)) X d_Mod_punches_75 5 rfl (Nat.le_of_ble_eq_true rfl) rfl rfl h (fun h => ?_)
        refine x_iinc (pc := 76) (ls2 := [(4, .int (zi (v4 + 1))), (0, .ref a0), (1, .int (zi v1)), (2, .int (zi v2)), (3, .int (zi v3)), (5, .int (zi v5))]) X d_Mod_punches_76 4 (Nat.le_of_ble_eq_true rfl) rfl rfl ?_
        refine x_iinc (pc := 79) (ls2 := [(5, .int (zi (v5 + 1))), (4, .int (zi (v4 + 1))), (0, .ref a0), (1, .int (zi v1)), (2, .int (zi v2)), (3, .int (zi v3))]) X d_Mod_punches_79 5 (Nat.le_of_ble_eq_true rfl) rfl rfl ?_
        refine x_goto (pc := 82) (tgt := 11) X d_Mod_punches_82 rfl ?_
        refine x_ls (ls2 := [(0, .ref a0), (1, .int (zi v1)), (2, .int (zi v2)), (3, .int (zi v3)), (4, .int (zi (v4 + 1))), (5, .int (zi (v5 + 1)))]) [2, 3, 4, 5, 1, 0] rfl ?_
        exact ih v1 v2 v3 (v4 + 1) (v5 + 1) (uf m_owner (m_block v5) (-9)) (uf m_block v5 (-9)) (uf m_written v5 0) (uf m_waits v5 (-9)) o h hR
      · skip
        refine x_goto (pc := 42) (tgt := 79) X d_Mod_punches_42 rfl ?_
        refine x_iinc (pc := 79) (ls2 := [(5, .int (zi (v5 + 1))), (0, .ref a0), (1, .int (zi v1)), (2, .int (zi v2)), (3, .int (zi v3)), (4, .int (zi v4))]) X d_Mod_punches_79 5 (Nat.le_of_ble_eq_true rfl) rfl rfl ?_
        refine x_goto (pc := 82) (tgt := 11) X d_Mod_punches_82 rfl ?_
        refine x_ls (ls2 := [(0, .ref a0), (1, .int (zi v1)), (2, .int (zi v2)), (3, .int (zi v3)), (4, .int (zi v4)), (5, .int (zi (v5 + 1)))]) [1, 2, 3, 4, 5, 0] rfl ?_
        exact ih v1 v2 v3 v4 (v5 + 1) m_owner m_block m_written (uf m_waits v5 (-9)) o h hR
set_option maxHeartbeats 4000000 in
set_option maxRecDepth 100000 in
theorem c_Mod_punches (l : Launch) (D : va_G) (cI cB : ClassId) (a0 a1 a2 a3 a4 a5 a6 a7 a8 a9 a10 a11 a12 a13 a14 a15 : Nat) (m_stepsMade : Int) (m_stepsMost : Int) (m_taped : Int) (m_reading : Int) (m_statements : Int) (m_telling : Int) (m_hasImage : Int) (m_isKeeping : Int) (m_cursor : Int) (m_rowMany : Int) (m_lots : Int) (m_refused : Int → Int) (m_bytes : Int → Int) (m_owner : Int → Int) (m_block : Int → Int) (m_written : Int → Int) (m_waits : Int → Int) (m_kinds : Int → Int) (m_tape : Int → Int) (m_sort : Int → Int) (m_sortAt : Int → Int) (m_told : Int → Int) (m_kept : Int → Int) (m_was : Int → Int) (m_ends : Int → Int) (m_row : Int → Int) (x1 : Int) (x2 : Int) (x3 : Int) {o : Int × (Int → Int) × (Int → Int) × (Int → Int) × (Int → Int)} (h : m_Mod_punches x1 x2 x3 m_owner m_block m_written m_waits = some o) : Ct l D cI cB y_Mod_punches b_Mod_punches 6 (some .int) { frames := 1, cells := 0, slots := 0, locals := 21 } [.ref a0, .int (zi x1), .int (zi x2), .int (zi x3)] (w_Mod cI cB a0 a1 a2 a3 a4 a5 a6 a7 a8 a9 a10 a11 a12 a13 a14 a15 m_stepsMade m_stepsMost m_taped m_reading m_statements m_telling m_hasImage m_isKeeping m_cursor m_rowMany m_lots m_refused m_bytes m_owner m_block m_written m_waits m_kinds m_tape m_sort m_sortAt m_told m_kept m_was m_ends m_row) (w_Mod cI cB a0 a1 a2 a3 a4 a5 a6 a7 a8 a9 a10 a11 a12 a13 a14 a15 m_stepsMade m_stepsMost m_taped m_reading m_statements m_telling m_hasImage m_isKeeping m_cursor m_rowMany m_lots m_refused m_bytes o.2.1 o.2.2.1 o.2.2.2.1 o.2.2.2.2 m_kinds m_tape m_sort m_sortAt m_told m_kept m_was m_ends m_row) (some (.int (zi o.1))) := by
  refine Ct.start (by decide) (Nat.le_of_ble_eq_true rfl) (fun G X hR => ?_)
  refine x_ls (ls2 := [(0, .ref a0), (1, .int (zi x1)), (2, .int (zi x2)), (3, .int (zi x3))]) [0, 1, 2, 3] rfl ?_
  unfold m_Mod_punches at h
  refine x_iconst (pc := 0) X d_Mod_punches_0  ?_
  refine x_istore (pc := 1) (ls2 := [(4, .int (zi 0)), (0, .ref a0), (1, .int (zi x1)), (2, .int (zi x2)), (3, .int (zi x3))]) X d_Mod_punches_1 (Nat.le_of_ble_eq_true rfl) rfl ?_
  refine x_bipush (pc := 3) (v := 24) X d_Mod_punches_3 rfl ?_
  refine x_iload_n (pc := 5) X d_Mod_punches_5 2 rfl rfl ?_
  refine x_imul (pc := 6) X d_Mod_punches_6  ?_
  refine x_iload_n (pc := 7) X d_Mod_punches_7 3 rfl rfl ?_
  refine x_iadd (pc := 8) X d_Mod_punches_8  ?_
  refine x_istore (pc := 9) (ls2 := [(5, .int (zi ((24 * x1) + x2))), (4, .int (zi 0)), (0, .ref a0), (1, .int (zi x1)), (2, .int (zi x2)), (3, .int (zi x3))]) X d_Mod_punches_9 (Nat.le_of_ble_eq_true rfl) rfl ?_
  refine x_ls (ls2 := [(0, .ref a0), (1, .int (zi x1)), (2, .int (zi x2)), (3, .int (zi x3)), (4, .int (zi 0)), (5, .int (zi ((24 * x1) + x2)))]) [2, 3, 4, 5, 1, 0] rfl ?_
  exact l_Mod_punches_11 X 5000 x1 x2 x3 0 ((24 * x1) + x2) m_owner m_block m_written m_waits o h hR
theorem d_Mod_comesPunch_0 : decode b_Mod_comesPunch 0 = .ok (.iload_n 2, 1) := by decide +kernel
theorem d_Mod_comesPunch_1 : decode b_Mod_comesPunch 1 = .ok (.invokestatic 199, 3) := by decide +kernel
theorem d_Mod_comesPunch_4 : decode b_Mod_comesPunch 4 = .ok (.ifCond .eq 11, 3) := by decide +kernel
theorem d_Mod_comesPunch_7 : decode b_Mod_comesPunch 7 = .ok (.iload_n 2, 1) := by decide +kernel
theorem d_Mod_comesPunch_8 : decode b_Mod_comesPunch 8 = .ok (.iload_n 3, 1) := by decide +kernel
theorem d_Mod_comesPunch_9 : decode b_Mod_comesPunch 9 = .ok (.invokestatic 209, 3) := by decide +kernel
theorem d_Mod_comesPunch_12 : decode b_Mod_comesPunch 12 = .ok (.ifCond .ne 5, 3) := by decide +kernel
theorem d_Mod_comesPunch_15 : decode b_Mod_comesPunch 15 = .ok (.iconst 0, 1) := by decide +kernel
theorem d_Mod_comesPunch_16 : decode b_Mod_comesPunch 16 = .ok (.ireturn, 1) := by decide +kernel
theorem d_Mod_comesPunch_17 : decode b_Mod_comesPunch 17 = .ok (.aload_n 0, 1) := by decide +kernel
theorem d_Mod_comesPunch_18 : decode b_Mod_comesPunch 18 = .ok (.iload_n 1, 1) := by decide +kernel
theorem d_Mod_comesPunch_19 : decode b_Mod_comesPunch 19 = .ok (.iload_n 2, 1) := by decide +kernel
theorem d_Mod_comesPunch_20 : decode b_Mod_comesPunch 20 = .ok (.iload_n 3, 1) := by decide +kernel
theorem d_Mod_comesPunch_21 : decode b_Mod_comesPunch 21 = .ok (.invokevirtual 218, 3) := by decide +kernel
theorem d_Mod_comesPunch_24 : decode b_Mod_comesPunch 24 = .ok (.pop, 1) := by decide +kernel
theorem d_Mod_comesPunch_25 : decode b_Mod_comesPunch 25 = .ok (.iconst 1, 1) := by decide +kernel
theorem d_Mod_comesPunch_26 : decode b_Mod_comesPunch 26 = .ok (.ireturn, 1) := by decide +kernel
def m_Mod_comesPunch (x1 : Int) (x2 : Int) (x3 : Int) (m_owner : Int → Int) (m_block : Int → Int) (m_written : Int → Int) (m_waits : Int → Int) : Option (Int × (Int → Int) × (Int → Int) × (Int → Int) × (Int → Int)) :=
  bnd (m_Mod_isPage x2) (fun r1 => ceq r1 0 (some (0, m_owner, m_block, m_written, m_waits)) (bnd (m_Mod_isSeries x2 x3) (fun r3 => ceq r3 0 (some (0, m_owner, m_block, m_written, m_waits)) (bnd (m_Mod_punches x1 x2 x3 m_owner m_block m_written m_waits) (fun r5 => some (1, r5.2.1, r5.2.2.1, r5.2.2.2.1, r5.2.2.2.2))))))
set_option maxHeartbeats 4000000 in
set_option maxRecDepth 100000 in
theorem c_Mod_comesPunch (l : Launch) (D : va_G) (cI cB : ClassId) (a0 a1 a2 a3 a4 a5 a6 a7 a8 a9 a10 a11 a12 a13 a14 a15 : Nat) (m_stepsMade : Int) (m_stepsMost : Int) (m_taped : Int) (m_reading : Int) (m_statements : Int) (m_telling : Int) (m_hasImage : Int) (m_isKeeping : Int) (m_cursor : Int) (m_rowMany : Int) (m_lots : Int) (m_refused : Int → Int) (m_bytes : Int → Int) (m_owner : Int → Int) (m_block : Int → Int) (m_written : Int → Int) (m_waits : Int → Int) (m_kinds : Int → Int) (m_tape : Int → Int) (m_sort : Int → Int) (m_sortAt : Int → Int) (m_told : Int → Int) (m_kept : Int → Int) (m_was : Int → Int) (m_ends : Int → Int) (m_row : Int → Int) (x1 : Int) (x2 : Int) (x3 : Int) {o : Int × (Int → Int) × (Int → Int) × (Int → Int) × (Int → Int)} (h : m_Mod_comesPunch x1 x2 x3 m_owner m_block m_written m_waits = some o) : Ct l D cI cB y_Mod_comesPunch b_Mod_comesPunch 4 (some .boolean) { frames := 2, cells := 0, slots := 0, locals := 46 } [.ref a0, .int (zi x1), .int (zi x2), .int (zi x3)] (w_Mod cI cB a0 a1 a2 a3 a4 a5 a6 a7 a8 a9 a10 a11 a12 a13 a14 a15 m_stepsMade m_stepsMost m_taped m_reading m_statements m_telling m_hasImage m_isKeeping m_cursor m_rowMany m_lots m_refused m_bytes m_owner m_block m_written m_waits m_kinds m_tape m_sort m_sortAt m_told m_kept m_was m_ends m_row) (w_Mod cI cB a0 a1 a2 a3 a4 a5 a6 a7 a8 a9 a10 a11 a12 a13 a14 a15 m_stepsMade m_stepsMost m_taped m_reading m_statements m_telling m_hasImage m_isKeeping m_cursor m_rowMany m_lots m_refused m_bytes o.2.1 o.2.2.1 o.2.2.2.1 o.2.2.2.2 m_kinds m_tape m_sort m_sortAt m_told m_kept m_was m_ends m_row) (some (.int (zi o.1))) := by
  refine Ct.start (by decide) (Nat.le_of_ble_eq_true rfl) (fun G X hR => ?_)
  refine x_ls (ls2 := [(0, .ref a0), (1, .int (zi x1)), (2, .int (zi x2)), (3, .int (zi x3))]) [0, 1, 2, 3] rfl ?_
  unfold m_Mod_comesPunch at h
  refine x_iload_n (pc := 0) X d_Mod_comesPunch_0 2 rfl rfl ?_
  obtain ⟨r1, h2, h⟩ := bnd_e h
  refine x_callS (pc := 1) (As := [.int (zi x2)]) (rest := []) (w2 := (w_Mod cI cB a0 a1 a2 a3 a4 a5 a6 a7 a8 a9 a10 a11 a12 a13 a14 a15 m_stepsMade m_stepsMost m_taped m_reading m_statements m_telling m_hasImage m_isKeeping m_cursor m_rowMany m_lots m_refused m_bytes m_owner m_block m_written m_waits m_kinds m_tape m_sort m_sortAt m_told m_kept m_was m_ends m_row)) X d_Mod_comesPunch_1 lk_Mod_199 mv_Mod_isPage (c_Mod_isPage l D cI cB x2 h2) ⟨(Nat.le_of_ble_eq_true rfl), (Nat.le_of_ble_eq_true rfl), (Nat.le_of_ble_eq_true rfl), (Nat.le_of_ble_eq_true rfl)⟩ [] rfl rfl rfl (Up.same rfl) rfl rfl (Nat.le_of_ble_eq_true rfl) ?_
  refine x_ifeq (pc := 4) (tgt := 15) X d_Mod_comesPunch_4 rfl h (fun h => ?_) (fun h => ?_)
  · skip
    refine x_iconst (pc := 15) X d_Mod_comesPunch_15  ?_
    cases h
    exact x_zret (pc := 16) X hR d_Mod_comesPunch_16 (Or.inl rfl)
  · skip
    refine x_iload_n (pc := 7) X d_Mod_comesPunch_7 2 rfl rfl ?_
    refine x_iload_n (pc := 8) X d_Mod_comesPunch_8 3 rfl rfl ?_
    obtain ⟨r3, h4, h⟩ := bnd_e h
    refine x_callS (pc := 9) (As := [.int (zi x2), .int (zi x3)]) (rest := []) (w2 := (w_Mod cI cB a0 a1 a2 a3 a4 a5 a6 a7 a8 a9 a10 a11 a12 a13 a14 a15 m_stepsMade m_stepsMost m_taped m_reading m_statements m_telling m_hasImage m_isKeeping m_cursor m_rowMany m_lots m_refused m_bytes m_owner m_block m_written m_waits m_kinds m_tape m_sort m_sortAt m_told m_kept m_was m_ends m_row)) X d_Mod_comesPunch_9 lk_Mod_209 mv_Mod_isSeries (c_Mod_isSeries l D cI cB x2 x3 h4) ⟨(Nat.le_of_ble_eq_true rfl), (Nat.le_of_ble_eq_true rfl), (Nat.le_of_ble_eq_true rfl), (Nat.le_of_ble_eq_true rfl)⟩ [] rfl rfl rfl (Up.same rfl) rfl rfl (Nat.le_of_ble_eq_true rfl) ?_
    refine x_ifne (pc := 12) (tgt := 17) X d_Mod_comesPunch_12 rfl h (fun h => ?_) (fun h => ?_)
    · skip
      refine x_aload_n (pc := 17) X d_Mod_comesPunch_17 0 rfl rfl ?_
      refine x_iload_n (pc := 18) X d_Mod_comesPunch_18 1 rfl rfl ?_
      refine x_iload_n (pc := 19) X d_Mod_comesPunch_19 2 rfl rfl ?_
      refine x_iload_n (pc := 20) X d_Mod_comesPunch_20 3 rfl rfl ?_
      obtain ⟨r5, h6, h⟩ := bnd_e h
      refine x_callV (pc := 21) (As := [.int (zi x1), .int (zi x2), .int (zi x3)]) (rest := []) (w2 := (w_Mod cI cB a0 a1 a2 a3 a4 a5 a6 a7 a8 a9 a10 a11 a12 a13 a14 a15 m_stepsMade m_stepsMost m_taped m_reading m_statements m_telling m_hasImage m_isKeeping m_cursor m_rowMany m_lots m_refused m_bytes r5.2.1 r5.2.2.1 r5.2.2.2.1 r5.2.2.2.2 m_kinds m_tape m_sort m_sortAt m_told m_kept m_was m_ends m_row)) X d_Mod_comesPunch_21 lk_Mod_218 mv_Mod_punches (c_Mod_punches l D cI cB a0 a1 a2 a3 a4 a5 a6 a7 a8 a9 a10 a11 a12 a13 a14 a15 m_stepsMade m_stepsMost m_taped m_reading m_statements m_telling m_hasImage m_isKeeping m_cursor m_rowMany m_lots m_refused m_bytes m_owner m_block m_written m_waits m_kinds m_tape m_sort m_sortAt m_told m_kept m_was m_ends m_row x1 x2 x3 h6) ⟨(Nat.le_of_ble_eq_true rfl), (Nat.le_of_ble_eq_true rfl), (Nat.le_of_ble_eq_true rfl), (Nat.le_of_ble_eq_true rfl)⟩ 0 rfl rfl [0, 1, 2, 3, 4, 5, 6, 7, 8, 9, 10, 11, 12, 13, 14, 15] rfl rfl rfl (Up.of [] [] rfl rfl rfl 16 rfl (by decide +kernel)) rfl rfl (Nat.le_of_ble_eq_true rfl) ?_
      refine x_pop (pc := 24) X d_Mod_comesPunch_24 rfl ?_
      refine x_iconst (pc := 25) X d_Mod_comesPunch_25  ?_
      cases h
      exact x_zret (pc := 26) X hR d_Mod_comesPunch_26 (Or.inr rfl)
    · skip
      refine x_iconst (pc := 15) X d_Mod_comesPunch_15  ?_
      cases h
      exact x_zret (pc := 16) X hR d_Mod_comesPunch_16 (Or.inl rfl)
theorem d_Mod_holesAmong_0 : decode b_Mod_holesAmong 0 = .ok (.iconst 0, 1) := by decide +kernel
theorem d_Mod_holesAmong_1 : decode b_Mod_holesAmong 1 = .ok (.istore 4, 2) := by decide +kernel
theorem d_Mod_holesAmong_3 : decode b_Mod_holesAmong 3 = .ok (.iconst 0, 1) := by decide +kernel
theorem d_Mod_holesAmong_4 : decode b_Mod_holesAmong 4 = .ok (.istore 5, 2) := by decide +kernel
theorem d_Mod_holesAmong_6 : decode b_Mod_holesAmong 6 = .ok (.iload 5, 2) := by decide +kernel
theorem d_Mod_holesAmong_8 : decode b_Mod_holesAmong 8 = .ok (.iload_n 3, 1) := by decide +kernel
theorem d_Mod_holesAmong_9 : decode b_Mod_holesAmong 9 = .ok (.if_icmp .ge 35, 3) := by decide +kernel
theorem d_Mod_holesAmong_12 : decode b_Mod_holesAmong 12 = .ok (.iload 4, 2) := by decide +kernel
theorem d_Mod_holesAmong_14 : decode b_Mod_holesAmong 14 = .ok (.aload_n 0, 1) := by decide +kernel
theorem d_Mod_holesAmong_15 : decode b_Mod_holesAmong 15 = .ok (.bipush 24, 2) := by decide +kernel
theorem d_Mod_holesAmong_17 : decode b_Mod_holesAmong 17 = .ok (.iload_n 1, 1) := by decide +kernel
theorem d_Mod_holesAmong_18 : decode b_Mod_holesAmong 18 = .ok (.imul, 1) := by decide +kernel
theorem d_Mod_holesAmong_19 : decode b_Mod_holesAmong 19 = .ok (.iload_n 2, 1) := by decide +kernel
theorem d_Mod_holesAmong_20 : decode b_Mod_holesAmong 20 = .ok (.iadd, 1) := by decide +kernel
theorem d_Mod_holesAmong_21 : decode b_Mod_holesAmong 21 = .ok (.iload 5, 2) := by decide +kernel
theorem d_Mod_holesAmong_23 : decode b_Mod_holesAmong 23 = .ok (.iadd, 1) := by decide +kernel
theorem d_Mod_holesAmong_24 : decode b_Mod_holesAmong 24 = .ok (.invokevirtual 159, 3) := by decide +kernel
theorem d_Mod_holesAmong_27 : decode b_Mod_holesAmong 27 = .ok (.ifCond .eq 7, 3) := by decide +kernel
theorem d_Mod_holesAmong_30 : decode b_Mod_holesAmong 30 = .ok (.iconst 1, 1) := by decide +kernel
theorem d_Mod_holesAmong_31 : decode b_Mod_holesAmong 31 = .ok (.goto 4, 3) := by decide +kernel
theorem d_Mod_holesAmong_34 : decode b_Mod_holesAmong 34 = .ok (.iconst 0, 1) := by decide +kernel
theorem d_Mod_holesAmong_35 : decode b_Mod_holesAmong 35 = .ok (.iadd, 1) := by decide +kernel
theorem d_Mod_holesAmong_36 : decode b_Mod_holesAmong 36 = .ok (.istore 4, 2) := by decide +kernel
theorem d_Mod_holesAmong_38 : decode b_Mod_holesAmong 38 = .ok (.iinc 5 1, 3) := by decide +kernel
theorem d_Mod_holesAmong_41 : decode b_Mod_holesAmong 41 = .ok (.goto (-35), 3) := by decide +kernel
theorem d_Mod_holesAmong_44 : decode b_Mod_holesAmong 44 = .ok (.iload 4, 2) := by decide +kernel
theorem d_Mod_holesAmong_46 : decode b_Mod_holesAmong 46 = .ok (.ireturn, 1) := by decide +kernel
def m_Mod_holesAmong_6 : Nat → Int → Int → Int → Int → Int → (Int → Int) → (Int → Int) → Option (Int)
  | 0, _, _, _, _, _, _, _ => none
  | fuel + 1, v1, v2, v3, v4, v5, m_block, m_waits =>
  clt v5 v3 (bnd (m_Mod_isHole (((24 * v1) + v2) + v5) m_block m_waits) (fun r1 => ceq r1 0 (m_Mod_holesAmong_6 fuel v1 v2 v3 (v4 + 0) (v5 + 1) m_block m_waits) (m_Mod_holesAmong_6 fuel v1 v2 v3 (v4 + 1) (v5 + 1) m_block m_waits))) (some (v4))
def m_Mod_holesAmong (x1 : Int) (x2 : Int) (x3 : Int) (m_block : Int → Int) (m_waits : Int → Int) : Option (Int) :=
  m_Mod_holesAmong_6 5000 x1 x2 x3 0 0 m_block m_waits
set_option maxHeartbeats 4000000 in
set_option maxRecDepth 100000 in
theorem l_Mod_holesAmong_6 {G : GT} {l : Launch} {D : va_G} {cI cB : ClassId} {a0 a1 a2 a3 a4 a5 a6 a7 a8 a9 a10 a11 a12 a13 a14 a15 : Nat} {m_stepsMade : Int} {m_stepsMost : Int} {m_taped : Int} {m_reading : Int} {m_statements : Int} {m_telling : Int} {m_hasImage : Int} {m_isKeeping : Int} {m_cursor : Int} {m_rowMany : Int} {m_lots : Int} {m_refused : Int → Int} {m_bytes : Int → Int} {m_owner : Int → Int} {m_written : Int → Int} {m_kinds : Int → Int} {m_tape : Int → Int} {m_sort : Int → Int} {m_sortAt : Int → Int} {m_told : Int → Int} {m_kept : Int → Int} {m_was : Int → Int} {m_ends : Int → Int} {m_row : Int → Int} (X : Cx G l D cI cB b_Mod_holesAmong y_Mod_holesAmong.cls 6 { frames := 2, cells := 0, slots := 0, locals := 42 }) : ∀ (fuel : Nat) (v1 : Int) (v2 : Int) (v3 : Int) (v4 : Int) (v5 : Int) (m_block : Int → Int) (m_waits : Int → Int) (o : Int), m_Mod_holesAmong_6 fuel v1 v2 v3 v4 v5 m_block m_waits = some o → Rt G (some .int) (some (.int (zi o))) (w_Mod cI cB a0 a1 a2 a3 a4 a5 a6 a7 a8 a9 a10 a11 a12 a13 a14 a15 m_stepsMade m_stepsMost m_taped m_reading m_statements m_telling m_hasImage m_isKeeping m_cursor m_rowMany m_lots m_refused m_bytes m_owner m_block m_written m_waits m_kinds m_tape m_sort m_sortAt m_told m_kept m_was m_ends m_row) → Wx G 0 0 6 [(0, .ref a0), (1, .int (zi v1)), (2, .int (zi v2)), (3, .int (zi v3)), (4, .int (zi v4)), (5, .int (zi v5))] [] (w_Mod cI cB a0 a1 a2 a3 a4 a5 a6 a7 a8 a9 a10 a11 a12 a13 a14 a15 m_stepsMade m_stepsMost m_taped m_reading m_statements m_telling m_hasImage m_isKeeping m_cursor m_rowMany m_lots m_refused m_bytes m_owner m_block m_written m_waits m_kinds m_tape m_sort m_sortAt m_told m_kept m_was m_ends m_row) := by
  intro fuel
  induction fuel with
  | zero =>
    intro v1 v2 v3 v4 v5 m_block m_waits o h
    exact absurd h (by simp [m_Mod_holesAmong_6])
  | succ fuel ih =>
    intro v1 v2 v3 v4 v5 m_block m_waits o h hR
    rw [m_Mod_holesAmong_6] at h
    refine x_iload (pc := 6) X d_Mod_holesAmong_6 5 rfl ?_
    refine x_iload_n (pc := 8) X d_Mod_holesAmong_8 3 rfl rfl ?_
    refine x_icmpge (pc := 9) (tgt := 44) X d_Mod_holesAmong_9 rfl h (fun h => ?_) (fun h => ?_)
    · skip
      refine x_iload (pc := 44) X d_Mod_holesAmong_44 4 rfl ?_
      cases h
      exact x_iret (pc := 46) X hR d_Mod_holesAmong_46
    · skip
      refine x_iload (pc := 12) X d_Mod_holesAmong_12 4 rfl ?_
      refine x_aload_n (pc := 14) X d_Mod_holesAmong_14 0 rfl rfl ?_
      refine x_bipush (pc := 15) (v := 24) X d_Mod_holesAmong_15 rfl ?_
      refine x_iload_n (pc := 17) X d_Mod_holesAmong_17 1 rfl rfl ?_
      refine x_imul (pc := 18) X d_Mod_holesAmong_18  ?_
      refine x_iload_n (pc := 19) X d_Mod_holesAmong_19 2 rfl rfl ?_
      refine x_iadd (pc := 20) X d_Mod_holesAmong_20  ?_
      refine x_iload (pc := 21) X d_Mod_holesAmong_21 5 rfl ?_
      refine x_iadd (pc := 23) X d_Mod_holesAmong_23  ?_
      obtain ⟨r1, h2, h⟩ := bnd_e h
      refine x_callV (pc := 24) (As := [.int (zi (((24 * v1) + v2) + v5))]) (rest := [.int (zi v4)]) (w2 := (w_Mod cI cB a0 a1 a2 a3 a4 a5 a6 a7 a8 a9 a10 a11 a12 a13 a14 a15 m_stepsMade m_stepsMost m_taped m_reading m_statements m_telling m_hasImage m_isKeeping m_cursor m_rowMany m_lots m_refused m_bytes m_owner m_block m_written m_waits m_kinds m_tape m_sort m_sortAt m_told m_kept m_was m_ends m_row)) X d_Mod_holesAmong_24 lk_Mod_159 mv_Mod_isHole (c_Mod_isHole l D cI cB a0 a1 a2 a3 a4 a5 a6 a7 a8 a9 a10 a11 a12 a13 a14 a15 m_stepsMade m_stepsMost m_taped m_reading m_statements m_telling m_hasImage m_isKeeping m_cursor m_rowMany m_lots m_refused m_bytes m_owner m_block m_written m_waits m_kinds m_tape m_sort m_sortAt m_told m_kept m_was m_ends m_row (((24 * v1) + v2) + v5) h2) ⟨(Nat.le_of_ble_eq_true rfl), (Nat.le_of_ble_eq_true rfl), (Nat.le_of_ble_eq_true rfl), (Nat.le_of_ble_eq_true rfl)⟩ 0 rfl rfl [0, 1, 2, 3, 4, 5, 6, 7, 8, 9, 10, 11, 12, 13, 14, 15] rfl rfl rfl (Up.same rfl) rfl rfl (Nat.le_of_ble_eq_true rfl) ?_
      refine x_ifeq (pc := 27) (tgt := 34) X d_Mod_holesAmong_27 rfl h (fun h => ?_) (fun h => ?_)
      · skip
        refine x_iconst (pc := 34) X d_Mod_holesAmong_34  ?_
        refine x_iadd (pc := 35) X d_Mod_holesAmong_35  ?_
        refine x_istore (pc := 36) (ls2 := [(4, .int (zi (v4 + 0))), (0, .ref a0), (1, .int (zi v1)), (2, .int (zi v2)), (3, .int (zi v3)), (5, .int (zi v5))]) X d_Mod_holesAmong_36 (Nat.le_of_ble_eq_true rfl) rfl ?_
        refine x_iinc (pc := 38) (ls2 := [(5, .int (zi (v5 + 1))), (4, .int (zi (v4 + 0))), (0, .ref a0), (1, .int (zi v1)), (2, .int (zi v2)), (3, .int (zi v3))]) X d_Mod_holesAmong_38 5 (Nat.le_of_ble_eq_true rfl) rfl rfl ?_
        refine x_goto (pc := 41) (tgt := 6) X d_Mod_holesAmong_41 rfl ?_
        refine x_ls (ls2 := [(0, .ref a0), (1, .int (zi v1)), (2, .int (zi v2)), (3, .int (zi v3)), (4, .int (zi (v4 + 0))), (5, .int (zi (v5 + 1)))]) [2, 3, 4, 5, 1, 0] rfl ?_
        exact ih v1 v2 v3 (v4 + 0) (v5 + 1) m_block m_waits o h hR
      · skip
        refine x_iconst (pc := 30) X d_Mod_holesAmong_30  ?_
        refine x_goto (pc := 31) (tgt := 35) X d_Mod_holesAmong_31 rfl ?_
        refine x_iadd (pc := 35) X d_Mod_holesAmong_35  ?_
        refine x_istore (pc := 36) (ls2 := [(4, .int (zi (v4 + 1))), (0, .ref a0), (1, .int (zi v1)), (2, .int (zi v2)), (3, .int (zi v3)), (5, .int (zi v5))]) X d_Mod_holesAmong_36 (Nat.le_of_ble_eq_true rfl) rfl ?_
        refine x_iinc (pc := 38) (ls2 := [(5, .int (zi (v5 + 1))), (4, .int (zi (v4 + 1))), (0, .ref a0), (1, .int (zi v1)), (2, .int (zi v2)), (3, .int (zi v3))]) X d_Mod_holesAmong_38 5 (Nat.le_of_ble_eq_true rfl) rfl rfl ?_
        refine x_goto (pc := 41) (tgt := 6) X d_Mod_holesAmong_41 rfl ?_
        refine x_ls (ls2 := [(0, .ref a0), (1, .int (zi v1)), (2, .int (zi v2)), (3, .int (zi v3)), (4, .int (zi (v4 + 1))), (5, .int (zi (v5 + 1)))]) [2, 3, 4, 5, 1, 0] rfl ?_
        exact ih v1 v2 v3 (v4 + 1) (v5 + 1) m_block m_waits o h hR
set_option maxHeartbeats 4000000 in
set_option maxRecDepth 100000 in
theorem c_Mod_holesAmong (l : Launch) (D : va_G) (cI cB : ClassId) (a0 a1 a2 a3 a4 a5 a6 a7 a8 a9 a10 a11 a12 a13 a14 a15 : Nat) (m_stepsMade : Int) (m_stepsMost : Int) (m_taped : Int) (m_reading : Int) (m_statements : Int) (m_telling : Int) (m_hasImage : Int) (m_isKeeping : Int) (m_cursor : Int) (m_rowMany : Int) (m_lots : Int) (m_refused : Int → Int) (m_bytes : Int → Int) (m_owner : Int → Int) (m_block : Int → Int) (m_written : Int → Int) (m_waits : Int → Int) (m_kinds : Int → Int) (m_tape : Int → Int) (m_sort : Int → Int) (m_sortAt : Int → Int) (m_told : Int → Int) (m_kept : Int → Int) (m_was : Int → Int) (m_ends : Int → Int) (m_row : Int → Int) (x1 : Int) (x2 : Int) (x3 : Int) {o : Int} (h : m_Mod_holesAmong x1 x2 x3 m_block m_waits = some o) : Ct l D cI cB y_Mod_holesAmong b_Mod_holesAmong 6 (some .int) { frames := 2, cells := 0, slots := 0, locals := 42 } [.ref a0, .int (zi x1), .int (zi x2), .int (zi x3)] (w_Mod cI cB a0 a1 a2 a3 a4 a5 a6 a7 a8 a9 a10 a11 a12 a13 a14 a15 m_stepsMade m_stepsMost m_taped m_reading m_statements m_telling m_hasImage m_isKeeping m_cursor m_rowMany m_lots m_refused m_bytes m_owner m_block m_written m_waits m_kinds m_tape m_sort m_sortAt m_told m_kept m_was m_ends m_row) (w_Mod cI cB a0 a1 a2 a3 a4 a5 a6 a7 a8 a9 a10 a11 a12 a13 a14 a15 m_stepsMade m_stepsMost m_taped m_reading m_statements m_telling m_hasImage m_isKeeping m_cursor m_rowMany m_lots m_refused m_bytes m_owner m_block m_written m_waits m_kinds m_tape m_sort m_sortAt m_told m_kept m_was m_ends m_row) (some (.int (zi o))) := by
  refine Ct.start (by decide) (Nat.le_of_ble_eq_true rfl) (fun G X hR => ?_)
  refine x_ls (ls2 := [(0, .ref a0), (1, .int (zi x1)), (2, .int (zi x2)), (3, .int (zi x3))]) [0, 1, 2, 3] rfl ?_
  unfold m_Mod_holesAmong at h
  refine x_iconst (pc := 0) X d_Mod_holesAmong_0  ?_
  refine x_istore (pc := 1) (ls2 := [(4, .int (zi 0)), (0, .ref a0), (1, .int (zi x1)), (2, .int (zi x2)), (3, .int (zi x3))]) X d_Mod_holesAmong_1 (Nat.le_of_ble_eq_true rfl) rfl ?_
  refine x_iconst (pc := 3) X d_Mod_holesAmong_3  ?_
  refine x_istore (pc := 4) (ls2 := [(5, .int (zi 0)), (4, .int (zi 0)), (0, .ref a0), (1, .int (zi x1)), (2, .int (zi x2)), (3, .int (zi x3))]) X d_Mod_holesAmong_4 (Nat.le_of_ble_eq_true rfl) rfl ?_
  refine x_ls (ls2 := [(0, .ref a0), (1, .int (zi x1)), (2, .int (zi x2)), (3, .int (zi x3)), (4, .int (zi 0)), (5, .int (zi 0))]) [2, 3, 4, 5, 1, 0] rfl ?_
  exact l_Mod_holesAmong_6 X 5000 x1 x2 x3 0 0 m_block m_waits o h hR
