theorem d_Mod_goesAhead_0 : decode b_Mod_goesAhead 0 = .ok (.aload_n 0, 1) := by decide +kernel
theorem d_Mod_goesAhead_1 : decode b_Mod_goesAhead 1 = .ok (.iconst 0, 1) := by decide +kernel
theorem d_Mod_goesAhead_2 : decode b_Mod_goesAhead 2 = .ok (.putfield 99, 3) := by decide +kernel
theorem d_Mod_goesAhead_5 : decode b_Mod_goesAhead 5 = .ok (.aload_n 0, 1) := by decide +kernel
theorem d_Mod_goesAhead_6 : decode b_Mod_goesAhead 6 = .ok (.ldc 165, 2) := by decide +kernel
theorem d_Mod_goesAhead_8 : decode b_Mod_goesAhead 8 = .ok (.putfield 103, 3) := by decide +kernel
theorem d_Mod_goesAhead_11 : decode b_Mod_goesAhead 11 = .ok (.iconst 0, 1) := by decide +kernel
theorem d_Mod_goesAhead_12 : decode b_Mod_goesAhead 12 = .ok (.istore 4, 2) := by decide +kernel
theorem d_Mod_goesAhead_14 : decode b_Mod_goesAhead 14 = .ok (.iload 4, 2) := by decide +kernel
theorem d_Mod_goesAhead_16 : decode b_Mod_goesAhead 16 = .ok (.iload_n 3, 1) := by decide +kernel
theorem d_Mod_goesAhead_17 : decode b_Mod_goesAhead 17 = .ok (.if_icmp .ge 67, 3) := by decide +kernel
theorem d_Mod_goesAhead_20 : decode b_Mod_goesAhead 20 = .ok (.iconst 0, 1) := by decide +kernel
theorem d_Mod_goesAhead_21 : decode b_Mod_goesAhead 21 = .ok (.istore 5, 2) := by decide +kernel
theorem d_Mod_goesAhead_23 : decode b_Mod_goesAhead 23 = .ok (.iload 4, 2) := by decide +kernel
theorem d_Mod_goesAhead_25 : decode b_Mod_goesAhead 25 = .ok (.iload 5, 2) := by decide +kernel
theorem d_Mod_goesAhead_27 : decode b_Mod_goesAhead 27 = .ok (.iadd, 1) := by decide +kernel
theorem d_Mod_goesAhead_28 : decode b_Mod_goesAhead 28 = .ok (.iload_n 3, 1) := by decide +kernel
theorem d_Mod_goesAhead_29 : decode b_Mod_goesAhead 29 = .ok (.if_icmp .ge 28, 3) := by decide +kernel
theorem d_Mod_goesAhead_32 : decode b_Mod_goesAhead 32 = .ok (.aload_n 0, 1) := by decide +kernel
theorem d_Mod_goesAhead_33 : decode b_Mod_goesAhead 33 = .ok (.bipush 24, 2) := by decide +kernel
theorem d_Mod_goesAhead_35 : decode b_Mod_goesAhead 35 = .ok (.iload_n 1, 1) := by decide +kernel
theorem d_Mod_goesAhead_36 : decode b_Mod_goesAhead 36 = .ok (.imul, 1) := by decide +kernel
theorem d_Mod_goesAhead_37 : decode b_Mod_goesAhead 37 = .ok (.iload_n 2, 1) := by decide +kernel
theorem d_Mod_goesAhead_38 : decode b_Mod_goesAhead 38 = .ok (.iadd, 1) := by decide +kernel
theorem d_Mod_goesAhead_39 : decode b_Mod_goesAhead 39 = .ok (.iload 4, 2) := by decide +kernel
theorem d_Mod_goesAhead_41 : decode b_Mod_goesAhead 41 = .ok (.iadd, 1) := by decide +kernel
theorem d_Mod_goesAhead_42 : decode b_Mod_goesAhead 42 = .ok (.iload 5, 2) := by decide +kernel
theorem d_Mod_goesAhead_44 : decode b_Mod_goesAhead 44 = .ok (.iadd, 1) := by decide +kernel
theorem d_Mod_goesAhead_45 : decode b_Mod_goesAhead 45 = .ok (.invokevirtual 159, 3) := by decide +kernel
theorem d_Mod_goesAhead_48 : decode b_Mod_goesAhead 48 = .ok (.ifCond .eq 9, 3) := by decide +kernel
theorem d_Mod_goesAhead_51 : decode b_Mod_goesAhead 51 = .ok (.iinc 5 1, 3) := by decide +kernel
theorem d_Mod_goesAhead_54 : decode b_Mod_goesAhead 54 = .ok (.goto (-31), 3) := by decide +kernel
theorem d_Mod_goesAhead_57 : decode b_Mod_goesAhead 57 = .ok (.iload 5, 2) := by decide +kernel
theorem d_Mod_goesAhead_59 : decode b_Mod_goesAhead 59 = .ok (.ifCond .le 19, 3) := by decide +kernel
theorem d_Mod_goesAhead_62 : decode b_Mod_goesAhead 62 = .ok (.aload_n 0, 1) := by decide +kernel
theorem d_Mod_goesAhead_63 : decode b_Mod_goesAhead 63 = .ok (.bipush 24, 2) := by decide +kernel
theorem d_Mod_goesAhead_65 : decode b_Mod_goesAhead 65 = .ok (.iload_n 1, 1) := by decide +kernel
theorem d_Mod_goesAhead_66 : decode b_Mod_goesAhead 66 = .ok (.imul, 1) := by decide +kernel
theorem d_Mod_goesAhead_67 : decode b_Mod_goesAhead 67 = .ok (.iload_n 2, 1) := by decide +kernel
theorem d_Mod_goesAhead_68 : decode b_Mod_goesAhead 68 = .ok (.iadd, 1) := by decide +kernel
theorem d_Mod_goesAhead_69 : decode b_Mod_goesAhead 69 = .ok (.iload 4, 2) := by decide +kernel
theorem d_Mod_goesAhead_71 : decode b_Mod_goesAhead 71 = .ok (.iadd, 1) := by decide +kernel
theorem d_Mod_goesAhead_72 : decode b_Mod_goesAhead 72 = .ok (.iload 5, 2) := by decide +kernel
theorem d_Mod_goesAhead_74 : decode b_Mod_goesAhead 74 = .ok (.invokevirtual 139, 3) := by decide +kernel
theorem d_Mod_goesAhead_77 : decode b_Mod_goesAhead 77 = .ok (.pop, 1) := by decide +kernel
theorem d_Mod_goesAhead_78 : decode b_Mod_goesAhead 78 = .ok (.iinc 4 1, 3) := by decide +kernel
theorem d_Mod_goesAhead_81 : decode b_Mod_goesAhead 81 = .ok (.goto (-67), 3) := by decide +kernel
theorem d_Mod_goesAhead_84 : decode b_Mod_goesAhead 84 = .ok (.return_, 1) := by decide +kernel
def m_Mod_goesAhead_23 (kk : Int → Int → Int → Int → Int → Int → Int → (Int → Int) → (Int → Int) → (Int → Int) → Option (Int × Int × (Int → Int) × (Int → Int) × (Int → Int))) : Nat → Int → Int → Int → Int → Int → Int → Int → (Int → Int) → (Int → Int) → (Int → Int) → (Int → Int) → (Int → Int) → Option (Int × Int × (Int → Int) × (Int → Int) × (Int → Int))
  | 0, _, _, _, _, _, _, _, _, _, _, _, _ => none
  | fuel + 1, v1, v2, v3, v4, v5, m_stepsMade, m_stepsMost, m_owner, m_block, m_written, m_waits, m_kinds =>
  clt (v4 + v5) v3 (bnd (m_Mod_isHole ((((24 * v1) + v2) + v4) + v5) m_block m_waits) (fun r1 => ceq r1 0 (kk v1 v2 v3 v4 v5 m_stepsMade m_stepsMost m_owner m_block m_written) (m_Mod_goesAhead_23 kk fuel v1 v2 v3 v4 (v5 + 1) m_stepsMade m_stepsMost m_owner m_block m_written m_waits m_kinds))) (kk v1 v2 v3 v4 v5 m_stepsMade m_stepsMost m_owner m_block m_written)
def m_Mod_goesAhead_14 : Nat → Int → Int → Int → Int → Int → Int → (Int → Int) → (Int → Int) → (Int → Int) → (Int → Int) → (Int → Int) → Option (Int × Int × (Int → Int) × (Int → Int) × (Int → Int))
  | 0, _, _, _, _, _, _, _, _, _, _, _ => none
  | fuel + 1, v1, v2, v3, v4, m_stepsMade, m_stepsMost, m_owner, m_block, m_written, m_waits, m_kinds =>
  clt v4 v3 (m_Mod_goesAhead_23 (fun (z3 : Int) (z4 : Int) (z5 : Int) (z6 : Int) (z7 : Int) (c8 : Int) (c9 : Int) (c10 : Int → Int) (c11 : Int → Int) (c12 : Int → Int) => cle z7 0 (m_Mod_goesAhead_14 fuel z3 z4 z5 (z6 + 1) c8 c9 c10 c11 c12 m_waits m_kinds) (bnd (m_Mod_puts (((24 * z3) + z4) + z6) z7 c8 c9 c10 c11 c12 m_kinds) (fun r13 => m_Mod_goesAhead_14 fuel z3 z4 z5 (z6 + 1) r13.2.1 c9 r13.2.2.1 r13.2.2.2.1 r13.2.2.2.2 m_waits m_kinds))) 5000 v1 v2 v3 v4 0 m_stepsMade m_stepsMost m_owner m_block m_written m_waits m_kinds) (some (m_stepsMade, m_stepsMost, m_owner, m_block, m_written))
def m_Mod_goesAhead (x1 : Int) (x2 : Int) (x3 : Int) (m_stepsMade : Int) (m_stepsMost : Int) (m_owner : Int → Int) (m_block : Int → Int) (m_written : Int → Int) (m_waits : Int → Int) (m_kinds : Int → Int) : Option (Int × Int × (Int → Int) × (Int → Int) × (Int → Int)) :=
  m_Mod_goesAhead_14 5000 x1 x2 x3 0 0 1000000 m_owner m_block m_written m_waits m_kinds
set_option maxHeartbeats 4000000 in
set_option maxRecDepth 100000 in
theorem l_Mod_goesAhead_23 {G : GT} {l : Launch} {D : va_G} {cI cB : ClassId} {a0 a1 a2 a3 a4 a5 a6 a7 a8 a9 a10 a11 a12 a13 a14 a15 : Nat} {m_taped : Int} {m_reading : Int} {m_statements : Int} {m_telling : Int} {m_hasImage : Int} {m_isKeeping : Int} {m_cursor : Int} {m_rowMany : Int} {m_lots : Int} {m_refused : Int → Int} {m_bytes : Int → Int} {m_tape : Int → Int} {m_sort : Int → Int} {m_sortAt : Int → Int} {m_told : Int → Int} {m_kept : Int → Int} {m_was : Int → Int} {m_ends : Int → Int} {m_row : Int → Int} (X : Cx G l D cI cB b_Mod_goesAhead y_Mod_goesAhead.cls 6 { frames := 4, cells := 0, slots := 0, locals := 97 }) (kk : Int → Int → Int → Int → Int → Int → Int → (Int → Int) → (Int → Int) → (Int → Int) → Option (Int × Int × (Int → Int) × (Int → Int) × (Int → Int))) : ∀ (fuel : Nat) (v1 : Int) (v2 : Int) (v3 : Int) (v4 : Int) (v5 : Int) (m_stepsMade : Int) (m_stepsMost : Int) (m_owner : Int → Int) (m_block : Int → Int) (m_written : Int → Int) (m_waits : Int → Int) (m_kinds : Int → Int) (o : Int × Int × (Int → Int) × (Int → Int) × (Int → Int)), m_Mod_goesAhead_23 kk fuel v1 v2 v3 v4 v5 m_stepsMade m_stepsMost m_owner m_block m_written m_waits m_kinds = some o → (∀ (z1 : Int) (z2 : Int) (z3 : Int) (z4 : Int) (z5 : Int) (k_m_stepsMade : Int) (k_m_stepsMost : Int) (k_m_owner : Int → Int) (k_m_block : Int → Int) (k_m_written : Int → Int), kk z1 z2 z3 z4 z5 k_m_stepsMade k_m_stepsMost k_m_owner k_m_block k_m_written = some o → Wx G 0 0 57 [(0, .ref a0), (1, .int (zi z1)), (2, .int (zi z2)), (3, .int (zi z3)), (4, .int (zi z4)), (5, .int (zi z5))] [] (w_Mod cI cB a0 a1 a2 a3 a4 a5 a6 a7 a8 a9 a10 a11 a12 a13 a14 a15 k_m_stepsMade k_m_stepsMost m_taped m_reading m_statements m_telling m_hasImage m_isKeeping m_cursor m_rowMany m_lots m_refused m_bytes k_m_owner k_m_block k_m_written m_waits m_kinds m_tape m_sort m_sortAt m_told m_kept m_was m_ends m_row)) → Wx G 0 0 23 [(0, .ref a0), (1, .int (zi v1)), (2, .int (zi v2)), (3, .int (zi v3)), (4, .int (zi v4)), (5, .int (zi v5))] [] (w_Mod cI cB a0 a1 a2 a3 a4 a5 a6 a7 a8 a9 a10 a11 a12 a13 a14 a15 m_stepsMade m_stepsMost m_taped m_reading m_statements m_telling m_hasImage m_isKeeping m_cursor m_rowMany m_lots m_refused m_bytes m_owner m_block m_written m_waits m_kinds m_tape m_sort m_sortAt m_told m_kept m_was m_ends m_row) := by
  intro fuel
  induction fuel with
  | zero =>
    intro v1 v2 v3 v4 v5 m_stepsMade m_stepsMost m_owner m_block m_written m_waits m_kinds o h
    exact absurd h (by simp [m_Mod_goesAhead_23])
  | succ fuel ih =>
    intro v1 v2 v3 v4 v5 m_stepsMade m_stepsMost m_owner m_block m_written m_waits m_kinds o h hk
    rw [m_Mod_goesAhead_23] at h
    refine x_iload (pc := 23) X d_Mod_goesAhead_23 4 rfl ?_
    refine x_iload (pc := 25) X d_Mod_goesAhead_25 5 rfl ?_
    refine x_iadd (pc := 27) X d_Mod_goesAhead_27  ?_
    refine x_iload_n (pc := 28) X d_Mod_goesAhead_28 3 rfl rfl ?_
    refine x_icmpge (pc := 29) (tgt := 57) X d_Mod_goesAhead_29 rfl h (fun h => ?_) (fun h => ?_)
    · skip
      exact hk v1 v2 v3 v4 v5 m_stepsMade m_stepsMost m_owner m_block m_written h
    · skip
      refine x_aload_n (pc := 32) X d_Mod_goesAhead_32 0 rfl rfl ?_
      refine x_bipush (pc := 33) (v := 24) X d_Mod_goesAhead_33 rfl ?_
      refine x_iload_n (pc := 35) X d_Mod_goesAhead_35 1 rfl rfl ?_
      refine x_imul (pc := 36) X d_Mod_goesAhead_36  ?_
      refine x_iload_n (pc := 37) X d_Mod_goesAhead_37 2 rfl rfl ?_
      refine x_iadd (pc := 38) X d_Mod_goesAhead_38  ?_
      refine x_iload (pc := 39) X d_Mod_goesAhead_39 4 rfl ?_
      refine x_iadd (pc := 41) X d_Mod_goesAhead_41  ?_
      refine x_iload (pc := 42) X d_Mod_goesAhead_42 5 rfl ?_
      refine x_iadd (pc := 44) X d_Mod_goesAhead_44  ?_
      obtain ⟨r1, h2, h⟩ := bnd_e h
      refine x_callV (pc := 45) (As := [.int (zi ((((24 * v1) + v2) + v4) + v5))]) (rest := []) (w2 := (w_Mod cI cB a0 a1 a2 a3 a4 a5 a6 a7 a8 a9 a10 a11 a12 a13 a14 a15 m_stepsMade m_stepsMost m_taped m_reading m_statements m_telling m_hasImage m_isKeeping m_cursor m_rowMany m_lots m_refused m_bytes m_owner m_block m_written m_waits m_kinds m_tape m_sort m_sortAt m_told m_kept m_was m_ends m_row)) X d_Mod_goesAhead_45 lk_Mod_159 mv_Mod_isHole (c_Mod_isHole l D cI cB a0 a1 a2 a3 a4 a5 a6 a7 a8 a9 a10 a11 a12 a13 a14 a15 m_stepsMade m_stepsMost m_taped m_reading m_statements m_telling m_hasImage m_isKeeping m_cursor m_rowMany m_lots m_refused m_bytes m_owner m_block m_written m_waits m_kinds m_tape m_sort m_sortAt m_told m_kept m_was m_ends m_row ((((24 * v1) + v2) + v4) + v5) h2) ⟨(Nat.le_of_ble_eq_true rfl), (Nat.le_of_ble_eq_true rfl), (Nat.le_of_ble_eq_true rfl), (Nat.le_of_ble_eq_true rfl)⟩ 0 rfl rfl [0, 1, 2, 3, 4, 5, 6, 7, 8, 9, 10, 11, 12, 13, 14, 15] rfl rfl rfl (Up.same rfl) rfl rfl (Nat.le_of_ble_eq_true rfl) ?_
      refine x_ifeq (pc := 48) (tgt := 57) X d_Mod_goesAhead_48 rfl h (fun h => ?_) (fun h => ?_)
      · skip
        exact hk v1 v2 v3 v4 v5 m_stepsMade m_stepsMost m_owner m_block m_written h
      · skip
        refine x_iinc (pc := 51) (ls2 := [(5, .int (zi (v5 + 1))), (0, .ref a0), (1, .int (zi v1)), (2, .int (zi v2)), (3, .int (zi v3)), (4, .int (zi v4))]) X d_Mod_goesAhead_51 5 (Nat.le_of_ble_eq_true rfl) rfl rfl ?_
        refine x_goto (pc := 54) (tgt := 23) X d_Mod_goesAhead_54 rfl ?_
        refine x_ls (ls2 := [(0, .ref a0), (1, .int (zi v1)), (2, .int (zi v2)), (3, .int (zi v3)), (4, .int (zi v4)), (5, .int (zi (v5 + 1)))]) [1, 2, 3, 4, 5, 0] rfl ?_
        exact ih v1 v2 v3 v4 (v5 + 1) m_stepsMade m_stepsMost m_owner m_block m_written m_waits m_kinds o h hk
set_option maxHeartbeats 4000000 in
set_option maxRecDepth 100000 in
theorem l_Mod_goesAhead_14 {G : GT} {l : Launch} {D : va_G} {cI cB : ClassId} {a0 a1 a2 a3 a4 a5 a6 a7 a8 a9 a10 a11 a12 a13 a14 a15 : Nat} {m_taped : Int} {m_reading : Int} {m_statements : Int} {m_telling : Int} {m_hasImage : Int} {m_isKeeping : Int} {m_cursor : Int} {m_rowMany : Int} {m_lots : Int} {m_refused : Int → Int} {m_bytes : Int → Int} {m_tape : Int → Int} {m_sort : Int → Int} {m_sortAt : Int → Int} {m_told : Int → Int} {m_kept : Int → Int} {m_was : Int → Int} {m_ends : Int → Int} {m_row : Int → Int} (X : Cx G l D cI cB b_Mod_goesAhead y_Mod_goesAhead.cls 6 { frames := 4, cells := 0, slots := 0, locals := 97 }) : ∀ (fuel : Nat) (v1 : Int) (v2 : Int) (v3 : Int) (v4 : Int) (m_stepsMade : Int) (m_stepsMost : Int) (m_owner : Int → Int) (m_block : Int → Int) (m_written : Int → Int) (m_waits : Int → Int) (m_kinds : Int → Int) (o : Int × Int × (Int → Int) × (Int → Int) × (Int → Int)), m_Mod_goesAhead_14 fuel v1 v2 v3 v4 m_stepsMade m_stepsMost m_owner m_block m_written m_waits m_kinds = some o → Rt G none none (w_Mod cI cB a0 a1 a2 a3 a4 a5 a6 a7 a8 a9 a10 a11 a12 a13 a14 a15 o.1 o.2.1 m_taped m_reading m_statements m_telling m_hasImage m_isKeeping m_cursor m_rowMany m_lots m_refused m_bytes o.2.2.1 o.2.2.2.1 o.2.2.2.2 m_waits m_kinds m_tape m_sort m_sortAt m_told m_kept m_was m_ends m_row) → Wx G 0 0 14 [(0, .ref a0), (1, .int (zi v1)), (2, .int (zi v2)), (3, .int (zi v3)), (4, .int (zi v4))] [] (w_Mod cI cB a0 a1 a2 a3 a4 a5 a6 a7 a8 a9 a10 a11 a12 a13 a14 a15 m_stepsMade m_stepsMost m_taped m_reading m_statements m_telling m_hasImage m_isKeeping m_cursor m_rowMany m_lots m_refused m_bytes m_owner m_block m_written m_waits m_kinds m_tape m_sort m_sortAt m_told m_kept m_was m_ends m_row) := by
  intro fuel
  induction fuel with
  | zero =>
    intro v1 v2 v3 v4 m_stepsMade m_stepsMost m_owner m_block m_written m_waits m_kinds o h
    exact absurd h (by simp [m_Mod_goesAhead_14])
  | succ fuel ih =>
    intro v1 v2 v3 v4 m_stepsMade m_stepsMost m_owner m_block m_written m_waits m_kinds o h hR
    rw [m_Mod_goesAhead_14] at h
    refine x_iload (pc := 14) X d_Mod_goesAhead_14 4 rfl ?_
    refine x_iload_n (pc := 16) X d_Mod_goesAhead_16 3 rfl rfl ?_
    refine x_icmpge (pc := 17) (tgt := 84) X d_Mod_goesAhead_17 rfl h (fun h => ?_) (fun h => ?_)
    · skip
      cases h
      exact x_vret (pc := 84) X hR d_Mod_goesAhead_84
    · skip
      refine x_iconst (pc := 20) X d_Mod_goesAhead_20  ?_
      refine x_istore (pc := 21) (ls2 := [(5, .int (zi 0)), (0, .ref a0), (1, .int (zi v1)), (2, .int (zi v2)), (3, .int (zi v3)), (4, .int (zi v4))]) X d_Mod_goesAhead_21 (Nat.le_of_ble_eq_true rfl) rfl ?_
      refine x_ls (ls2 := [(0, .ref a0), (1, .int (zi v1)), (2, .int (zi v2)), (3, .int (zi v3)), (4, .int (zi v4)), (5, .int (zi 0))]) [1, 2, 3, 4, 5, 0] rfl ?_
      refine l_Mod_goesAhead_23 X _ 5000 v1 v2 v3 v4 0 m_stepsMade m_stepsMost m_owner m_block m_written m_waits m_kinds o h (fun z3 z4 z5 z6 z7 c8 c9 c10 c11 c12 h => ?_)
      · (try dsimp only at h)
        refine x_iload (pc := 57) X d_Mod_goesAhead_57 5 rfl ?_
        refine x_ifle (pc := 59) (tgt := 78) X d_Mod_goesAhead_59 rfl h (fun h => ?_) (fun h => ?_)
        · skip
          refine x_iinc (pc := 78) (ls2 := [(4, .int (zi (z6 + 1))), (0, .ref a0), (1, .int (zi z3)), (2, .int (zi z4)), (3, .int (zi z5)), (5, .int (zi z7))]) X d_Mod_goesAhead_78 4 (Nat.le_of_ble_eq_true rfl) rfl rfl ?_
          refine x_goto (pc := 81) (tgt := 14) X d_Mod_goesAhead_81 rfl ?_
          refine x_ls (ls2 := [(0, .ref a0), (1, .int (zi z3)), (2, .int (zi z4)), (3, .int (zi z5)), (4, .int (zi (z6 + 1)))]) [1, 2, 3, 4, 0] rfl ?_
          exact ih z3 z4 z5 (z6 + 1) c8 c9 c10 c11 c12 m_waits m_kinds o h hR
        · skip
          refine x_aload_n (pc := 62) X d_Mod_goesAhead_62 0 rfl rfl ?_
          refine x_bipush (pc := 63) (v := 24) X d_Mod_goesAhead_63 rfl ?_
          refine x_iload_n (pc := 65) X d_Mod_goesAhead_65 1 rfl rfl ?_
          refine x_imul (pc := 66) X d_Mod_goesAhead_66  ?_
          refine x_iload_n (pc := 67) X d_Mod_goesAhead_67 2 rfl rfl ?_
          refine x_iadd (pc := 68) X d_Mod_goesAhead_68  ?_
          refine x_iload (pc := 69) X d_Mod_goesAhead_69 4 rfl ?_
          refine x_iadd (pc := 71) X d_Mod_goesAhead_71  ?_
          refine x_iload (pc := 72) X d_Mod_goesAhead_72 5 rfl ?_
          obtain ⟨r13, h14, h⟩ := bnd_e h
          refine x_callV (pc := 74) (As := [.int (zi (((24 * z3) + z4) + z6)), .int (zi z7)]) (rest := []) (w2 := (w_Mod cI cB a0 a1 a2 a3 a4 a5 a6 a7 a8 a9 a10 a11 a12 a13 a14 a15 r13.2.1 c9 m_taped m_reading m_statements m_telling m_hasImage m_isKeeping m_cursor m_rowMany m_lots m_refused m_bytes r13.2.2.1 r13.2.2.2.1 r13.2.2.2.2 m_waits m_kinds m_tape m_sort m_sortAt m_told m_kept m_was m_ends m_row)) X d_Mod_goesAhead_74 lk_Mod_139 mv_Mod_puts (c_Mod_puts l D cI cB a0 a1 a2 a3 a4 a5 a6 a7 a8 a9 a10 a11 a12 a13 a14 a15 c8 c9 m_taped m_reading m_statements m_telling m_hasImage m_isKeeping m_cursor m_rowMany m_lots m_refused m_bytes c10 c11 c12 m_waits m_kinds m_tape m_sort m_sortAt m_told m_kept m_was m_ends m_row (((24 * z3) + z4) + z6) z7 h14) ⟨(Nat.le_of_ble_eq_true rfl), (Nat.le_of_ble_eq_true rfl), (Nat.le_of_ble_eq_true rfl), (Nat.le_of_ble_eq_true rfl)⟩ 0 rfl rfl [0, 1, 2, 3, 4, 5, 6, 7, 8, 9, 10, 11, 12, 13, 14, 15] rfl rfl rfl (Up.of [] [] rfl rfl rfl 16 rfl (by decide +kernel)) rfl rfl (Nat.le_of_ble_eq_true rfl) ?_
          refine x_pop (pc := 77) X d_Mod_goesAhead_77 rfl ?_
          refine x_iinc (pc := 78) (ls2 := [(4, .int (zi (z6 + 1))), (0, .ref a0), (1, .int (zi z3)), (2, .int (zi z4)), (3, .int (zi z5)), (5, .int (zi z7))]) X d_Mod_goesAhead_78 4 (Nat.le_of_ble_eq_true rfl) rfl rfl ?_
          refine x_goto (pc := 81) (tgt := 14) X d_Mod_goesAhead_81 rfl ?_
          refine x_ls (ls2 := [(0, .ref a0), (1, .int (zi z3)), (2, .int (zi z4)), (3, .int (zi z5)), (4, .int (zi (z6 + 1)))]) [1, 2, 3, 4, 0] rfl ?_
          exact ih z3 z4 z5 (z6 + 1) r13.2.1 c9 r13.2.2.1 r13.2.2.2.1 r13.2.2.2.2 m_waits m_kinds o h hR
set_option maxHeartbeats 4000000 in
set_option maxRecDepth 100000 in
theorem c_Mod_goesAhead (l : Launch) (D : va_G) (cI cB : ClassId) (a0 a1 a2 a3 a4 a5 a6 a7 a8 a9 a10 a11 a12 a13 a14 a15 : Nat) (m_stepsMade : Int) (m_stepsMost : Int) (m_taped : Int) (m_reading : Int) (m_statements : Int) (m_telling : Int) (m_hasImage : Int) (m_isKeeping : Int) (m_cursor : Int) (m_rowMany : Int) (m_lots : Int) (m_refused : Int → Int) (m_bytes : Int → Int) (m_owner : Int → Int) (m_block : Int → Int) (m_written : Int → Int) (m_waits : Int → Int) (m_kinds : Int → Int) (m_tape : Int → Int) (m_sort : Int → Int) (m_sortAt : Int → Int) (m_told : Int → Int) (m_kept : Int → Int) (m_was : Int → Int) (m_ends : Int → Int) (m_row : Int → Int) (x1 : Int) (x2 : Int) (x3 : Int) {o : Int × Int × (Int → Int) × (Int → Int) × (Int → Int)} (h : m_Mod_goesAhead x1 x2 x3 m_stepsMade m_stepsMost m_owner m_block m_written m_waits m_kinds = some o) : Ct l D cI cB y_Mod_goesAhead b_Mod_goesAhead 6 none { frames := 4, cells := 0, slots := 0, locals := 97 } [.ref a0, .int (zi x1), .int (zi x2), .int (zi x3)] (w_Mod cI cB a0 a1 a2 a3 a4 a5 a6 a7 a8 a9 a10 a11 a12 a13 a14 a15 m_stepsMade m_stepsMost m_taped m_reading m_statements m_telling m_hasImage m_isKeeping m_cursor m_rowMany m_lots m_refused m_bytes m_owner m_block m_written m_waits m_kinds m_tape m_sort m_sortAt m_told m_kept m_was m_ends m_row) (w_Mod cI cB a0 a1 a2 a3 a4 a5 a6 a7 a8 a9 a10 a11 a12 a13 a14 a15 o.1 o.2.1 m_taped m_reading m_statements m_telling m_hasImage m_isKeeping m_cursor m_rowMany m_lots m_refused m_bytes o.2.2.1 o.2.2.2.1 o.2.2.2.2 m_waits m_kinds m_tape m_sort m_sortAt m_told m_kept m_was m_ends m_row) none := by
  refine Ct.start (by decide) (Nat.le_of_ble_eq_true rfl) (fun G X hR => ?_)
  refine x_ls (ls2 := [(0, .ref a0), (1, .int (zi x1)), (2, .int (zi x2)), (3, .int (zi x3))]) [0, 1, 2, 3] rfl ?_
  unfold m_Mod_goesAhead at h
  refine x_aload_n (pc := 0) X d_Mod_goesAhead_0 0 rfl rfl ?_
  refine x_iconst (pc := 1) X d_Mod_goesAhead_1  ?_
  refine x_put (pc := 2) (w2 := (w_Mod cI cB a0 a1 a2 a3 a4 a5 a6 a7 a8 a9 a10 a11 a12 a13 a14 a15 0 m_stepsMost m_taped m_reading m_statements m_telling m_hasImage m_isKeeping m_cursor m_rowMany m_lots m_refused m_bytes m_owner m_block m_written m_waits m_kinds m_tape m_sort m_sortAt m_told m_kept m_was m_ends m_row)) X d_Mod_goesAhead_2 0 rfl (fp_Mod_99 _) (Nat.le_of_ble_eq_true rfl) rfl ?_
  refine x_aload_n (pc := 5) X d_Mod_goesAhead_5 0 rfl rfl ?_
  refine x_ldc (pc := 6) X d_Mod_goesAhead_6 cw_Mod_165 cg_Mod_165 ?_
  refine x_put (pc := 8) (w2 := (w_Mod cI cB a0 a1 a2 a3 a4 a5 a6 a7 a8 a9 a10 a11 a12 a13 a14 a15 0 1000000 m_taped m_reading m_statements m_telling m_hasImage m_isKeeping m_cursor m_rowMany m_lots m_refused m_bytes m_owner m_block m_written m_waits m_kinds m_tape m_sort m_sortAt m_told m_kept m_was m_ends m_row)) X d_Mod_goesAhead_8 0 rfl (fp_Mod_103 _) (Nat.le_of_ble_eq_true rfl) rfl ?_
  refine x_iconst (pc := 11) X d_Mod_goesAhead_11  ?_
  refine x_istore (pc := 12) (ls2 := [(4, .int (zi 0)), (0, .ref a0), (1, .int (zi x1)), (2, .int (zi x2)), (3, .int (zi x3))]) X d_Mod_goesAhead_12 (Nat.le_of_ble_eq_true rfl) rfl ?_
  refine x_ls (ls2 := [(0, .ref a0), (1, .int (zi x1)), (2, .int (zi x2)), (3, .int (zi x3)), (4, .int (zi 0))]) [1, 2, 3, 4, 0] rfl ?_
  exact l_Mod_goesAhead_14 X 5000 x1 x2 x3 0 0 1000000 m_owner m_block m_written m_waits m_kinds o h hR
theorem d_Mod_comesAhead_0 : decode b_Mod_comesAhead 0 = .ok (.iload_n 2, 1) := by decide +kernel
theorem d_Mod_comesAhead_1 : decode b_Mod_comesAhead 1 = .ok (.invokestatic 199, 3) := by decide +kernel
theorem d_Mod_comesAhead_4 : decode b_Mod_comesAhead 4 = .ok (.ifCond .eq 25, 3) := by decide +kernel
theorem d_Mod_comesAhead_7 : decode b_Mod_comesAhead 7 = .ok (.iload_n 2, 1) := by decide +kernel
theorem d_Mod_comesAhead_8 : decode b_Mod_comesAhead 8 = .ok (.iload_n 3, 1) := by decide +kernel
theorem d_Mod_comesAhead_9 : decode b_Mod_comesAhead 9 = .ok (.invokestatic 209, 3) := by decide +kernel
theorem d_Mod_comesAhead_12 : decode b_Mod_comesAhead 12 = .ok (.ifCond .eq 17, 3) := by decide +kernel
theorem d_Mod_comesAhead_15 : decode b_Mod_comesAhead 15 = .ok (.aload_n 0, 1) := by decide +kernel
theorem d_Mod_comesAhead_16 : decode b_Mod_comesAhead 16 = .ok (.invokevirtual 162, 3) := by decide +kernel
theorem d_Mod_comesAhead_19 : decode b_Mod_comesAhead 19 = .ok (.aload_n 0, 1) := by decide +kernel
theorem d_Mod_comesAhead_20 : decode b_Mod_comesAhead 20 = .ok (.iload_n 1, 1) := by decide +kernel
theorem d_Mod_comesAhead_21 : decode b_Mod_comesAhead 21 = .ok (.iload_n 2, 1) := by decide +kernel
theorem d_Mod_comesAhead_22 : decode b_Mod_comesAhead 22 = .ok (.iload_n 3, 1) := by decide +kernel
theorem d_Mod_comesAhead_23 : decode b_Mod_comesAhead 23 = .ok (.invokevirtual 212, 3) := by decide +kernel
theorem d_Mod_comesAhead_26 : decode b_Mod_comesAhead 26 = .ok (.if_icmp .ge 5, 3) := by decide +kernel
theorem d_Mod_comesAhead_29 : decode b_Mod_comesAhead 29 = .ok (.iconst 0, 1) := by decide +kernel
theorem d_Mod_comesAhead_30 : decode b_Mod_comesAhead 30 = .ok (.ireturn, 1) := by decide +kernel
theorem d_Mod_comesAhead_31 : decode b_Mod_comesAhead 31 = .ok (.aload_n 0, 1) := by decide +kernel
theorem d_Mod_comesAhead_32 : decode b_Mod_comesAhead 32 = .ok (.iload_n 1, 1) := by decide +kernel
theorem d_Mod_comesAhead_33 : decode b_Mod_comesAhead 33 = .ok (.iload_n 2, 1) := by decide +kernel
theorem d_Mod_comesAhead_34 : decode b_Mod_comesAhead 34 = .ok (.iload_n 3, 1) := by decide +kernel
theorem d_Mod_comesAhead_35 : decode b_Mod_comesAhead 35 = .ok (.invokevirtual 215, 3) := by decide +kernel
theorem d_Mod_comesAhead_38 : decode b_Mod_comesAhead 38 = .ok (.iconst 1, 1) := by decide +kernel
theorem d_Mod_comesAhead_39 : decode b_Mod_comesAhead 39 = .ok (.ireturn, 1) := by decide +kernel
def m_Mod_comesAhead (x1 : Int) (x2 : Int) (x3 : Int) (m_stepsMade : Int) (m_stepsMost : Int) (m_owner : Int → Int) (m_block : Int → Int) (m_written : Int → Int) (m_waits : Int → Int) (m_kinds : Int → Int) : Option (Int × Int × Int × (Int → Int) × (Int → Int) × (Int → Int)) :=
  bnd (m_Mod_isPage x2) (fun r1 => ceq r1 0 (some (0, m_stepsMade, m_stepsMost, m_owner, m_block, m_written)) (bnd (m_Mod_isSeries x2 x3) (fun r3 => ceq r3 0 (some (0, m_stepsMade, m_stepsMost, m_owner, m_block, m_written)) (bnd (m_Mod_roomNow m_owner m_block m_waits) (fun r5 => bnd (m_Mod_holesAmong x1 x2 x3 m_block m_waits) (fun r7 => clt r5 r7 (some (0, m_stepsMade, m_stepsMost, m_owner, m_block, m_written)) (bnd (m_Mod_goesAhead x1 x2 x3 m_stepsMade m_stepsMost m_owner m_block m_written m_waits m_kinds) (fun r9 => some (1, r9.1, r9.2.1, r9.2.2.1, r9.2.2.2.1, r9.2.2.2.2)))))))))
set_option maxHeartbeats 4000000 in
set_option maxRecDepth 100000 in
theorem c_Mod_comesAhead (l : Launch) (D : va_G) (cI cB : ClassId) (a0 a1 a2 a3 a4 a5 a6 a7 a8 a9 a10 a11 a12 a13 a14 a15 : Nat) (m_stepsMade : Int) (m_stepsMost : Int) (m_taped : Int) (m_reading : Int) (m_statements : Int) (m_telling : Int) (m_hasImage : Int) (m_isKeeping : Int) (m_cursor : Int) (m_rowMany : Int) (m_lots : Int) (m_refused : Int → Int) (m_bytes : Int → Int) (m_owner : Int → Int) (m_block : Int → Int) (m_written : Int → Int) (m_waits : Int → Int) (m_kinds : Int → Int) (m_tape : Int → Int) (m_sort : Int → Int) (m_sortAt : Int → Int) (m_told : Int → Int) (m_kept : Int → Int) (m_was : Int → Int) (m_ends : Int → Int) (m_row : Int → Int) (x1 : Int) (x2 : Int) (x3 : Int) {o : Int × Int × Int × (Int → Int) × (Int → Int) × (Int → Int)} (h : m_Mod_comesAhead x1 x2 x3 m_stepsMade m_stepsMost m_owner m_block m_written m_waits m_kinds = some o) : Ct l D cI cB y_Mod_comesAhead b_Mod_comesAhead 4 (some .boolean) { frames := 5, cells := 0, slots := 0, locals := 122 } [.ref a0, .int (zi x1), .int (zi x2), .int (zi x3)] (w_Mod cI cB a0 a1 a2 a3 a4 a5 a6 a7 a8 a9 a10 a11 a12 a13 a14 a15 m_stepsMade m_stepsMost m_taped m_reading m_statements m_telling m_hasImage m_isKeeping m_cursor m_rowMany m_lots m_refused m_bytes m_owner m_block m_written m_waits m_kinds m_tape m_sort m_sortAt m_told m_kept m_was m_ends m_row) (w_Mod cI cB a0 a1 a2 a3 a4 a5 a6 a7 a8 a9 a10 a11 a12 a13 a14 a15 o.2.1 o.2.2.1 m_taped m_reading m_statements m_telling m_hasImage m_isKeeping m_cursor m_rowMany m_lots m_refused m_bytes o.2.2.2.1 o.2.2.2.2.1 o.2.2.2.2.2 m_waits m_kinds m_tape m_sort m_sortAt m_told m_kept m_was m_ends m_row) (some (.int (zi o.1))) := by
  refine Ct.start (by decide) (Nat.le_of_ble_eq_true rfl) (fun G X hR => ?_)
  refine x_ls (ls2 := [(0, .ref a0), (1, .int (zi x1)), (2, .int (zi x2)), (3, .int (zi x3))]) [0, 1, 2, 3] rfl ?_
  unfold m_Mod_comesAhead at h
  refine x_iload_n (pc := 0) X d_Mod_comesAhead_0 2 rfl rfl ?_
  obtain ⟨r1, h2, h⟩ := bnd_e h
  refine x_callS (pc := 1) (As := [.int (zi x2)]) (rest := []) (w2 := (w_Mod cI cB a0 a1 a2 a3 a4 a5 a6 a7 a8 a9 a10 a11 a12 a13 a14 a15 m_stepsMade m_stepsMost m_taped m_reading m_statements m_telling m_hasImage m_isKeeping m_cursor m_rowMany m_lots m_refused m_bytes m_owner m_block m_written m_waits m_kinds m_tape m_sort m_sortAt m_told m_kept m_was m_ends m_row)) X d_Mod_comesAhead_1 lk_Mod_199 mv_Mod_isPage (c_Mod_isPage l D cI cB x2 h2) ⟨(Nat.le_of_ble_eq_true rfl), (Nat.le_of_ble_eq_true rfl), (Nat.le_of_ble_eq_true rfl), (Nat.le_of_ble_eq_true rfl)⟩ [] rfl rfl rfl (Up.same rfl) rfl rfl (Nat.le_of_ble_eq_true rfl) ?_
  refine x_ifeq (pc := 4) (tgt := 29) X d_Mod_comesAhead_4 rfl h (fun h => ?_) (fun h => ?_)
  · skip
    refine x_iconst (pc := 29) X d_Mod_comesAhead_29  ?_
    cases h
    exact x_zret (pc := 30) X hR d_Mod_comesAhead_30 (Or.inl rfl)
  · skip
    refine x_iload_n (pc := 7) X d_Mod_comesAhead_7 2 rfl rfl ?_
    refine x_iload_n (pc := 8) X d_Mod_comesAhead_8 3 rfl rfl ?_
    obtain ⟨r3, h4, h⟩ := bnd_e h
    refine x_callS (pc := 9) (As := [.int (zi x2), .int (zi x3)]) (rest := []) (w2 := (w_Mod cI cB a0 a1 a2 a3 a4 a5 a6 a7 a8 a9 a10 a11 a12 a13 a14 a15 m_stepsMade m_stepsMost m_taped m_reading m_statements m_telling m_hasImage m_isKeeping m_cursor m_rowMany m_lots m_refused m_bytes m_owner m_block m_written m_waits m_kinds m_tape m_sort m_sortAt m_told m_kept m_was m_ends m_row)) X d_Mod_comesAhead_9 lk_Mod_209 mv_Mod_isSeries (c_Mod_isSeries l D cI cB x2 x3 h4) ⟨(Nat.le_of_ble_eq_true rfl), (Nat.le_of_ble_eq_true rfl), (Nat.le_of_ble_eq_true rfl), (Nat.le_of_ble_eq_true rfl)⟩ [] rfl rfl rfl (Up.same rfl) rfl rfl (Nat.le_of_ble_eq_true rfl) ?_
    refine x_ifeq (pc := 12) (tgt := 29) X d_Mod_comesAhead_12 rfl h (fun h => ?_) (fun h => ?_)
    · skip
      refine x_iconst (pc := 29) X d_Mod_comesAhead_29  ?_
      cases h
      exact x_zret (pc := 30) X hR d_Mod_comesAhead_30 (Or.inl rfl)
    · skip
      refine x_aload_n (pc := 15) X d_Mod_comesAhead_15 0 rfl rfl ?_
      obtain ⟨r5, h6, h⟩ := bnd_e h
      refine x_callV (pc := 16) (As := []) (rest := []) (w2 := (w_Mod cI cB a0 a1 a2 a3 a4 a5 a6 a7 a8 a9 a10 a11 a12 a13 a14 a15 m_stepsMade m_stepsMost m_taped m_reading m_statements m_telling m_hasImage m_isKeeping m_cursor m_rowMany m_lots m_refused m_bytes m_owner m_block m_written m_waits m_kinds m_tape m_sort m_sortAt m_told m_kept m_was m_ends m_row)) X d_Mod_comesAhead_16 lk_Mod_162 mv_Mod_roomNow (c_Mod_roomNow l D cI cB a0 a1 a2 a3 a4 a5 a6 a7 a8 a9 a10 a11 a12 a13 a14 a15 m_stepsMade m_stepsMost m_taped m_reading m_statements m_telling m_hasImage m_isKeeping m_cursor m_rowMany m_lots m_refused m_bytes m_owner m_block m_written m_waits m_kinds m_tape m_sort m_sortAt m_told m_kept m_was m_ends m_row h6) ⟨(Nat.le_of_ble_eq_true rfl), (Nat.le_of_ble_eq_true rfl), (Nat.le_of_ble_eq_true rfl), (Nat.le_of_ble_eq_true rfl)⟩ 0 rfl rfl [0, 1, 2, 3, 4, 5, 6, 7, 8, 9, 10, 11, 12, 13, 14, 15] rfl rfl rfl (Up.same rfl) rfl rfl (Nat.le_of_ble_eq_true rfl) ?_
      refine x_aload_n (pc := 19) X d_Mod_comesAhead_19 0 rfl rfl ?_
      refine x_iload_n (pc := 20) X d_Mod_comesAhead_20 1 rfl rfl ?_
      refine x_iload_n (pc := 21) X d_Mod_comesAhead_21 2 rfl rfl ?_
      refine x_iload_n (pc := 22) X d_Mod_comesAhead_22 3 rfl rfl ?_
      obtain ⟨r7, h8, h⟩ := bnd_e h
      refine x_callV (pc := 23) (As := [.int (zi x1), .int (zi x2), .int (zi x3)]) (rest := [.int (zi r5)]) (w2 := (w_Mod cI cB a0 a1 a2 a3 a4 a5 a6 a7 a8 a9 a10 a11 a12 a13 a14 a15 m_stepsMade m_stepsMost m_taped m_reading m_statements m_telling m_hasImage m_isKeeping m_cursor m_rowMany m_lots m_refused m_bytes m_owner m_block m_written m_waits m_kinds m_tape m_sort m_sortAt m_told m_kept m_was m_ends m_row)) X d_Mod_comesAhead_23 lk_Mod_212 mv_Mod_holesAmong (c_Mod_holesAmong l D cI cB a0 a1 a2 a3 a4 a5 a6 a7 a8 a9 a10 a11 a12 a13 a14 a15 m_stepsMade m_stepsMost m_taped m_reading m_statements m_telling m_hasImage m_isKeeping m_cursor m_rowMany m_lots m_refused m_bytes m_owner m_block m_written m_waits m_kinds m_tape m_sort m_sortAt m_told m_kept m_was m_ends m_row x1 x2 x3 h8) ⟨(Nat.le_of_ble_eq_true rfl), (Nat.le_of_ble_eq_true rfl), (Nat.le_of_ble_eq_true rfl), (Nat.le_of_ble_eq_true rfl)⟩ 0 rfl rfl [0, 1, 2, 3, 4, 5, 6, 7, 8, 9, 10, 11, 12, 13, 14, 15] rfl rfl rfl (Up.same rfl) rfl rfl (Nat.le_of_ble_eq_true rfl) ?_
      refine x_icmpge (pc := 26) (tgt := 31) X d_Mod_comesAhead_26 rfl h (fun h => ?_) (fun h => ?_)
      · skip
        refine x_aload_n (pc := 31) X d_Mod_comesAhead_31 0 rfl rfl ?_
        refine x_iload_n (pc := 32) X d_Mod_comesAhead_32 1 rfl rfl ?_
        refine x_iload_n (pc := 33) X d_Mod_comesAhead_33 2 rfl rfl ?_
        refine x_iload_n (pc := 34) X d_Mod_comesAhead_34 3 rfl rfl ?_
        obtain ⟨r9, h10, h⟩ := bnd_e h
        refine x_callV (pc := 35) (As := [.int (zi x1), .int (zi x2), .int (zi x3)]) (rest := []) (w2 := (w_Mod cI cB a0 a1 a2 a3 a4 a5 a6 a7 a8 a9 a10 a11 a12 a13 a14 a15 r9.1 r9.2.1 m_taped m_reading m_statements m_telling m_hasImage m_isKeeping m_cursor m_rowMany m_lots m_refused m_bytes r9.2.2.1 r9.2.2.2.1 r9.2.2.2.2 m_waits m_kinds m_tape m_sort m_sortAt m_told m_kept m_was m_ends m_row)) X d_Mod_comesAhead_35 lk_Mod_215 mv_Mod_goesAhead (c_Mod_goesAhead l D cI cB a0 a1 a2 a3 a4 a5 a6 a7 a8 a9 a10 a11 a12 a13 a14 a15 m_stepsMade m_stepsMost m_taped m_reading m_statements m_telling m_hasImage m_isKeeping m_cursor m_rowMany m_lots m_refused m_bytes m_owner m_block m_written m_waits m_kinds m_tape m_sort m_sortAt m_told m_kept m_was m_ends m_row x1 x2 x3 h10) ⟨(Nat.le_of_ble_eq_true rfl), (Nat.le_of_ble_eq_true rfl), (Nat.le_of_ble_eq_true rfl), (Nat.le_of_ble_eq_true rfl)⟩ 0 rfl rfl [0, 1, 2, 3, 4, 5, 6, 7, 8, 9, 10, 11, 12, 13, 14, 15] rfl rfl rfl (Up.of [] [] rfl rfl rfl 16 rfl (by decide +kernel)) rfl rfl (Nat.le_of_ble_eq_true rfl) ?_
        refine x_iconst (pc := 38) X d_Mod_comesAhead_38  ?_
        cases h
        exact x_zret (pc := 39) X hR d_Mod_comesAhead_39 (Or.inr rfl)
      · skip
        refine x_iconst (pc := 29) X d_Mod_comesAhead_29  ?_
        cases h
        exact x_zret (pc := 30) X hR d_Mod_comesAhead_30 (Or.inl rfl)
theorem d_Mod_comesTold_0 : decode b_Mod_comesTold 0 = .ok (.iconst 3, 1) := by decide +kernel
theorem d_Mod_comesTold_1 : decode b_Mod_comesTold 1 = .ok (.iload_n 1, 1) := by decide +kernel
theorem d_Mod_comesTold_2 : decode b_Mod_comesTold 2 = .ok (.imul, 1) := by decide +kernel
theorem d_Mod_comesTold_3 : decode b_Mod_comesTold 3 = .ok (.istore_n 2, 1) := by decide +kernel
theorem d_Mod_comesTold_4 : decode b_Mod_comesTold 4 = .ok (.aload_n 0, 1) := by decide +kernel
theorem d_Mod_comesTold_5 : decode b_Mod_comesTold 5 = .ok (.getfield 40, 3) := by decide +kernel
theorem d_Mod_comesTold_8 : decode b_Mod_comesTold 8 = .ok (.iload_n 2, 1) := by decide +kernel
theorem d_Mod_comesTold_9 : decode b_Mod_comesTold 9 = .ok (.iaload, 1) := by decide +kernel
theorem d_Mod_comesTold_10 : decode b_Mod_comesTold 10 = .ok (.invokestatic 230, 3) := by decide +kernel
theorem d_Mod_comesTold_13 : decode b_Mod_comesTold 13 = .ok (.ifCond .ne 5, 3) := by decide +kernel
theorem d_Mod_comesTold_16 : decode b_Mod_comesTold 16 = .ok (.iconst 0, 1) := by decide +kernel
theorem d_Mod_comesTold_17 : decode b_Mod_comesTold 17 = .ok (.ireturn, 1) := by decide +kernel
theorem d_Mod_comesTold_18 : decode b_Mod_comesTold 18 = .ok (.aload_n 0, 1) := by decide +kernel
theorem d_Mod_comesTold_19 : decode b_Mod_comesTold 19 = .ok (.getfield 34, 3) := by decide +kernel
theorem d_Mod_comesTold_22 : decode b_Mod_comesTold 22 = .ok (.iload_n 1, 1) := by decide +kernel
theorem d_Mod_comesTold_23 : decode b_Mod_comesTold 23 = .ok (.iaload, 1) := by decide +kernel
theorem d_Mod_comesTold_24 : decode b_Mod_comesTold 24 = .ok (.lookupswitch 136 #[(97, 71), (112, 98), (115, 125), (119, 44)], 44) := by decide +kernel
theorem d_Mod_comesTold_68 : decode b_Mod_comesTold 68 = .ok (.aload_n 0, 1) := by decide +kernel
theorem d_Mod_comesTold_69 : decode b_Mod_comesTold 69 = .ok (.aload_n 0, 1) := by decide +kernel
theorem d_Mod_comesTold_70 : decode b_Mod_comesTold 70 = .ok (.getfield 40, 3) := by decide +kernel
theorem d_Mod_comesTold_73 : decode b_Mod_comesTold 73 = .ok (.iload_n 2, 1) := by decide +kernel
theorem d_Mod_comesTold_74 : decode b_Mod_comesTold 74 = .ok (.iaload, 1) := by decide +kernel
theorem d_Mod_comesTold_75 : decode b_Mod_comesTold 75 = .ok (.aload_n 0, 1) := by decide +kernel
theorem d_Mod_comesTold_76 : decode b_Mod_comesTold 76 = .ok (.getfield 40, 3) := by decide +kernel
theorem d_Mod_comesTold_79 : decode b_Mod_comesTold 79 = .ok (.iload_n 2, 1) := by decide +kernel
theorem d_Mod_comesTold_80 : decode b_Mod_comesTold 80 = .ok (.iconst 1, 1) := by decide +kernel
theorem d_Mod_comesTold_81 : decode b_Mod_comesTold 81 = .ok (.iadd, 1) := by decide +kernel
theorem d_Mod_comesTold_82 : decode b_Mod_comesTold 82 = .ok (.iaload, 1) := by decide +kernel
theorem d_Mod_comesTold_83 : decode b_Mod_comesTold 83 = .ok (.aload_n 0, 1) := by decide +kernel
theorem d_Mod_comesTold_84 : decode b_Mod_comesTold 84 = .ok (.getfield 40, 3) := by decide +kernel
theorem d_Mod_comesTold_87 : decode b_Mod_comesTold 87 = .ok (.iload_n 2, 1) := by decide +kernel
theorem d_Mod_comesTold_88 : decode b_Mod_comesTold 88 = .ok (.iconst 2, 1) := by decide +kernel
theorem d_Mod_comesTold_89 : decode b_Mod_comesTold 89 = .ok (.iadd, 1) := by decide +kernel
theorem d_Mod_comesTold_90 : decode b_Mod_comesTold 90 = .ok (.iaload, 1) := by decide +kernel
theorem d_Mod_comesTold_91 : decode b_Mod_comesTold 91 = .ok (.invokevirtual 233, 3) := by decide +kernel
theorem d_Mod_comesTold_94 : decode b_Mod_comesTold 94 = .ok (.ireturn, 1) := by decide +kernel
theorem d_Mod_comesTold_95 : decode b_Mod_comesTold 95 = .ok (.aload_n 0, 1) := by decide +kernel
theorem d_Mod_comesTold_96 : decode b_Mod_comesTold 96 = .ok (.aload_n 0, 1) := by decide +kernel
theorem d_Mod_comesTold_97 : decode b_Mod_comesTold 97 = .ok (.getfield 40, 3) := by decide +kernel
theorem d_Mod_comesTold_100 : decode b_Mod_comesTold 100 = .ok (.iload_n 2, 1) := by decide +kernel
theorem d_Mod_comesTold_101 : decode b_Mod_comesTold 101 = .ok (.iaload, 1) := by decide +kernel
theorem d_Mod_comesTold_102 : decode b_Mod_comesTold 102 = .ok (.aload_n 0, 1) := by decide +kernel
theorem d_Mod_comesTold_103 : decode b_Mod_comesTold 103 = .ok (.getfield 40, 3) := by decide +kernel
theorem d_Mod_comesTold_106 : decode b_Mod_comesTold 106 = .ok (.iload_n 2, 1) := by decide +kernel
theorem d_Mod_comesTold_107 : decode b_Mod_comesTold 107 = .ok (.iconst 1, 1) := by decide +kernel
theorem d_Mod_comesTold_108 : decode b_Mod_comesTold 108 = .ok (.iadd, 1) := by decide +kernel
theorem d_Mod_comesTold_109 : decode b_Mod_comesTold 109 = .ok (.iaload, 1) := by decide +kernel
theorem d_Mod_comesTold_110 : decode b_Mod_comesTold 110 = .ok (.aload_n 0, 1) := by decide +kernel
theorem d_Mod_comesTold_111 : decode b_Mod_comesTold 111 = .ok (.getfield 40, 3) := by decide +kernel
theorem d_Mod_comesTold_114 : decode b_Mod_comesTold 114 = .ok (.iload_n 2, 1) := by decide +kernel
theorem d_Mod_comesTold_115 : decode b_Mod_comesTold 115 = .ok (.iconst 2, 1) := by decide +kernel
theorem d_Mod_comesTold_116 : decode b_Mod_comesTold 116 = .ok (.iadd, 1) := by decide +kernel
theorem d_Mod_comesTold_117 : decode b_Mod_comesTold 117 = .ok (.iaload, 1) := by decide +kernel
theorem d_Mod_comesTold_118 : decode b_Mod_comesTold 118 = .ok (.invokevirtual 236, 3) := by decide +kernel
theorem d_Mod_comesTold_121 : decode b_Mod_comesTold 121 = .ok (.ireturn, 1) := by decide +kernel
theorem d_Mod_comesTold_122 : decode b_Mod_comesTold 122 = .ok (.aload_n 0, 1) := by decide +kernel
theorem d_Mod_comesTold_123 : decode b_Mod_comesTold 123 = .ok (.aload_n 0, 1) := by decide +kernel
theorem d_Mod_comesTold_124 : decode b_Mod_comesTold 124 = .ok (.getfield 40, 3) := by decide +kernel
theorem d_Mod_comesTold_127 : decode b_Mod_comesTold 127 = .ok (.iload_n 2, 1) := by decide +kernel
theorem d_Mod_comesTold_128 : decode b_Mod_comesTold 128 = .ok (.iaload, 1) := by decide +kernel
theorem d_Mod_comesTold_129 : decode b_Mod_comesTold 129 = .ok (.aload_n 0, 1) := by decide +kernel
theorem d_Mod_comesTold_130 : decode b_Mod_comesTold 130 = .ok (.getfield 40, 3) := by decide +kernel
theorem d_Mod_comesTold_133 : decode b_Mod_comesTold 133 = .ok (.iload_n 2, 1) := by decide +kernel
theorem d_Mod_comesTold_134 : decode b_Mod_comesTold 134 = .ok (.iconst 1, 1) := by decide +kernel
theorem d_Mod_comesTold_135 : decode b_Mod_comesTold 135 = .ok (.iadd, 1) := by decide +kernel
theorem d_Mod_comesTold_136 : decode b_Mod_comesTold 136 = .ok (.iaload, 1) := by decide +kernel
theorem d_Mod_comesTold_137 : decode b_Mod_comesTold 137 = .ok (.aload_n 0, 1) := by decide +kernel
theorem d_Mod_comesTold_138 : decode b_Mod_comesTold 138 = .ok (.getfield 40, 3) := by decide +kernel
theorem d_Mod_comesTold_141 : decode b_Mod_comesTold 141 = .ok (.iload_n 2, 1) := by decide +kernel
theorem d_Mod_comesTold_142 : decode b_Mod_comesTold 142 = .ok (.iconst 2, 1) := by decide +kernel
theorem d_Mod_comesTold_143 : decode b_Mod_comesTold 143 = .ok (.iadd, 1) := by decide +kernel
theorem d_Mod_comesTold_144 : decode b_Mod_comesTold 144 = .ok (.iaload, 1) := by decide +kernel
theorem d_Mod_comesTold_145 : decode b_Mod_comesTold 145 = .ok (.invokevirtual 239, 3) := by decide +kernel
theorem d_Mod_comesTold_148 : decode b_Mod_comesTold 148 = .ok (.ireturn, 1) := by decide +kernel
theorem d_Mod_comesTold_149 : decode b_Mod_comesTold 149 = .ok (.aload_n 0, 1) := by decide +kernel
theorem d_Mod_comesTold_150 : decode b_Mod_comesTold 150 = .ok (.aload_n 0, 1) := by decide +kernel
theorem d_Mod_comesTold_151 : decode b_Mod_comesTold 151 = .ok (.getfield 40, 3) := by decide +kernel
theorem d_Mod_comesTold_154 : decode b_Mod_comesTold 154 = .ok (.iload_n 2, 1) := by decide +kernel
theorem d_Mod_comesTold_155 : decode b_Mod_comesTold 155 = .ok (.iaload, 1) := by decide +kernel
theorem d_Mod_comesTold_156 : decode b_Mod_comesTold 156 = .ok (.invokevirtual 242, 3) := by decide +kernel
theorem d_Mod_comesTold_159 : decode b_Mod_comesTold 159 = .ok (.ireturn, 1) := by decide +kernel
theorem d_Mod_comesTold_160 : decode b_Mod_comesTold 160 = .ok (.aload_n 0, 1) := by decide +kernel
theorem d_Mod_comesTold_161 : decode b_Mod_comesTold 161 = .ok (.aload_n 0, 1) := by decide +kernel
theorem d_Mod_comesTold_162 : decode b_Mod_comesTold 162 = .ok (.getfield 34, 3) := by decide +kernel
theorem d_Mod_comesTold_165 : decode b_Mod_comesTold 165 = .ok (.iload_n 1, 1) := by decide +kernel
theorem d_Mod_comesTold_166 : decode b_Mod_comesTold 166 = .ok (.iaload, 1) := by decide +kernel
theorem d_Mod_comesTold_167 : decode b_Mod_comesTold 167 = .ok (.aload_n 0, 1) := by decide +kernel
theorem d_Mod_comesTold_168 : decode b_Mod_comesTold 168 = .ok (.getfield 40, 3) := by decide +kernel
theorem d_Mod_comesTold_171 : decode b_Mod_comesTold 171 = .ok (.iload_n 2, 1) := by decide +kernel
theorem d_Mod_comesTold_172 : decode b_Mod_comesTold 172 = .ok (.iaload, 1) := by decide +kernel
theorem d_Mod_comesTold_173 : decode b_Mod_comesTold 173 = .ok (.aload_n 0, 1) := by decide +kernel
theorem d_Mod_comesTold_174 : decode b_Mod_comesTold 174 = .ok (.getfield 40, 3) := by decide +kernel
theorem d_Mod_comesTold_177 : decode b_Mod_comesTold 177 = .ok (.iload_n 2, 1) := by decide +kernel
theorem d_Mod_comesTold_178 : decode b_Mod_comesTold 178 = .ok (.iconst 1, 1) := by decide +kernel
theorem d_Mod_comesTold_179 : decode b_Mod_comesTold 179 = .ok (.iadd, 1) := by decide +kernel
theorem d_Mod_comesTold_180 : decode b_Mod_comesTold 180 = .ok (.iaload, 1) := by decide +kernel
theorem d_Mod_comesTold_181 : decode b_Mod_comesTold 181 = .ok (.invokevirtual 245, 3) := by decide +kernel
theorem d_Mod_comesTold_184 : decode b_Mod_comesTold 184 = .ok (.ireturn, 1) := by decide +kernel
def m_Mod_comesTold (x1 : Int) (m_stepsMade : Int) (m_stepsMost : Int) (m_bytes : Int → Int) (m_owner : Int → Int) (m_block : Int → Int) (m_written : Int → Int) (m_waits : Int → Int) (m_kinds : Int → Int) (m_sort : Int → Int) (m_told : Int → Int) : Option (Int × Int × Int × (Int → Int) × (Int → Int) × (Int → Int) × (Int → Int) × (Int → Int) × (Int → Int)) :=
  gd (zx (3 * x1) 99) (bnd (m_Mod_isFile (m_told (3 * x1))) (fun r1 => ceq r1 0 (some (0, m_stepsMade, m_stepsMost, m_bytes, m_owner, m_block, m_written, m_waits, m_kinds)) (gd (zx x1 33) (ceq (m_sort x1) 97 (gd (zx (3 * x1) 99) (gd (zx ((3 * x1) + 1) 99) (gd (zx ((3 * x1) + 2) 99) (bnd (m_Mod_comesAhead (m_told (3 * x1)) (m_told ((3 * x1) + 1)) (m_told ((3 * x1) + 2)) m_stepsMade m_stepsMost m_owner m_block m_written m_waits m_kinds) (fun r5 => gd (zb r5.1) (some (r5.1, r5.2.1, r5.2.2.1, m_bytes, r5.2.2.2.1, r5.2.2.2.2.1, r5.2.2.2.2.2, m_waits, m_kinds))))))) (ceq (m_sort x1) 112 (gd (zx (3 * x1) 99) (gd (zx ((3 * x1) + 1) 99) (gd (zx ((3 * x1) + 2) 99) (bnd (m_Mod_comesPunch (m_told (3 * x1)) (m_told ((3 * x1) + 1)) (m_told ((3 * x1) + 2)) m_owner m_block m_written m_waits) (fun r7 => gd (zb r7.1) (some (r7.1, m_stepsMade, m_stepsMost, m_bytes, r7.2.1, r7.2.2.1, r7.2.2.2.1, r7.2.2.2.2, m_kinds))))))) (ceq (m_sort x1) 115 (gd (zx (3 * x1) 99) (bnd (m_Mod_comesSettle (m_told (3 * x1)) m_bytes m_owner m_block) (fun r9 => gd (zb r9.1) (some (r9.1, m_stepsMade, m_stepsMost, r9.2.1, r9.2.2.1, r9.2.2.2, m_written, m_waits, m_kinds))))) (ceq (m_sort x1) 119 (gd (zx (3 * x1) 99) (gd (zx ((3 * x1) + 1) 99) (gd (zx ((3 * x1) + 2) 99) (bnd (m_Mod_comesSaid (m_told (3 * x1)) (m_told ((3 * x1) + 1)) (m_told ((3 * x1) + 2)) m_owner m_block m_waits) (fun r11 => gd (zb r11.1) (some (r11.1, m_stepsMade, m_stepsMost, m_bytes, m_owner, m_block, m_written, r11.2, m_kinds))))))) (gd (zx x1 33) (gd (zx (3 * x1) 99) (gd (zx ((3 * x1) + 1) 99) (bnd (m_Mod_comesPlain (m_sort x1) (m_told (3 * x1)) (m_told ((3 * x1) + 1)) m_stepsMade m_stepsMost m_bytes m_owner m_block m_written m_waits m_kinds) (fun r3 => gd (zb r3.1) (some (r3.1, r3.2.1, r3.2.2.1, r3.2.2.2.1, r3.2.2.2.2.1, r3.2.2.2.2.2.1, r3.2.2.2.2.2.2.1, r3.2.2.2.2.2.2.2.1, r3.2.2.2.2.2.2.2.2))))))))))))))
set_option maxHeartbeats 4000000 in
set_option maxRecDepth 100000 in
theorem c_Mod_comesTold (l : Launch) (D : va_G) (cI cB : ClassId) (a0 a1 a2 a3 a4 a5 a6 a7 a8 a9 a10 a11 a12 a13 a14 a15 : Nat) (m_stepsMade : Int) (m_stepsMost : Int) (m_taped : Int) (m_reading : Int) (m_statements : Int) (m_telling : Int) (m_hasImage : Int) (m_isKeeping : Int) (m_cursor : Int) (m_rowMany : Int) (m_lots : Int) (m_refused : Int → Int) (m_bytes : Int → Int) (m_owner : Int → Int) (m_block : Int → Int) (m_written : Int → Int) (m_waits : Int → Int) (m_kinds : Int → Int) (m_tape : Int → Int) (m_sort : Int → Int) (m_sortAt : Int → Int) (m_told : Int → Int) (m_kept : Int → Int) (m_was : Int → Int) (m_ends : Int → Int) (m_row : Int → Int) (x1 : Int) {o : Int × Int × Int × (Int → Int) × (Int → Int) × (Int → Int) × (Int → Int) × (Int → Int) × (Int → Int)} (h : m_Mod_comesTold x1 m_stepsMade m_stepsMost m_bytes m_owner m_block m_written m_waits m_kinds m_sort m_told = some o) : Ct l D cI cB y_Mod_comesTold b_Mod_comesTold 3 (some .boolean) { frames := 8, cells := 0, slots := 0, locals := 189 } [.ref a0, .int (zi x1)] (w_Mod cI cB a0 a1 a2 a3 a4 a5 a6 a7 a8 a9 a10 a11 a12 a13 a14 a15 m_stepsMade m_stepsMost m_taped m_reading m_statements m_telling m_hasImage m_isKeeping m_cursor m_rowMany m_lots m_refused m_bytes m_owner m_block m_written m_waits m_kinds m_tape m_sort m_sortAt m_told m_kept m_was m_ends m_row) (w_Mod cI cB a0 a1 a2 a3 a4 a5 a6 a7 a8 a9 a10 a11 a12 a13 a14 a15 o.2.1 o.2.2.1 m_taped m_reading m_statements m_telling m_hasImage m_isKeeping m_cursor m_rowMany m_lots m_refused o.2.2.2.1 o.2.2.2.2.1 o.2.2.2.2.2.1 o.2.2.2.2.2.2.1 o.2.2.2.2.2.2.2.1 o.2.2.2.2.2.2.2.2 m_tape m_sort m_sortAt m_told m_kept m_was m_ends m_row) (some (.int (zi o.1))) := by
  refine Ct.start (by decide) (Nat.le_of_ble_eq_true rfl) (fun G X hR => ?_)
  refine x_ls (ls2 := [(0, .ref a0), (1, .int (zi x1))]) [0, 1] rfl ?_
  unfold m_Mod_comesTold at h
  refine x_iconst (pc := 0) X d_Mod_comesTold_0  ?_
  refine x_iload_n (pc := 1) X d_Mod_comesTold_1 1 rfl rfl ?_
  refine x_imul (pc := 2) X d_Mod_comesTold_2  ?_
  refine x_istore_n (pc := 3) (ls2 := [(2, .int (zi (3 * x1))), (0, .ref a0), (1, .int (zi x1))]) X d_Mod_comesTold_3 rfl (Nat.le_of_ble_eq_true rfl) rfl ?_
  refine x_aload_n (pc := 4) X d_Mod_comesTold_4 1 rfl rfl ?_
  refine x_get (pc := 5) X d_Mod_comesTold_5 0 rfl fl_Mod_40 rfl ?_
  refine x_iload_n (pc := 8) X d_Mod_comesTold_8 0 rfl rfl ?_
  refine x_iald (pc := 9) X d_Mod_comesTold_9 11 rfl (Nat.le_of_ble_eq_true rfl) rfl h (fun h => ?_)
  obtain ⟨r1, h2, h⟩ := bnd_e h
  refine x_callS (pc := 10) (As := [.int (zi (m_told (3 * x1)))]) (rest := []) (w2 := (w_Mod cI cB a0 a1 a2 a3 a4 a5 a6 a7 a8 a9 a10 a11 a12 a13 a14 a15 m_stepsMade m_stepsMost m_taped m_reading m_statements m_telling m_hasImage m_isKeeping m_cursor m_rowMany m_lots m_refused m_bytes m_owner m_block m_written m_waits m_kinds m_tape m_sort m_sortAt m_told m_kept m_was m_ends m_row)) X d_Mod_comesTold_10 lk_Mod_230 mv_Mod_isFile (c_Mod_isFile l D cI cB (m_told (3 * x1)) h2) ⟨(Nat.le_of_ble_eq_true rfl), (Nat.le_of_ble_eq_true rfl), (Nat.le_of_ble_eq_true rfl), (Nat.le_of_ble_eq_true rfl)⟩ [] rfl rfl rfl (Up.same rfl) rfl rfl (Nat.le_of_ble_eq_true rfl) ?_
  refine x_ifne (pc := 13) (tgt := 18) X d_Mod_comesTold_13 rfl h (fun h => ?_) (fun h => ?_)
  · skip
    refine x_aload_n (pc := 18) X d_Mod_comesTold_18 1 rfl rfl ?_
    refine x_get (pc := 19) X d_Mod_comesTold_19 0 rfl fl_Mod_34 rfl ?_
    refine x_iload_n (pc := 22) X d_Mod_comesTold_22 2 rfl rfl ?_
    refine x_iald (pc := 23) X d_Mod_comesTold_23 9 rfl (Nat.le_of_ble_eq_true rfl) rfl h (fun h => ?_)
    obtain ⟨hz, h⟩ := ceq_e h
    rcases h with ⟨e0, h⟩ | ⟨n0, h⟩
    · refine x_lk (pc := 24) (tgt := 95) X d_Mod_comesTold_24 hz.1 (by decide) (by rw [e0]; try rfl) rfl ?_
      refine x_aload_n (pc := 95) X d_Mod_comesTold_95 1 rfl rfl ?_
      refine x_aload_n (pc := 96) X d_Mod_comesTold_96 1 rfl rfl ?_
      refine x_get (pc := 97) X d_Mod_comesTold_97 0 rfl fl_Mod_40 rfl ?_
      refine x_iload_n (pc := 100) X d_Mod_comesTold_100 0 rfl rfl ?_
      refine x_iald (pc := 101) X d_Mod_comesTold_101 11 rfl (Nat.le_of_ble_eq_true rfl) rfl h (fun h => ?_)
      refine x_aload_n (pc := 102) X d_Mod_comesTold_102 1 rfl rfl ?_
      refine x_get (pc := 103) X d_Mod_comesTold_103 0 rfl fl_Mod_40 rfl ?_
      refine x_iload_n (pc := 106) X d_Mod_comesTold_106 0 rfl rfl ?_
      refine x_iconst (pc := 107) X d_Mod_comesTold_107  ?_
      refine x_iadd (pc := 108) X d_Mod_comesTold_108  ?_
      refine x_iald (pc := 109) X d_Mod_comesTold_109 11 rfl (Nat.le_of_ble_eq_true rfl) rfl h (fun h => ?_)
      refine x_aload_n (pc := 110) X d_Mod_comesTold_110 1 rfl rfl ?_
      refine x_get (pc := 111) X d_Mod_comesTold_111 0 rfl fl_Mod_40 rfl ?_
      refine x_iload_n (pc := 114) X d_Mod_comesTold_114 0 rfl rfl ?_
      refine x_iconst (pc := 115) X d_Mod_comesTold_115  ?_
      refine x_iadd (pc := 116) X d_Mod_comesTold_116  ?_
      refine x_iald (pc := 117) X d_Mod_comesTold_117 11 rfl (Nat.le_of_ble_eq_true rfl) rfl h (fun h => ?_)
      obtain ⟨r5, h6, h⟩ := bnd_e h
      refine x_callV (pc := 118) (As := [.int (zi (m_told (3 * x1))), .int (zi (m_told ((3 * x1) + 1))), .int (zi (m_told ((3 * x1) + 2)))]) (rest := []) (w2 := (w_Mod cI cB a0 a1 a2 a3 a4 a5 a6 a7 a8 a9 a10 a11 a12 a13 a14 a15 r5.2.1 r5.2.2.1 m_taped m_reading m_statements m_telling m_hasImage m_isKeeping m_cursor m_rowMany m_lots m_refused m_bytes r5.2.2.2.1 r5.2.2.2.2.1 r5.2.2.2.2.2 m_waits m_kinds m_tape m_sort m_sortAt m_told m_kept m_was m_ends m_row)) X d_Mod_comesTold_118 lk_Mod_236 mv_Mod_comesAhead (c_Mod_comesAhead l D cI cB a0 a1 a2 a3 a4 a5 a6 a7 a8 a9 a10 a11 a12 a13 a14 a15 m_stepsMade m_stepsMost m_taped m_reading m_statements m_telling m_hasImage m_isKeeping m_cursor m_rowMany m_lots m_refused m_bytes m_owner m_block m_written m_waits m_kinds m_tape m_sort m_sortAt m_told m_kept m_was m_ends m_row (m_told (3 * x1)) (m_told ((3 * x1) + 1)) (m_told ((3 * x1) + 2)) h6) ⟨(Nat.le_of_ble_eq_true rfl), (Nat.le_of_ble_eq_true rfl), (Nat.le_of_ble_eq_true rfl), (Nat.le_of_ble_eq_true rfl)⟩ 0 rfl rfl [0, 1, 2, 3, 4, 5, 6, 7, 8, 9, 10, 11, 12, 13, 14, 15] rfl rfl rfl (Up.of [] [] rfl rfl rfl 16 rfl (by decide +kernel)) rfl rfl (Nat.le_of_ble_eq_true rfl) ?_
      obtain ⟨hz0, h⟩ := gd_e h
      cases h
      exact x_zret (pc := 121) X hR d_Mod_comesTold_121 hz0
    obtain ⟨hz, h⟩ := ceq_e h
    rcases h with ⟨e1, h⟩ | ⟨n1, h⟩
    · refine x_lk (pc := 24) (tgt := 122) X d_Mod_comesTold_24 hz.1 (by decide) (by rw [e1]; try rfl) rfl ?_
      refine x_aload_n (pc := 122) X d_Mod_comesTold_122 1 rfl rfl ?_
      refine x_aload_n (pc := 123) X d_Mod_comesTold_123 1 rfl rfl ?_
      refine x_get (pc := 124) X d_Mod_comesTold_124 0 rfl fl_Mod_40 rfl ?_
      refine x_iload_n (pc := 127) X d_Mod_comesTold_127 0 rfl rfl ?_
      refine x_iald (pc := 128) X d_Mod_comesTold_128 11 rfl (Nat.le_of_ble_eq_true rfl) rfl h (fun h => ?_)
      refine x_aload_n (pc := 129) X d_Mod_comesTold_129 1 rfl rfl ?_
      refine x_get (pc := 130) X d_Mod_comesTold_130 0 rfl fl_Mod_40 rfl ?_
      refine x_iload_n (pc := 133) X d_Mod_comesTold_133 0 rfl rfl ?_
      refine x_iconst (pc := 134) X d_Mod_comesTold_134  ?_
      refine x_iadd (pc := 135) X d_Mod_comesTold_135  ?_
      refine x_iald (pc := 136) X d_Mod_comesTold_136 11 rfl (Nat.le_of_ble_eq_true rfl) rfl h (fun h => ?_)
      refine x_aload_n (pc := 137) X d_Mod_comesTold_137 1 rfl rfl ?_
      refine x_get (pc := 138) X d_Mod_comesTold_138 0 rfl fl_Mod_40 rfl ?_
      refine x_iload_n (pc := 141) X d_Mod_comesTold_141 0 rfl rfl ?_
      refine x_iconst (pc := 142) X d_Mod_comesTold_142  ?_
      refine x_iadd (pc := 143) X d_Mod_comesTold_143  ?_
      refine x_iald (pc := 144) X d_Mod_comesTold_144 11 rfl (Nat.le_of_ble_eq_true rfl) rfl h (fun h => ?_)
      obtain ⟨r7, h8, h⟩ := bnd_e h
      refine x_callV (pc := 145) (As := [.int (zi (m_told (3 * x1))), .int (zi (m_told ((3 * x1) + 1))), .int (zi (m_told ((3 * x1) + 2)))]) (rest := []) (w2 := (w_Mod cI cB a0 a1 a2 a3 a4 a5 a6 a7 a8 a9 a10 a11 a12 a13 a14 a15 m_stepsMade m_stepsMost m_taped m_reading m_statements m_telling m_hasImage m_isKeeping m_cursor m_rowMany m_lots m_refused m_bytes r7.2.1 r7.2.2.1 r7.2.2.2.1 r7.2.2.2.2 m_kinds m_tape m_sort m_sortAt m_told m_kept m_was m_ends m_row)) X d_Mod_comesTold_145 lk_Mod_239 mv_Mod_comesPunch (c_Mod_comesPunch l D cI cB a0 a1 a2 a3 a4 a5 a6 a7 a8 a9 a10 a11 a12 a13 a14 a15 m_stepsMade m_stepsMost m_taped m_reading m_statements m_telling m_hasImage m_isKeeping m_cursor m_rowMany m_lots m_refused m_bytes m_owner m_block m_written m_waits m_kinds m_tape m_sort m_sortAt m_told m_kept m_was m_ends m_row (m_told (3 * x1)) (m_told ((3 * x1) + 1)) (m_told ((3 * x1) + 2)) h8) ⟨(Nat.le_of_ble_eq_true rfl), (Nat.le_of_ble_eq_true rfl), (Nat.le_of_ble_eq_true rfl), (Nat.le_of_ble_eq_true rfl)⟩ 0 rfl rfl [0, 1, 2, 3, 4, 5, 6, 7, 8, 9, 10, 11, 12, 13, 14, 15] rfl rfl rfl (Up.of [] [] rfl rfl rfl 16 rfl (by decide +kernel)) rfl rfl (Nat.le_of_ble_eq_true rfl) ?_
      obtain ⟨hz0, h⟩ := gd_e h
      cases h
      exact x_zret (pc := 148) X hR d_Mod_comesTold_148 hz0
    obtain ⟨hz, h⟩ := ceq_e h
    rcases h with ⟨e2, h⟩ | ⟨n2, h⟩
    · refine x_lk (pc := 24) (tgt := 149) X d_Mod_comesTold_24 hz.1 (by decide) (by rw [e2]; try rfl) rfl ?_
      refine x_aload_n (pc := 149) X d_Mod_comesTold_149 1 rfl rfl ?_
      refine x_aload_n (pc := 150) X d_Mod_comesTold_150 1 rfl rfl ?_
      refine x_get (pc := 151) X d_Mod_comesTold_151 0 rfl fl_Mod_40 rfl ?_
      refine x_iload_n (pc := 154) X d_Mod_comesTold_154 0 rfl rfl ?_
      refine x_iald (pc := 155) X d_Mod_comesTold_155 11 rfl (Nat.le_of_ble_eq_true rfl) rfl h (fun h => ?_)
      obtain ⟨r9, h10, h⟩ := bnd_e h
      refine x_callV (pc := 156) (As := [.int (zi (m_told (3 * x1)))]) (rest := []) (w2 := (w_Mod cI cB a0 a1 a2 a3 a4 a5 a6 a7 a8 a9 a10 a11 a12 a13 a14 a15 m_stepsMade m_stepsMost m_taped m_reading m_statements m_telling m_hasImage m_isKeeping m_cursor m_rowMany m_lots m_refused r9.2.1 r9.2.2.1 r9.2.2.2 m_written m_waits m_kinds m_tape m_sort m_sortAt m_told m_kept m_was m_ends m_row)) X d_Mod_comesTold_156 lk_Mod_242 mv_Mod_comesSettle (c_Mod_comesSettle l D cI cB a0 a1 a2 a3 a4 a5 a6 a7 a8 a9 a10 a11 a12 a13 a14 a15 m_stepsMade m_stepsMost m_taped m_reading m_statements m_telling m_hasImage m_isKeeping m_cursor m_rowMany m_lots m_refused m_bytes m_owner m_block m_written m_waits m_kinds m_tape m_sort m_sortAt m_told m_kept m_was m_ends m_row (m_told (3 * x1)) h10) ⟨(Nat.le_of_ble_eq_true rfl), (Nat.le_of_ble_eq_true rfl), (Nat.le_of_ble_eq_true rfl), (Nat.le_of_ble_eq_true rfl)⟩ 0 rfl rfl [0, 1, 2, 3, 4, 5, 6, 7, 8, 9, 10, 11, 12, 13, 14, 15] rfl rfl rfl (Up.of [] [] rfl rfl rfl 16 rfl (by decide +kernel)) rfl rfl (Nat.le_of_ble_eq_true rfl) ?_
      obtain ⟨hz0, h⟩ := gd_e h
      cases h
      exact x_zret (pc := 159) X hR d_Mod_comesTold_159 hz0
    obtain ⟨hz, h⟩ := ceq_e h
    rcases h with ⟨e3, h⟩ | ⟨n3, h⟩
    · refine x_lk (pc := 24) (tgt := 68) X d_Mod_comesTold_24 hz.1 (by decide) (by rw [e3]; try rfl) rfl ?_
      refine x_aload_n (pc := 68) X d_Mod_comesTold_68 1 rfl rfl ?_
      refine x_aload_n (pc := 69) X d_Mod_comesTold_69 1 rfl rfl ?_
      refine x_get (pc := 70) X d_Mod_comesTold_70 0 rfl fl_Mod_40 rfl ?_
      refine x_iload_n (pc := 73) X d_Mod_comesTold_73 0 rfl rfl ?_
      refine x_iald (pc := 74) X d_Mod_comesTold_74 11 rfl (Nat.le_of_ble_eq_true rfl) rfl h (fun h => ?_)
      refine x_aload_n (pc := 75) X d_Mod_comesTold_75 1 rfl rfl ?_
      refine x_get (pc := 76) X d_Mod_comesTold_76 0 rfl fl_Mod_40 rfl ?_
      refine x_iload_n (pc := 79) X d_Mod_comesTold_79 0 rfl rfl ?_
      refine x_iconst (pc := 80) X d_Mod_comesTold_80  ?_
      refine x_iadd (pc := 81) X d_Mod_comesTold_81  ?_
      refine x_iald (pc := 82) X d_Mod_comesTold_82 11 rfl (Nat.le_of_ble_eq_true rfl) rfl h (fun h => ?_)
      refine x_aload_n (pc := 83) X d_Mod_comesTold_83 1 rfl rfl ?_
      refine x_get (pc := 84) X d_Mod_comesTold_84 0 rfl fl_Mod_40 rfl ?_
      refine x_iload_n (pc := 87) X d_Mod_comesTold_87 0 rfl rfl ?_
      refine x_iconst (pc := 88) X d_Mod_comesTold_88  ?_
      refine x_iadd (pc := 89) X d_Mod_comesTold_89  ?_
      refine x_iald (pc := 90) X d_Mod_comesTold_90 11 rfl (Nat.le_of_ble_eq_true rfl) rfl h (fun h => ?_)
      obtain ⟨r11, h12, h⟩ := bnd_e h
      refine x_callV (pc := 91) (As := [.int (zi (m_told (3 * x1))), .int (zi (m_told ((3 * x1) + 1))), .int (zi (m_told ((3 * x1) + 2)))]) (rest := []) (w2 := (w_Mod cI cB a0 a1 a2 a3 a4 a5 a6 a7 a8 a9 a10 a11 a12 a13 a14 a15 m_stepsMade m_stepsMost m_taped m_reading m_statements m_telling m_hasImage m_isKeeping m_cursor m_rowMany m_lots m_refused m_bytes m_owner m_block m_written r11.2 m_kinds m_tape m_sort m_sortAt m_told m_kept m_was m_ends m_row)) X d_Mod_comesTold_91 lk_Mod_233 mv_Mod_comesSaid (c_Mod_comesSaid l D cI cB a0 a1 a2 a3 a4 a5 a6 a7 a8 a9 a10 a11 a12 a13 a14 a15 m_stepsMade m_stepsMost m_taped m_reading m_statements m_telling m_hasImage m_isKeeping m_cursor m_rowMany m_lots m_refused m_bytes m_owner m_block m_written m_waits m_kinds m_tape m_sort m_sortAt m_told m_kept m_was m_ends m_row (m_told (3 * x1)) (m_told ((3 * x1) + 1)) (m_told ((3 * x1) + 2)) h12) ⟨(Nat.le_of_ble_eq_true rfl), (Nat.le_of_ble_eq_true rfl), (Nat.le_of_ble_eq_true rfl), (Nat.le_of_ble_eq_true rfl)⟩ 0 rfl rfl [0, 1, 2, 3, 4, 5, 6, 7, 8, 9, 10, 11, 12, 13, 14, 15] rfl rfl rfl (Up.of [] [] rfl rfl rfl 16 rfl (by decide +kernel)) rfl rfl (Nat.le_of_ble_eq_true rfl) ?_
      obtain ⟨hz0, h⟩ := gd_e h
      cases h
      exact x_zret (pc := 94) X hR d_Mod_comesTold_94 hz0
    refine x_lk (pc := 24) (off := 136) (tgt := 160) X d_Mod_comesTold_24 hz.1 (by decide) (by rw [Op.lookupswitch.offset_cons, if_neg (fun e => n0 e.symm), Op.lookupswitch.offset_cons, if_neg (fun e => n1 e.symm), Op.lookupswitch.offset_cons, if_neg (fun e => n2 e.symm), Op.lookupswitch.offset_cons, if_neg (fun e => n3 e.symm)]; rfl) rfl ?_
    · skip
      refine x_aload_n (pc := 160) X d_Mod_comesTold_160 1 rfl rfl ?_
      refine x_aload_n (pc := 161) X d_Mod_comesTold_161 1 rfl rfl ?_
      refine x_get (pc := 162) X d_Mod_comesTold_162 0 rfl fl_Mod_34 rfl ?_
      refine x_iload_n (pc := 165) X d_Mod_comesTold_165 2 rfl rfl ?_
      refine x_iald (pc := 166) X d_Mod_comesTold_166 9 rfl (Nat.le_of_ble_eq_true rfl) rfl h (fun h => ?_)
      refine x_aload_n (pc := 167) X d_Mod_comesTold_167 1 rfl rfl ?_
      refine x_get (pc := 168) X d_Mod_comesTold_168 0 rfl fl_Mod_40 rfl ?_
      refine x_iload_n (pc := 171) X d_Mod_comesTold_171 0 rfl rfl ?_
      refine x_iald (pc := 172) X d_Mod_comesTold_172 11 rfl (Nat.le_of_ble_eq_true rfl) rfl h (fun h => ?_)
      refine x_aload_n (pc := 173) X d_Mod_comesTold_173 1 rfl rfl ?_
      refine x_get (pc := 174) X d_Mod_comesTold_174 0 rfl fl_Mod_40 rfl ?_
      refine x_iload_n (pc := 177) X d_Mod_comesTold_177 0 rfl rfl ?_
      refine x_iconst (pc := 178) X d_Mod_comesTold_178  ?_
      refine x_iadd (pc := 179) X d_Mod_comesTold_179  ?_
      refine x_iald (pc := 180) X d_Mod_comesTold_180 11 rfl (Nat.le_of_ble_eq_true rfl) rfl h (fun h => ?_)
      obtain ⟨r3, h4, h⟩ := bnd_e h
      refine x_callV (pc := 181) (As := [.int (zi (m_sort x1)), .int (zi (m_told (3 * x1))), .int (zi (m_told ((3 * x1) + 1)))]) (rest := []) (w2 := (w_Mod cI cB a0 a1 a2 a3 a4 a5 a6 a7 a8 a9 a10 a11 a12 a13 a14 a15 r3.2.1 r3.2.2.1 m_taped m_reading m_statements m_telling m_hasImage m_isKeeping m_cursor m_rowMany m_lots m_refused r3.2.2.2.1 r3.2.2.2.2.1 r3.2.2.2.2.2.1 r3.2.2.2.2.2.2.1 r3.2.2.2.2.2.2.2.1 r3.2.2.2.2.2.2.2.2 m_tape m_sort m_sortAt m_told m_kept m_was m_ends m_row)) X d_Mod_comesTold_181 lk_Mod_245 mv_Mod_comesPlain (c_Mod_comesPlain l D cI cB a0 a1 a2 a3 a4 a5 a6 a7 a8 a9 a10 a11 a12 a13 a14 a15 m_stepsMade m_stepsMost m_taped m_reading m_statements m_telling m_hasImage m_isKeeping m_cursor m_rowMany m_lots m_refused m_bytes m_owner m_block m_written m_waits m_kinds m_tape m_sort m_sortAt m_told m_kept m_was m_ends m_row (m_sort x1) (m_told (3 * x1)) (m_told ((3 * x1) + 1)) h4) ⟨(Nat.le_of_ble_eq_true rfl), (Nat.le_of_ble_eq_true rfl), (Nat.le_of_ble_eq_true rfl), (Nat.le_of_ble_eq_true rfl)⟩ 0 rfl rfl [0, 1, 2, 3, 4, 5, 6, 7, 8, 9, 10, 11, 12, 13, 14, 15] rfl rfl rfl (Up.of [] [] rfl rfl rfl 16 rfl (by decide +kernel)) rfl rfl (Nat.le_of_ble_eq_true rfl) ?_
      obtain ⟨hz0, h⟩ := gd_e h
      cases h
      exact x_zret (pc := 184) X hR d_Mod_comesTold_184 hz0
  · skip
    refine x_iconst (pc := 16) X d_Mod_comesTold_16  ?_
    cases h
    exact x_zret (pc := 17) X hR d_Mod_comesTold_17 (Or.inl rfl)
theorem d_Mod_volume_0 : decode b_Mod_volume 0 = .ok (.aload_n 0, 1) := by decide +kernel
theorem d_Mod_volume_1 : decode b_Mod_volume 1 = .ok (.iconst 0, 1) := by decide +kernel
theorem d_Mod_volume_2 : decode b_Mod_volume 2 = .ok (.putfield 175, 3) := by decide +kernel
theorem d_Mod_volume_5 : decode b_Mod_volume 5 = .ok (.aload_n 0, 1) := by decide +kernel
theorem d_Mod_volume_6 : decode b_Mod_volume 6 = .ok (.iconst 0, 1) := by decide +kernel
theorem d_Mod_volume_7 : decode b_Mod_volume 7 = .ok (.putfield 193, 3) := by decide +kernel
theorem d_Mod_volume_10 : decode b_Mod_volume 10 = .ok (.iconst 1, 1) := by decide +kernel
theorem d_Mod_volume_11 : decode b_Mod_volume 11 = .ok (.istore_n 1, 1) := by decide +kernel
theorem d_Mod_volume_12 : decode b_Mod_volume 12 = .ok (.iload_n 1, 1) := by decide +kernel
theorem d_Mod_volume_13 : decode b_Mod_volume 13 = .ok (.ifCond .eq 47, 3) := by decide +kernel
theorem d_Mod_volume_16 : decode b_Mod_volume 16 = .ok (.aload_n 0, 1) := by decide +kernel
theorem d_Mod_volume_17 : decode b_Mod_volume 17 = .ok (.getfield 175, 3) := by decide +kernel
theorem d_Mod_volume_20 : decode b_Mod_volume 20 = .ok (.aload_n 0, 1) := by decide +kernel
theorem d_Mod_volume_21 : decode b_Mod_volume 21 = .ok (.getfield 169, 3) := by decide +kernel
theorem d_Mod_volume_24 : decode b_Mod_volume 24 = .ok (.if_icmp .lt 10, 3) := by decide +kernel
theorem d_Mod_volume_27 : decode b_Mod_volume 27 = .ok (.aload_n 0, 1) := by decide +kernel
theorem d_Mod_volume_28 : decode b_Mod_volume 28 = .ok (.getfield 193, 3) := by decide +kernel
theorem d_Mod_volume_31 : decode b_Mod_volume 31 = .ok (.ifCond .ne 29, 3) := by decide +kernel
theorem d_Mod_volume_34 : decode b_Mod_volume 34 = .ok (.aload_n 0, 1) := by decide +kernel
theorem d_Mod_volume_35 : decode b_Mod_volume 35 = .ok (.invokevirtual 248, 3) := by decide +kernel
theorem d_Mod_volume_38 : decode b_Mod_volume 38 = .ok (.istore_n 1, 1) := by decide +kernel
theorem d_Mod_volume_39 : decode b_Mod_volume 39 = .ok (.aload_n 0, 1) := by decide +kernel
theorem d_Mod_volume_40 : decode b_Mod_volume 40 = .ok (.dup, 1) := by decide +kernel
theorem d_Mod_volume_41 : decode b_Mod_volume 41 = .ok (.getfield 193, 3) := by decide +kernel
theorem d_Mod_volume_44 : decode b_Mod_volume 44 = .ok (.iload_n 1, 1) := by decide +kernel
theorem d_Mod_volume_45 : decode b_Mod_volume 45 = .ok (.ifCond .eq 7, 3) := by decide +kernel
theorem d_Mod_volume_48 : decode b_Mod_volume 48 = .ok (.iconst 1, 1) := by decide +kernel
theorem d_Mod_volume_49 : decode b_Mod_volume 49 = .ok (.goto 4, 3) := by decide +kernel
theorem d_Mod_volume_52 : decode b_Mod_volume 52 = .ok (.iconst 0, 1) := by decide +kernel
theorem d_Mod_volume_53 : decode b_Mod_volume 53 = .ok (.iadd, 1) := by decide +kernel
theorem d_Mod_volume_54 : decode b_Mod_volume 54 = .ok (.putfield 193, 3) := by decide +kernel
theorem d_Mod_volume_57 : decode b_Mod_volume 57 = .ok (.goto (-45), 3) := by decide +kernel
theorem d_Mod_volume_60 : decode b_Mod_volume 60 = .ok (.aload_n 0, 1) := by decide +kernel
theorem d_Mod_volume_61 : decode b_Mod_volume 61 = .ok (.iconst 0, 1) := by decide +kernel
theorem d_Mod_volume_62 : decode b_Mod_volume 62 = .ok (.putfield 169, 3) := by decide +kernel
theorem d_Mod_volume_65 : decode b_Mod_volume 65 = .ok (.iload_n 1, 1) := by decide +kernel
theorem d_Mod_volume_66 : decode b_Mod_volume 66 = .ok (.ifCond .ne 12, 3) := by decide +kernel
theorem d_Mod_volume_69 : decode b_Mod_volume 69 = .ok (.sipush (-1000), 3) := by decide +kernel
theorem d_Mod_volume_72 : decode b_Mod_volume 72 = .ok (.aload_n 0, 1) := by decide +kernel
theorem d_Mod_volume_73 : decode b_Mod_volume 73 = .ok (.getfield 175, 3) := by decide +kernel
theorem d_Mod_volume_76 : decode b_Mod_volume 76 = .ok (.isub, 1) := by decide +kernel
theorem d_Mod_volume_77 : decode b_Mod_volume 77 = .ok (.ireturn, 1) := by decide +kernel
theorem d_Mod_volume_78 : decode b_Mod_volume 78 = .ok (.aload_n 0, 1) := by decide +kernel
theorem d_Mod_volume_79 : decode b_Mod_volume 79 = .ok (.iconst 1, 1) := by decide +kernel
theorem d_Mod_volume_80 : decode b_Mod_volume 80 = .ok (.iconst 1, 1) := by decide +kernel
theorem d_Mod_volume_81 : decode b_Mod_volume 81 = .ok (.invokevirtual 251, 3) := by decide +kernel
theorem d_Mod_volume_84 : decode b_Mod_volume 84 = .ok (.iconst 0, 1) := by decide +kernel
theorem d_Mod_volume_85 : decode b_Mod_volume 85 = .ok (.istore_n 2, 1) := by decide +kernel
theorem d_Mod_volume_86 : decode b_Mod_volume 86 = .ok (.iload_n 2, 1) := by decide +kernel
theorem d_Mod_volume_87 : decode b_Mod_volume 87 = .ok (.aload_n 0, 1) := by decide +kernel
theorem d_Mod_volume_88 : decode b_Mod_volume 88 = .ok (.getfield 193, 3) := by decide +kernel
theorem d_Mod_volume_91 : decode b_Mod_volume 91 = .ok (.if_icmp .ge 37, 3) := by decide +kernel
theorem d_Mod_volume_94 : decode b_Mod_volume 94 = .ok (.aload_n 0, 1) := by decide +kernel
theorem d_Mod_volume_95 : decode b_Mod_volume 95 = .ok (.iload_n 2, 1) := by decide +kernel
theorem d_Mod_volume_96 : decode b_Mod_volume 96 = .ok (.invokevirtual 255, 3) := by decide +kernel
theorem d_Mod_volume_99 : decode b_Mod_volume 99 = .ok (.ifCond .eq 6, 3) := by decide +kernel
theorem d_Mod_volume_102 : decode b_Mod_volume 102 = .ok (.goto 20, 3) := by decide +kernel
theorem d_Mod_volume_105 : decode b_Mod_volume 105 = .ok (.aload_n 0, 1) := by decide +kernel
theorem d_Mod_volume_106 : decode b_Mod_volume 106 = .ok (.iconst 1, 1) := by decide +kernel
theorem d_Mod_volume_107 : decode b_Mod_volume 107 = .ok (.iconst 0, 1) := by decide +kernel
theorem d_Mod_volume_108 : decode b_Mod_volume 108 = .ok (.invokevirtual 251, 3) := by decide +kernel
theorem d_Mod_volume_111 : decode b_Mod_volume 111 = .ok (.sipush (-2000), 3) := by decide +kernel
theorem d_Mod_volume_114 : decode b_Mod_volume 114 = .ok (.aload_n 0, 1) := by decide +kernel
theorem d_Mod_volume_115 : decode b_Mod_volume 115 = .ok (.getfield 37, 3) := by decide +kernel
theorem d_Mod_volume_118 : decode b_Mod_volume 118 = .ok (.iload_n 2, 1) := by decide +kernel
theorem d_Mod_volume_119 : decode b_Mod_volume 119 = .ok (.iaload, 1) := by decide +kernel
theorem d_Mod_volume_120 : decode b_Mod_volume 120 = .ok (.isub, 1) := by decide +kernel
theorem d_Mod_volume_121 : decode b_Mod_volume 121 = .ok (.ireturn, 1) := by decide +kernel
theorem d_Mod_volume_122 : decode b_Mod_volume 122 = .ok (.iinc 2 1, 3) := by decide +kernel
theorem d_Mod_volume_125 : decode b_Mod_volume 125 = .ok (.goto (-39), 3) := by decide +kernel
theorem d_Mod_volume_128 : decode b_Mod_volume 128 = .ok (.aload_n 0, 1) := by decide +kernel
theorem d_Mod_volume_129 : decode b_Mod_volume 129 = .ok (.getfield 193, 3) := by decide +kernel
theorem d_Mod_volume_132 : decode b_Mod_volume 132 = .ok (.ireturn, 1) := by decide +kernel
def m_Mod_volume_86 : Nat → Int → Int → Int → Int → Int → Int → Int → Int → Int → (Int → Int) → (Int → Int) → (Int → Int) → (Int → Int) → (Int → Int) → (Int → Int) → (Int → Int) → (Int → Int) → (Int → Int) → (Int → Int) → (Int → Int) → Option (Int × Int × Int × Int × Int × Int × Int × Int × Int × (Int → Int) × (Int → Int) × (Int → Int) × (Int → Int) × (Int → Int) × (Int → Int) × (Int → Int) × (Int → Int) × (Int → Int) × (Int → Int))
  | 0, _, _, _, _, _, _, _, _, _, _, _, _, _, _, _, _, _, _, _, _ => none
  | fuel + 1, v2, m_stepsMade, m_stepsMost, m_taped, m_reading, m_statements, m_telling, m_isKeeping, m_cursor, m_bytes, m_owner, m_block, m_written, m_waits, m_kinds, m_tape, m_sort, m_sortAt, m_told, m_kept =>
  clt v2 m_statements (bnd (m_Mod_comesTold v2 m_stepsMade m_stepsMost m_bytes m_owner m_block m_written m_waits m_kinds m_sort m_told) (fun r23 => ceq r23.1 0 (bnd (m_Mod_passesAll 1 0 m_isKeeping m_cursor r23.2.2.2.1 r23.2.2.2.2.1 r23.2.2.2.2.2.1 r23.2.2.2.2.2.2.1 r23.2.2.2.2.2.2.2.1 r23.2.2.2.2.2.2.2.2 m_kept) (fun r25 => gd (zx v2 33) (some (((-2000) - (m_sortAt v2)), r23.2.1, r23.2.2.1, m_taped, m_reading, m_statements, m_telling, r25.1, r25.2.1, r25.2.2.1, r25.2.2.2.1, r25.2.2.2.2.1, r25.2.2.2.2.2.1, r25.2.2.2.2.2.2.1, r25.2.2.2.2.2.2.2.1, m_sort, m_sortAt, m_told, r25.2.2.2.2.2.2.2.2)))) (m_Mod_volume_86 fuel (v2 + 1) r23.2.1 r23.2.2.1 m_taped m_reading m_statements m_telling m_isKeeping m_cursor r23.2.2.2.1 r23.2.2.2.2.1 r23.2.2.2.2.2.1 r23.2.2.2.2.2.2.1 r23.2.2.2.2.2.2.2.1 r23.2.2.2.2.2.2.2.2 m_tape m_sort m_sortAt m_told m_kept))) (some (m_statements, m_stepsMade, m_stepsMost, m_taped, m_reading, m_statements, m_telling, m_isKeeping, m_cursor, m_bytes, m_owner, m_block, m_written, m_waits, m_kinds, m_sort, m_sortAt, m_told, m_kept))
def m_Mod_volume_12 : Nat → Int → Int → Int → Int → Int → Int → Int → Int → Int → (Int → Int) → (Int → Int) → (Int → Int) → (Int → Int) → (Int → Int) → (Int → Int) → (Int → Int) → (Int → Int) → (Int → Int) → (Int → Int) → (Int → Int) → Option (Int × Int × Int × Int × Int × Int × Int × Int × Int × (Int → Int) × (Int → Int) × (Int → Int) × (Int → Int) × (Int → Int) × (Int → Int) × (Int → Int) × (Int → Int) × (Int → Int) × (Int → Int))
  | 0, _, _, _, _, _, _, _, _, _, _, _, _, _, _, _, _, _, _, _, _ => none
  | fuel + 1, v1, m_stepsMade, m_stepsMost, m_taped, m_reading, m_statements, m_telling, m_isKeeping, m_cursor, m_bytes, m_owner, m_block, m_written, m_waits, m_kinds, m_tape, m_sort, m_sortAt, m_told, m_kept =>
  jn (fun (z2 : Int) (c3 : Int) (c4 : Int) (c5 : Int) (c6 : Int) (c7 : Int) (c8 : Int) (c9 : Int) (c10 : Int) (c11 : Int → Int) (c12 : Int → Int) (c13 : Int → Int) (c14 : Int → Int) (c15 : Int → Int) (c16 : Int → Int) (c17 : Int → Int) (c18 : Int → Int) (c19 : Int → Int) (c20 : Int → Int) => ceq z2 0 (some (((-1000) - c6), c3, c4, 0, c6, c7, c8, c9, c10, c11, c12, c13, c14, c15, c16, c17, c18, c19, c20)) (bnd (m_Mod_passesAll 1 1 c9 c10 c11 c12 c13 c14 c15 c16 c20) (fun r21 => m_Mod_volume_86 5000 0 c3 c4 0 c6 c7 c8 r21.1 r21.2.1 r21.2.2.1 r21.2.2.2.1 r21.2.2.2.2.1 r21.2.2.2.2.2.1 r21.2.2.2.2.2.2.1 r21.2.2.2.2.2.2.2.1 m_tape c17 c18 c19 r21.2.2.2.2.2.2.2.2))) (fun j1 => ceq v1 0 (j1 v1 m_stepsMade m_stepsMost m_taped m_reading m_statements m_telling m_isKeeping m_cursor m_bytes m_owner m_block m_written m_waits m_kinds m_sort m_sortAt m_told m_kept) (jn (fun (c30 : Int) (c31 : Int) (c32 : Int) (c33 : Int) (c34 : Int) (c35 : Int) (c36 : Int) (c37 : Int) (c38 : Int → Int) (c39 : Int → Int) (c40 : Int → Int) (c41 : Int → Int) (c42 : Int → Int) (c43 : Int → Int) (c44 : Int → Int) (c45 : Int → Int) (c46 : Int → Int) (c47 : Int → Int) => bnd (m_Mod_statement c32 c33 c34 c35 m_tape c44 c45 c46) (fun r48 => ceq r48.1 0 (m_Mod_volume_12 fuel r48.1 c30 c31 c32 r48.2.1 (c34 + 0) r48.2.2.1 c36 c37 c38 c39 c40 c41 c42 c43 m_tape r48.2.2.2.1 r48.2.2.2.2.1 r48.2.2.2.2.2 c47) (m_Mod_volume_12 fuel r48.1 c30 c31 c32 r48.2.1 (c34 + 1) r48.2.2.1 c36 c37 c38 c39 c40 c41 c42 c43 m_tape r48.2.2.2.1 r48.2.2.2.2.1 r48.2.2.2.2.2 c47))) (fun j29 => clt m_reading m_taped (j29 m_stepsMade m_stepsMost m_taped m_reading m_statements m_telling m_isKeeping m_cursor m_bytes m_owner m_block m_written m_waits m_kinds m_sort m_sortAt m_told m_kept) (ceq m_statements 0 (j29 m_stepsMade m_stepsMost m_taped m_reading m_statements m_telling m_isKeeping m_cursor m_bytes m_owner m_block m_written m_waits m_kinds m_sort m_sortAt m_told m_kept) (j1 v1 m_stepsMade m_stepsMost m_taped m_reading m_statements m_telling m_isKeeping m_cursor m_bytes m_owner m_block m_written m_waits m_kinds m_sort m_sortAt m_told m_kept)))))
def m_Mod_volume  (m_stepsMade : Int) (m_stepsMost : Int) (m_taped : Int) (m_reading : Int) (m_statements : Int) (m_telling : Int) (m_isKeeping : Int) (m_cursor : Int) (m_bytes : Int → Int) (m_owner : Int → Int) (m_block : Int → Int) (m_written : Int → Int) (m_waits : Int → Int) (m_kinds : Int → Int) (m_tape : Int → Int) (m_sort : Int → Int) (m_sortAt : Int → Int) (m_told : Int → Int) (m_kept : Int → Int) : Option (Int × Int × Int × Int × Int × Int × Int × Int × Int × (Int → Int) × (Int → Int) × (Int → Int) × (Int → Int) × (Int → Int) × (Int → Int) × (Int → Int) × (Int → Int) × (Int → Int) × (Int → Int)) :=
  m_Mod_volume_12 5000 1 m_stepsMade m_stepsMost m_taped 0 0 m_telling m_isKeeping m_cursor m_bytes m_owner m_block m_written m_waits m_kinds m_tape m_sort m_sortAt m_told m_kept
set_option maxHeartbeats 4000000 in
set_option maxRecDepth 100000 in
theorem l_Mod_volume_86 {G : GT} {l : Launch} {D : va_G} {cI cB : ClassId} {a0 a1 a2 a3 a4 a5 a6 a7 a8 a9 a10 a11 a12 a13 a14 a15 : Nat} {m_hasImage : Int} {m_rowMany : Int} {m_lots : Int} {m_refused : Int → Int} {m_was : Int → Int} {m_ends : Int → Int} {m_row : Int → Int} (X : Cx G l D cI cB b_Mod_volume y_Mod_volume.cls 3 { frames := 9, cells := 0, slots := 0, locals := 211 }) : ∀ (fuel : Nat) (v2 : Int) (m_stepsMade : Int) (m_stepsMost : Int) (m_taped : Int) (m_reading : Int) (m_statements : Int) (m_telling : Int) (m_isKeeping : Int) (m_cursor : Int) (m_bytes : Int → Int) (m_owner : Int → Int) (m_block : Int → Int) (m_written : Int → Int) (m_waits : Int → Int) (m_kinds : Int → Int) (m_tape : Int → Int) (m_sort : Int → Int) (m_sortAt : Int → Int) (m_told : Int → Int) (m_kept : Int → Int) (o : Int × Int × Int × Int × Int × Int × Int × Int × Int × (Int → Int) × (Int → Int) × (Int → Int) × (Int → Int) × (Int → Int) × (Int → Int) × (Int → Int) × (Int → Int) × (Int → Int) × (Int → Int)), m_Mod_volume_86 fuel v2 m_stepsMade m_stepsMost m_taped m_reading m_statements m_telling m_isKeeping m_cursor m_bytes m_owner m_block m_written m_waits m_kinds m_tape m_sort m_sortAt m_told m_kept = some o → Rt G (some .int) (some (.int (zi o.1))) (w_Mod cI cB a0 a1 a2 a3 a4 a5 a6 a7 a8 a9 a10 a11 a12 a13 a14 a15 o.2.1 o.2.2.1 o.2.2.2.1 o.2.2.2.2.1 o.2.2.2.2.2.1 o.2.2.2.2.2.2.1 m_hasImage o.2.2.2.2.2.2.2.1 o.2.2.2.2.2.2.2.2.1 m_rowMany m_lots m_refused o.2.2.2.2.2.2.2.2.2.1 o.2.2.2.2.2.2.2.2.2.2.1 o.2.2.2.2.2.2.2.2.2.2.2.1 o.2.2.2.2.2.2.2.2.2.2.2.2.1 o.2.2.2.2.2.2.2.2.2.2.2.2.2.1 o.2.2.2.2.2.2.2.2.2.2.2.2.2.2.1 m_tape o.2.2.2.2.2.2.2.2.2.2.2.2.2.2.2.1 o.2.2.2.2.2.2.2.2.2.2.2.2.2.2.2.2.1 o.2.2.2.2.2.2.2.2.2.2.2.2.2.2.2.2.2.1 o.2.2.2.2.2.2.2.2.2.2.2.2.2.2.2.2.2.2 m_was m_ends m_row) → Wx G 0 0 86 [(0, .ref a0), (2, .int (zi v2))] [] (w_Mod cI cB a0 a1 a2 a3 a4 a5 a6 a7 a8 a9 a10 a11 a12 a13 a14 a15 m_stepsMade m_stepsMost m_taped m_reading m_statements m_telling m_hasImage m_isKeeping m_cursor m_rowMany m_lots m_refused m_bytes m_owner m_block m_written m_waits m_kinds m_tape m_sort m_sortAt m_told m_kept m_was m_ends m_row) := by
  intro fuel
  induction fuel with
  | zero =>
    intro v2 m_stepsMade m_stepsMost m_taped m_reading m_statements m_telling m_isKeeping m_cursor m_bytes m_owner m_block m_written m_waits m_kinds m_tape m_sort m_sortAt m_told m_kept o h
    exact absurd h (by simp [m_Mod_volume_86])
  | succ fuel ih =>
    intro v2 m_stepsMade m_stepsMost m_taped m_reading m_statements m_telling m_isKeeping m_cursor m_bytes m_owner m_block m_written m_waits m_kinds m_tape m_sort m_sortAt m_told m_kept o h hR
    rw [m_Mod_volume_86] at h
    refine x_iload_n (pc := 86) X d_Mod_volume_86 1 rfl rfl ?_
    refine x_aload_n (pc := 87) X d_Mod_volume_87 0 rfl rfl ?_
    refine x_get (pc := 88) X d_Mod_volume_88 0 rfl fl_Mod_193 rfl ?_
    refine x_icmpge (pc := 91) (tgt := 128) X d_Mod_volume_91 rfl h (fun h => ?_) (fun h => ?_)
    · skip
      refine x_aload_n (pc := 128) X d_Mod_volume_128 0 rfl rfl ?_
      refine x_get (pc := 129) X d_Mod_volume_129 0 rfl fl_Mod_193 rfl ?_
      cases h
      exact x_iret (pc := 132) X hR d_Mod_volume_132
    · skip
      refine x_aload_n (pc := 94) X d_Mod_volume_94 0 rfl rfl ?_
      refine x_iload_n (pc := 95) X d_Mod_volume_95 1 rfl rfl ?_
      obtain ⟨r23, h24, h⟩ := bnd_e h
      refine x_callV (pc := 96) (As := [.int (zi v2)]) (rest := []) (w2 := (w_Mod cI cB a0 a1 a2 a3 a4 a5 a6 a7 a8 a9 a10 a11 a12 a13 a14 a15 r23.2.1 r23.2.2.1 m_taped m_reading m_statements m_telling m_hasImage m_isKeeping m_cursor m_rowMany m_lots m_refused r23.2.2.2.1 r23.2.2.2.2.1 r23.2.2.2.2.2.1 r23.2.2.2.2.2.2.1 r23.2.2.2.2.2.2.2.1 r23.2.2.2.2.2.2.2.2 m_tape m_sort m_sortAt m_told m_kept m_was m_ends m_row)) X d_Mod_volume_96 lk_Mod_255 mv_Mod_comesTold (c_Mod_comesTold l D cI cB a0 a1 a2 a3 a4 a5 a6 a7 a8 a9 a10 a11 a12 a13 a14 a15 m_stepsMade m_stepsMost m_taped m_reading m_statements m_telling m_hasImage m_isKeeping m_cursor m_rowMany m_lots m_refused m_bytes m_owner m_block m_written m_waits m_kinds m_tape m_sort m_sortAt m_told m_kept m_was m_ends m_row v2 h24) ⟨(Nat.le_of_ble_eq_true rfl), (Nat.le_of_ble_eq_true rfl), (Nat.le_of_ble_eq_true rfl), (Nat.le_of_ble_eq_true rfl)⟩ 0 rfl rfl [0, 1, 2, 3, 4, 5, 6, 7, 8, 9, 10, 11, 12, 13, 14, 15] rfl rfl rfl (Up.of [] [] rfl rfl rfl 16 rfl (by decide +kernel)) rfl rfl (Nat.le_of_ble_eq_true rfl) ?_
      refine x_ifeq (pc := 99) (tgt := 105) X d_Mod_volume_99 rfl h (fun h => ?_) (fun h => ?_)
      · skip
        refine x_aload_n (pc := 105) X d_Mod_volume_105 0 rfl rfl ?_
        refine x_iconst (pc := 106) X d_Mod_volume_106  ?_
        refine x_iconst (pc := 107) X d_Mod_volume_107  ?_
        obtain ⟨r25, h26, h⟩ := bnd_e h
        refine x_callV (pc := 108) (As := [.int (zi 1), .int (zi 0)]) (rest := []) (w2 := (w_Mod cI cB a0 a1 a2 a3 a4 a5 a6 a7 a8 a9 a10 a11 a12 a13 a14 a15 r23.2.1 r23.2.2.1 m_taped m_reading m_statements m_telling m_hasImage r25.1 r25.2.1 m_rowMany m_lots m_refused r25.2.2.1 r25.2.2.2.1 r25.2.2.2.2.1 r25.2.2.2.2.2.1 r25.2.2.2.2.2.2.1 r25.2.2.2.2.2.2.2.1 m_tape m_sort m_sortAt m_told r25.2.2.2.2.2.2.2.2 m_was m_ends m_row)) X d_Mod_volume_108 lk_Mod_251 mv_Mod_passesAll (c_Mod_passesAll l D cI cB a0 a1 a2 a3 a4 a5 a6 a7 a8 a9 a10 a11 a12 a13 a14 a15 r23.2.1 r23.2.2.1 m_taped m_reading m_statements m_telling m_hasImage m_isKeeping m_cursor m_rowMany m_lots m_refused r23.2.2.2.1 r23.2.2.2.2.1 r23.2.2.2.2.2.1 r23.2.2.2.2.2.2.1 r23.2.2.2.2.2.2.2.1 r23.2.2.2.2.2.2.2.2 m_tape m_sort m_sortAt m_told m_kept m_was m_ends m_row 1 0 h26) ⟨(Nat.le_of_ble_eq_true rfl), (Nat.le_of_ble_eq_true rfl), (Nat.le_of_ble_eq_true rfl), (Nat.le_of_ble_eq_true rfl)⟩ 0 rfl rfl [0, 1, 2, 3, 4, 5, 6, 7, 8, 9, 10, 11, 12, 13, 14, 15] rfl rfl rfl (Up.of [] [] rfl rfl rfl 16 rfl (by decide +kernel)) rfl rfl (Nat.le_of_ble_eq_true rfl) ?_
        refine x_sipush (pc := 111) (v := -2000) X d_Mod_volume_111 (by decide +kernel) ?_
        refine x_aload_n (pc := 114) X d_Mod_volume_114 0 rfl rfl ?_
        refine x_get (pc := 115) X d_Mod_volume_115 0 rfl fl_Mod_37 rfl ?_
        refine x_iload_n (pc := 118) X d_Mod_volume_118 1 rfl rfl ?_
        refine x_iald (pc := 119) X d_Mod_volume_119 10 rfl (Nat.le_of_ble_eq_true rfl) rfl h (fun h => ?_)
        refine x_isub (pc := 120) X d_Mod_volume_120  ?_
        cases h
        exact x_iret (pc := 121) X hR d_Mod_volume_121
      · skip
        refine x_goto (pc := 102) (tgt := 122) X d_Mod_volume_102 rfl ?_
        refine x_iinc (pc := 122) (ls2 := [(2, .int (zi (v2 + 1))), (0, .ref a0)]) X d_Mod_volume_122 1 (Nat.le_of_ble_eq_true rfl) rfl rfl ?_
        refine x_goto (pc := 125) (tgt := 86) X d_Mod_volume_125 rfl ?_
        refine x_ls (ls2 := [(0, .ref a0), (2, .int (zi (v2 + 1)))]) [1, 0] rfl ?_
        exact ih (v2 + 1) r23.2.1 r23.2.2.1 m_taped m_reading m_statements m_telling m_isKeeping m_cursor r23.2.2.2.1 r23.2.2.2.2.1 r23.2.2.2.2.2.1 r23.2.2.2.2.2.2.1 r23.2.2.2.2.2.2.2.1 r23.2.2.2.2.2.2.2.2 m_tape m_sort m_sortAt m_told m_kept o h hR
set_option maxHeartbeats 4000000 in
set_option maxRecDepth 100000 in
theorem l_Mod_volume_12 {G : GT} {l : Launch} {D : va_G} {cI cB : ClassId} {a0 a1 a2 a3 a4 a5 a6 a7 a8 a9 a10 a11 a12 a13 a14 a15 : Nat} {m_hasImage : Int} {m_rowMany : Int} {m_lots : Int} {m_refused : Int → Int} {m_was : Int → Int} {m_ends : Int → Int} {m_row : Int → Int} (X : Cx G l D cI cB b_Mod_volume y_Mod_volume.cls 3 { frames := 9, cells := 0, slots := 0, locals := 211 }) : ∀ (fuel : Nat) (v1 : Int) (m_stepsMade : Int) (m_stepsMost : Int) (m_taped : Int) (m_reading : Int) (m_statements : Int) (m_telling : Int) (m_isKeeping : Int) (m_cursor : Int) (m_bytes : Int → Int) (m_owner : Int → Int) (m_block : Int → Int) (m_written : Int → Int) (m_waits : Int → Int) (m_kinds : Int → Int) (m_tape : Int → Int) (m_sort : Int → Int) (m_sortAt : Int → Int) (m_told : Int → Int) (m_kept : Int → Int) (o : Int × Int × Int × Int × Int × Int × Int × Int × Int × (Int → Int) × (Int → Int) × (Int → Int) × (Int → Int) × (Int → Int) × (Int → Int) × (Int → Int) × (Int → Int) × (Int → Int) × (Int → Int)), m_Mod_volume_12 fuel v1 m_stepsMade m_stepsMost m_taped m_reading m_statements m_telling m_isKeeping m_cursor m_bytes m_owner m_block m_written m_waits m_kinds m_tape m_sort m_sortAt m_told m_kept = some o → Rt G (some .int) (some (.int (zi o.1))) (w_Mod cI cB a0 a1 a2 a3 a4 a5 a6 a7 a8 a9 a10 a11 a12 a13 a14 a15 o.2.1 o.2.2.1 o.2.2.2.1 o.2.2.2.2.1 o.2.2.2.2.2.1 o.2.2.2.2.2.2.1 m_hasImage o.2.2.2.2.2.2.2.1 o.2.2.2.2.2.2.2.2.1 m_rowMany m_lots m_refused o.2.2.2.2.2.2.2.2.2.1 o.2.2.2.2.2.2.2.2.2.2.1 o.2.2.2.2.2.2.2.2.2.2.2.1 o.2.2.2.2.2.2.2.2.2.2.2.2.1 o.2.2.2.2.2.2.2.2.2.2.2.2.2.1 o.2.2.2.2.2.2.2.2.2.2.2.2.2.2.1 m_tape o.2.2.2.2.2.2.2.2.2.2.2.2.2.2.2.1 o.2.2.2.2.2.2.2.2.2.2.2.2.2.2.2.2.1 o.2.2.2.2.2.2.2.2.2.2.2.2.2.2.2.2.2.1 o.2.2.2.2.2.2.2.2.2.2.2.2.2.2.2.2.2.2 m_was m_ends m_row) → Wx G 0 0 12 [(0, .ref a0), (1, .int (zi v1))] [] (w_Mod cI cB a0 a1 a2 a3 a4 a5 a6 a7 a8 a9 a10 a11 a12 a13 a14 a15 m_stepsMade m_stepsMost m_taped m_reading m_statements m_telling m_hasImage m_isKeeping m_cursor m_rowMany m_lots m_refused m_bytes m_owner m_block m_written m_waits m_kinds m_tape m_sort m_sortAt m_told m_kept m_was m_ends m_row) := by
  intro fuel
  induction fuel with
  | zero =>
    intro v1 m_stepsMade m_stepsMost m_taped m_reading m_statements m_telling m_isKeeping m_cursor m_bytes m_owner m_block m_written m_waits m_kinds m_tape m_sort m_sortAt m_told m_kept o h
    exact absurd h (by simp [m_Mod_volume_12])
  | succ fuel ih =>
    intro v1 m_stepsMade m_stepsMost m_taped m_reading m_statements m_telling m_isKeeping m_cursor m_bytes m_owner m_block m_written m_waits m_kinds m_tape m_sort m_sortAt m_told m_kept o h hR
    rw [m_Mod_volume_12] at h
    refine x_iload_n (pc := 12) X d_Mod_volume_12 1 rfl rfl ?_
    obtain ⟨j1, hj27, h⟩ := jn_e h
    have J28 : ∀ (z2 : Int) (c3 : Int) (c4 : Int) (c5 : Int) (c6 : Int) (c7 : Int) (c8 : Int) (c9 : Int) (c10 : Int) (c11 : Int → Int) (c12 : Int → Int) (c13 : Int → Int) (c14 : Int → Int) (c15 : Int → Int) (c16 : Int → Int) (c17 : Int → Int) (c18 : Int → Int) (c19 : Int → Int) (c20 : Int → Int), j1 z2 c3 c4 c5 c6 c7 c8 c9 c10 c11 c12 c13 c14 c15 c16 c17 c18 c19 c20 = some o → Wx G 0 0 60 [(0, .ref a0), (1, .int (zi z2))] [] (w_Mod cI cB a0 a1 a2 a3 a4 a5 a6 a7 a8 a9 a10 a11 a12 a13 a14 a15 c3 c4 c5 c6 c7 c8 m_hasImage c9 c10 m_rowMany m_lots m_refused c11 c12 c13 c14 c15 c16 m_tape c17 c18 c19 c20 m_was m_ends m_row) := by
      intro z2 c3 c4 c5 c6 c7 c8 c9 c10 c11 c12 c13 c14 c15 c16 c17 c18 c19 c20 h
      rw [hj27] at h
      (try dsimp only at h)
      refine x_aload_n (pc := 60) X d_Mod_volume_60 0 rfl rfl ?_
      refine x_iconst (pc := 61) X d_Mod_volume_61  ?_
      refine x_put (pc := 62) (w2 := (w_Mod cI cB a0 a1 a2 a3 a4 a5 a6 a7 a8 a9 a10 a11 a12 a13 a14 a15 c3 c4 0 c6 c7 c8 m_hasImage c9 c10 m_rowMany m_lots m_refused c11 c12 c13 c14 c15 c16 m_tape c17 c18 c19 c20 m_was m_ends m_row)) X d_Mod_volume_62 0 rfl (fp_Mod_169 _) (Nat.le_of_ble_eq_true rfl) rfl ?_
      refine x_iload_n (pc := 65) X d_Mod_volume_65 1 rfl rfl ?_
      refine x_ifne (pc := 66) (tgt := 78) X d_Mod_volume_66 rfl h (fun h => ?_) (fun h => ?_)
      · skip
        refine x_aload_n (pc := 78) X d_Mod_volume_78 0 rfl rfl ?_
        refine x_iconst (pc := 79) X d_Mod_volume_79  ?_
        refine x_iconst (pc := 80) X d_Mod_volume_80  ?_
        obtain ⟨r21, h22, h⟩ := bnd_e h
        refine x_callV (pc := 81) (As := [.int (zi 1), .int (zi 1)]) (rest := []) (w2 := (w_Mod cI cB a0 a1 a2 a3 a4 a5 a6 a7 a8 a9 a10 a11 a12 a13 a14 a15 c3 c4 0 c6 c7 c8 m_hasImage r21.1 r21.2.1 m_rowMany m_lots m_refused r21.2.2.1 r21.2.2.2.1 r21.2.2.2.2.1 r21.2.2.2.2.2.1 r21.2.2.2.2.2.2.1 r21.2.2.2.2.2.2.2.1 m_tape c17 c18 c19 r21.2.2.2.2.2.2.2.2 m_was m_ends m_row)) X d_Mod_volume_81 lk_Mod_251 mv_Mod_passesAll (c_Mod_passesAll l D cI cB a0 a1 a2 a3 a4 a5 a6 a7 a8 a9 a10 a11 a12 a13 a14 a15 c3 c4 0 c6 c7 c8 m_hasImage c9 c10 m_rowMany m_lots m_refused c11 c12 c13 c14 c15 c16 m_tape c17 c18 c19 c20 m_was m_ends m_row 1 1 h22) ⟨(Nat.le_of_ble_eq_true rfl), (Nat.le_of_ble_eq_true rfl), (Nat.le_of_ble_eq_true rfl), (Nat.le_of_ble_eq_true rfl)⟩ 0 rfl rfl [0, 1, 2, 3, 4, 5, 6, 7, 8, 9, 10, 11, 12, 13, 14, 15] rfl rfl rfl (Up.of [] [] rfl rfl rfl 16 rfl (by decide +kernel)) rfl rfl (Nat.le_of_ble_eq_true rfl) ?_
        refine x_iconst (pc := 84) X d_Mod_volume_84  ?_
        refine x_istore_n (pc := 85) (ls2 := [(2, .int (zi 0)), (0, .ref a0), (1, .int (zi z2))]) X d_Mod_volume_85 rfl (Nat.le_of_ble_eq_true rfl) rfl ?_
        refine x_ls (ls2 := [(0, .ref a0), (2, .int (zi 0))]) [1, 0] rfl ?_
        exact l_Mod_volume_86 X 5000 0 c3 c4 0 c6 c7 c8 r21.1 r21.2.1 r21.2.2.1 r21.2.2.2.1 r21.2.2.2.2.1 r21.2.2.2.2.2.1 r21.2.2.2.2.2.2.1 r21.2.2.2.2.2.2.2.1 m_tape c17 c18 c19 r21.2.2.2.2.2.2.2.2 o h hR
      · skip
        refine x_sipush (pc := 69) (v := -1000) X d_Mod_volume_69 (by decide +kernel) ?_
        refine x_aload_n (pc := 72) X d_Mod_volume_72 0 rfl rfl ?_
        refine x_get (pc := 73) X d_Mod_volume_73 0 rfl fl_Mod_175 rfl ?_
        refine x_isub (pc := 76) X d_Mod_volume_76  ?_
        cases h
        exact x_iret (pc := 77) X hR d_Mod_volume_77
    clear hj27
    refine x_ifeq (pc := 13) (tgt := 60) X d_Mod_volume_13 rfl h (fun h => ?_) (fun h => ?_)
    · skip
      exact J28 v1 m_stepsMade m_stepsMost m_taped m_reading m_statements m_telling m_isKeeping m_cursor m_bytes m_owner m_block m_written m_waits m_kinds m_sort m_sortAt m_told m_kept h
    · skip
      refine x_aload_n (pc := 16) X d_Mod_volume_16 0 rfl rfl ?_
      refine x_get (pc := 17) X d_Mod_volume_17 0 rfl fl_Mod_175 rfl ?_
      refine x_aload_n (pc := 20) X d_Mod_volume_20 0 rfl rfl ?_
      refine x_get (pc := 21) X d_Mod_volume_21 0 rfl fl_Mod_169 rfl ?_
      obtain ⟨j29, hj50, h⟩ := jn_e h
      have J51 : ∀ (c30 : Int) (c31 : Int) (c32 : Int) (c33 : Int) (c34 : Int) (c35 : Int) (c36 : Int) (c37 : Int) (c38 : Int → Int) (c39 : Int → Int) (c40 : Int → Int) (c41 : Int → Int) (c42 : Int → Int) (c43 : Int → Int) (c44 : Int → Int) (c45 : Int → Int) (c46 : Int → Int) (c47 : Int → Int), j29 c30 c31 c32 c33 c34 c35 c36 c37 c38 c39 c40 c41 c42 c43 c44 c45 c46 c47 = some o → Wx G 0 0 34 [(0, .ref a0)] [] (w_Mod cI cB a0 a1 a2 a3 a4 a5 a6 a7 a8 a9 a10 a11 a12 a13 a14 a15 c30 c31 c32 c33 c34 c35 m_hasImage c36 c37 m_rowMany m_lots m_refused c38 c39 c40 c41 c42 c43 m_tape c44 c45 c46 c47 m_was m_ends m_row) := by
        intro c30 c31 c32 c33 c34 c35 c36 c37 c38 c39 c40 c41 c42 c43 c44 c45 c46 c47 h
        rw [hj50] at h
        (try dsimp only at h)
        refine x_aload_n (pc := 34) X d_Mod_volume_34 0 rfl rfl ?_
        obtain ⟨r48, h49, h⟩ := bnd_e h
        refine x_callV (pc := 35) (As := []) (rest := []) (w2 := (w_Mod cI cB a0 a1 a2 a3 a4 a5 a6 a7 a8 a9 a10 a11 a12 a13 a14 a15 c30 c31 c32 r48.2.1 c34 r48.2.2.1 m_hasImage c36 c37 m_rowMany m_lots m_refused c38 c39 c40 c41 c42 c43 m_tape r48.2.2.2.1 r48.2.2.2.2.1 r48.2.2.2.2.2 c47 m_was m_ends m_row)) X d_Mod_volume_35 lk_Mod_248 mv_Mod_statement (c_Mod_statement l D cI cB a0 a1 a2 a3 a4 a5 a6 a7 a8 a9 a10 a11 a12 a13 a14 a15 c30 c31 c32 c33 c34 c35 m_hasImage c36 c37 m_rowMany m_lots m_refused c38 c39 c40 c41 c42 c43 m_tape c44 c45 c46 c47 m_was m_ends m_row h49) ⟨(Nat.le_of_ble_eq_true rfl), (Nat.le_of_ble_eq_true rfl), (Nat.le_of_ble_eq_true rfl), (Nat.le_of_ble_eq_true rfl)⟩ 0 rfl rfl [0, 1, 2, 3, 4, 5, 6, 7, 8, 9, 10, 11, 12, 13, 14, 15] rfl rfl rfl (Up.of [] [] rfl rfl rfl 16 rfl (by decide +kernel)) rfl rfl (Nat.le_of_ble_eq_true rfl) ?_
        refine x_istore_n (pc := 38) (ls2 := [(1, .int (zi r48.1)), (0, .ref a0)]) X d_Mod_volume_38 rfl (Nat.le_of_ble_eq_true rfl) rfl ?_
        refine x_aload_n (pc := 39) X d_Mod_volume_39 1 rfl rfl ?_
        refine x_dup (pc := 40) X d_Mod_volume_40 rfl ?_
        refine x_get (pc := 41) X d_Mod_volume_41 0 rfl fl_Mod_193 rfl ?_
        refine x_iload_n (pc := 44) X d_Mod_volume_44 0 rfl rfl ?_
        refine x_ifeq (pc := 45) (tgt := 52) X d_Mod_volume_45 rfl h (fun h => ?_) (fun h => ?_)
        · skip
          refine x_iconst (pc := 52) X d_Mod_volume_52  ?_
          refine x_iadd (pc := 53) X d_Mod_volume_53  ?_
          refine x_put (pc := 54) (w2 := (w_Mod cI cB a0 a1 a2 a3 a4 a5 a6 a7 a8 a9 a10 a11 a12 a13 a14 a15 c30 c31 c32 r48.2.1 (c34 + 0) r48.2.2.1 m_hasImage c36 c37 m_rowMany m_lots m_refused c38 c39 c40 c41 c42 c43 m_tape r48.2.2.2.1 r48.2.2.2.2.1 r48.2.2.2.2.2 c47 m_was m_ends m_row)) X d_Mod_volume_54 0 rfl (fp_Mod_193 _) (Nat.le_of_ble_eq_true rfl) rfl ?_
          refine x_goto (pc := 57) (tgt := 12) X d_Mod_volume_57 rfl ?_
          refine x_ls (ls2 := [(0, .ref a0), (1, .int (zi r48.1))]) [1, 0] rfl ?_
          exact ih r48.1 c30 c31 c32 r48.2.1 (c34 + 0) r48.2.2.1 c36 c37 c38 c39 c40 c41 c42 c43 m_tape r48.2.2.2.1 r48.2.2.2.2.1 r48.2.2.2.2.2 c47 o h hR
        · skip
          refine x_iconst (pc := 48) X d_Mod_volume_48  ?_
          refine x_goto (pc := 49) (tgt := 53) X d_Mod_volume_49 rfl ?_
          refine x_iadd (pc := 53) X d_Mod_volume_53  ?_
          refine x_put (pc := 54) (w2 := (w_Mod cI cB a0 a1 a2 a3 a4 a5 a6 a7 a8 a9 a10 a11 a12 a13 a14 a15 c30 c31 c32 r48.2.1 (c34 + 1) r48.2.2.1 m_hasImage c36 c37 m_rowMany m_lots m_refused c38 c39 c40 c41 c42 c43 m_tape r48.2.2.2.1 r48.2.2.2.2.1 r48.2.2.2.2.2 c47 m_was m_ends m_row)) X d_Mod_volume_54 0 rfl (fp_Mod_193 _) (Nat.le_of_ble_eq_true rfl) rfl ?_
          refine x_goto (pc := 57) (tgt := 12) X d_Mod_volume_57 rfl ?_
          refine x_ls (ls2 := [(0, .ref a0), (1, .int (zi r48.1))]) [1, 0] rfl ?_
          exact ih r48.1 c30 c31 c32 r48.2.1 (c34 + 1) r48.2.2.1 c36 c37 c38 c39 c40 c41 c42 c43 m_tape r48.2.2.2.1 r48.2.2.2.2.1 r48.2.2.2.2.2 c47 o h hR
      clear hj50
      refine x_icmplt (pc := 24) (tgt := 34) X d_Mod_volume_24 rfl h (fun h => ?_) (fun h => ?_)
      · skip
        refine x_ls (ls2 := [(0, .ref a0)]) [0] rfl ?_
        exact J51 m_stepsMade m_stepsMost m_taped m_reading m_statements m_telling m_isKeeping m_cursor m_bytes m_owner m_block m_written m_waits m_kinds m_sort m_sortAt m_told m_kept h
      · skip
        refine x_aload_n (pc := 27) X d_Mod_volume_27 0 rfl rfl ?_
        refine x_get (pc := 28) X d_Mod_volume_28 0 rfl fl_Mod_193 rfl ?_
        refine x_ifne (pc := 31) (tgt := 60) X d_Mod_volume_31 rfl h (fun h => ?_) (fun h => ?_)
        · skip
          exact J28 v1 m_stepsMade m_stepsMost m_taped m_reading m_statements m_telling m_isKeeping m_cursor m_bytes m_owner m_block m_written m_waits m_kinds m_sort m_sortAt m_told m_kept h
        · skip
          refine x_ls (ls2 := [(0, .ref a0)]) [0] rfl ?_
          exact J51 m_stepsMade m_stepsMost m_taped m_reading m_statements m_telling m_isKeeping m_cursor m_bytes m_owner m_block m_written m_waits m_kinds m_sort m_sortAt m_told m_kept h
set_option maxHeartbeats 4000000 in
set_option maxRecDepth 100000 in
theorem c_Mod_volume (l : Launch) (D : va_G) (cI cB : ClassId) (a0 a1 a2 a3 a4 a5 a6 a7 a8 a9 a10 a11 a12 a13 a14 a15 : Nat) (m_stepsMade : Int) (m_stepsMost : Int) (m_taped : Int) (m_reading : Int) (m_statements : Int) (m_telling : Int) (m_hasImage : Int) (m_isKeeping : Int) (m_cursor : Int) (m_rowMany : Int) (m_lots : Int) (m_refused : Int → Int) (m_bytes : Int → Int) (m_owner : Int → Int) (m_block : Int → Int) (m_written : Int → Int) (m_waits : Int → Int) (m_kinds : Int → Int) (m_tape : Int → Int) (m_sort : Int → Int) (m_sortAt : Int → Int) (m_told : Int → Int) (m_kept : Int → Int) (m_was : Int → Int) (m_ends : Int → Int) (m_row : Int → Int)  {o : Int × Int × Int × Int × Int × Int × Int × Int × Int × (Int → Int) × (Int → Int) × (Int → Int) × (Int → Int) × (Int → Int) × (Int → Int) × (Int → Int) × (Int → Int) × (Int → Int) × (Int → Int)} (h : m_Mod_volume m_stepsMade m_stepsMost m_taped m_reading m_statements m_telling m_isKeeping m_cursor m_bytes m_owner m_block m_written m_waits m_kinds m_tape m_sort m_sortAt m_told m_kept = some o) : Ct l D cI cB y_Mod_volume b_Mod_volume 3 (some .int) { frames := 9, cells := 0, slots := 0, locals := 211 } [.ref a0] (w_Mod cI cB a0 a1 a2 a3 a4 a5 a6 a7 a8 a9 a10 a11 a12 a13 a14 a15 m_stepsMade m_stepsMost m_taped m_reading m_statements m_telling m_hasImage m_isKeeping m_cursor m_rowMany m_lots m_refused m_bytes m_owner m_block m_written m_waits m_kinds m_tape m_sort m_sortAt m_told m_kept m_was m_ends m_row) (w_Mod cI cB a0 a1 a2 a3 a4 a5 a6 a7 a8 a9 a10 a11 a12 a13 a14 a15 o.2.1 o.2.2.1 o.2.2.2.1 o.2.2.2.2.1 o.2.2.2.2.2.1 o.2.2.2.2.2.2.1 m_hasImage o.2.2.2.2.2.2.2.1 o.2.2.2.2.2.2.2.2.1 m_rowMany m_lots m_refused o.2.2.2.2.2.2.2.2.2.1 o.2.2.2.2.2.2.2.2.2.2.1 o.2.2.2.2.2.2.2.2.2.2.2.1 o.2.2.2.2.2.2.2.2.2.2.2.2.1 o.2.2.2.2.2.2.2.2.2.2.2.2.2.1 o.2.2.2.2.2.2.2.2.2.2.2.2.2.2.1 m_tape o.2.2.2.2.2.2.2.2.2.2.2.2.2.2.2.1 o.2.2.2.2.2.2.2.2.2.2.2.2.2.2.2.2.1 o.2.2.2.2.2.2.2.2.2.2.2.2.2.2.2.2.2.1 o.2.2.2.2.2.2.2.2.2.2.2.2.2.2.2.2.2.2 m_was m_ends m_row) (some (.int (zi o.1))) := by
  refine Ct.start (by decide) (Nat.le_of_ble_eq_true rfl) (fun G X hR => ?_)
  refine x_ls (ls2 := [(0, .ref a0)]) [0] rfl ?_
  unfold m_Mod_volume at h
  refine x_aload_n (pc := 0) X d_Mod_volume_0 0 rfl rfl ?_
  refine x_iconst (pc := 1) X d_Mod_volume_1  ?_
  refine x_put (pc := 2) (w2 := (w_Mod cI cB a0 a1 a2 a3 a4 a5 a6 a7 a8 a9 a10 a11 a12 a13 a14 a15 m_stepsMade m_stepsMost m_taped 0 m_statements m_telling m_hasImage m_isKeeping m_cursor m_rowMany m_lots m_refused m_bytes m_owner m_block m_written m_waits m_kinds m_tape m_sort m_sortAt m_told m_kept m_was m_ends m_row)) X d_Mod_volume_2 0 rfl (fp_Mod_175 _) (Nat.le_of_ble_eq_true rfl) rfl ?_
  refine x_aload_n (pc := 5) X d_Mod_volume_5 0 rfl rfl ?_
  refine x_iconst (pc := 6) X d_Mod_volume_6  ?_
  refine x_put (pc := 7) (w2 := (w_Mod cI cB a0 a1 a2 a3 a4 a5 a6 a7 a8 a9 a10 a11 a12 a13 a14 a15 m_stepsMade m_stepsMost m_taped 0 0 m_telling m_hasImage m_isKeeping m_cursor m_rowMany m_lots m_refused m_bytes m_owner m_block m_written m_waits m_kinds m_tape m_sort m_sortAt m_told m_kept m_was m_ends m_row)) X d_Mod_volume_7 0 rfl (fp_Mod_193 _) (Nat.le_of_ble_eq_true rfl) rfl ?_
  refine x_iconst (pc := 10) X d_Mod_volume_10  ?_
  refine x_istore_n (pc := 11) (ls2 := [(1, .int (zi 1)), (0, .ref a0)]) X d_Mod_volume_11 rfl (Nat.le_of_ble_eq_true rfl) rfl ?_
  refine x_ls (ls2 := [(0, .ref a0), (1, .int (zi 1))]) [1, 0] rfl ?_
  exact l_Mod_volume_12 X 5000 1 m_stepsMade m_stepsMost m_taped 0 0 m_telling m_isKeeping m_cursor m_bytes m_owner m_block m_written m_waits m_kinds m_tape m_sort m_sortAt m_told m_kept o h hR
theorem d_Mod_image_0 : decode b_Mod_image 0 = .ok (.aload_n 0, 1) := by decide +kernel
theorem d_Mod_image_1 : decode b_Mod_image 1 = .ok (.iconst 1, 1) := by decide +kernel
theorem d_Mod_image_2 : decode b_Mod_image 2 = .ok (.putfield 269, 3) := by decide +kernel
theorem d_Mod_image_5 : decode b_Mod_image 5 = .ok (.aload_n 0, 1) := by decide +kernel
theorem d_Mod_image_6 : decode b_Mod_image 6 = .ok (.iconst 0, 1) := by decide +kernel
theorem d_Mod_image_7 : decode b_Mod_image 7 = .ok (.iconst 1, 1) := by decide +kernel
theorem d_Mod_image_8 : decode b_Mod_image 8 = .ok (.invokevirtual 251, 3) := by decide +kernel
theorem d_Mod_image_11 : decode b_Mod_image 11 = .ok (.aload_n 0, 1) := by decide +kernel
theorem d_Mod_image_12 : decode b_Mod_image 12 = .ok (.invokevirtual 72, 3) := by decide +kernel
theorem d_Mod_image_15 : decode b_Mod_image 15 = .ok (.ireturn, 1) := by decide +kernel
def m_Mod_image  (m_hasImage : Int) (m_isKeeping : Int) (m_cursor : Int) (m_bytes : Int → Int) (m_owner : Int → Int) (m_block : Int → Int) (m_written : Int → Int) (m_waits : Int → Int) (m_kinds : Int → Int) (m_kept : Int → Int) : Option (Int × Int × Int × Int × (Int → Int) × (Int → Int) × (Int → Int) × (Int → Int) × (Int → Int) × (Int → Int) × (Int → Int)) :=
  bnd (m_Mod_passesAll 0 1 m_isKeeping m_cursor m_bytes m_owner m_block m_written m_waits m_kinds m_kept) (fun r1 => bnd (m_Mod_freeBlocks r1.2.2.2.1) (fun r3 => some (r3, 1, r1.1, r1.2.1, r1.2.2.1, r1.2.2.2.1, r1.2.2.2.2.1, r1.2.2.2.2.2.1, r1.2.2.2.2.2.2.1, r1.2.2.2.2.2.2.2.1, r1.2.2.2.2.2.2.2.2)))
set_option maxHeartbeats 4000000 in
set_option maxRecDepth 100000 in
theorem c_Mod_image (l : Launch) (D : va_G) (cI cB : ClassId) (a0 a1 a2 a3 a4 a5 a6 a7 a8 a9 a10 a11 a12 a13 a14 a15 : Nat) (m_stepsMade : Int) (m_stepsMost : Int) (m_taped : Int) (m_reading : Int) (m_statements : Int) (m_telling : Int) (m_hasImage : Int) (m_isKeeping : Int) (m_cursor : Int) (m_rowMany : Int) (m_lots : Int) (m_refused : Int → Int) (m_bytes : Int → Int) (m_owner : Int → Int) (m_block : Int → Int) (m_written : Int → Int) (m_waits : Int → Int) (m_kinds : Int → Int) (m_tape : Int → Int) (m_sort : Int → Int) (m_sortAt : Int → Int) (m_told : Int → Int) (m_kept : Int → Int) (m_was : Int → Int) (m_ends : Int → Int) (m_row : Int → Int)  {o : Int × Int × Int × Int × (Int → Int) × (Int → Int) × (Int → Int) × (Int → Int) × (Int → Int) × (Int → Int) × (Int → Int)} (h : m_Mod_image m_hasImage m_isKeeping m_cursor m_bytes m_owner m_block m_written m_waits m_kinds m_kept = some o) : Ct l D cI cB y_Mod_image b_Mod_image 1 (some .int) { frames := 2, cells := 0, slots := 0, locals := 44 } [.ref a0] (w_Mod cI cB a0 a1 a2 a3 a4 a5 a6 a7 a8 a9 a10 a11 a12 a13 a14 a15 m_stepsMade m_stepsMost m_taped m_reading m_statements m_telling m_hasImage m_isKeeping m_cursor m_rowMany m_lots m_refused m_bytes m_owner m_block m_written m_waits m_kinds m_tape m_sort m_sortAt m_told m_kept m_was m_ends m_row) (w_Mod cI cB a0 a1 a2 a3 a4 a5 a6 a7 a8 a9 a10 a11 a12 a13 a14 a15 m_stepsMade m_stepsMost m_taped m_reading m_statements m_telling o.2.1 o.2.2.1 o.2.2.2.1 m_rowMany m_lots m_refused o.2.2.2.2.1 o.2.2.2.2.2.1 o.2.2.2.2.2.2.1 o.2.2.2.2.2.2.2.1 o.2.2.2.2.2.2.2.2.1 o.2.2.2.2.2.2.2.2.2.1 m_tape m_sort m_sortAt m_told o.2.2.2.2.2.2.2.2.2.2 m_was m_ends m_row) (some (.int (zi o.1))) := by
  refine Ct.start (by decide) (Nat.le_of_ble_eq_true rfl) (fun G X hR => ?_)
  refine x_ls (ls2 := [(0, .ref a0)]) [0] rfl ?_
  unfold m_Mod_image at h
  refine x_aload_n (pc := 0) X d_Mod_image_0 0 rfl rfl ?_
  refine x_iconst (pc := 1) X d_Mod_image_1  ?_
  refine x_put (pc := 2) (w2 := (w_Mod cI cB a0 a1 a2 a3 a4 a5 a6 a7 a8 a9 a10 a11 a12 a13 a14 a15 m_stepsMade m_stepsMost m_taped m_reading m_statements m_telling 1 m_isKeeping m_cursor m_rowMany m_lots m_refused m_bytes m_owner m_block m_written m_waits m_kinds m_tape m_sort m_sortAt m_told m_kept m_was m_ends m_row)) X d_Mod_image_2 0 rfl (fp_Mod_269 _ (Or.inr rfl)) (Nat.le_of_ble_eq_true rfl) rfl ?_
  refine x_aload_n (pc := 5) X d_Mod_image_5 0 rfl rfl ?_
  refine x_iconst (pc := 6) X d_Mod_image_6  ?_
  refine x_iconst (pc := 7) X d_Mod_image_7  ?_
  obtain ⟨r1, h2, h⟩ := bnd_e h
  refine x_callV (pc := 8) (As := [.int (zi 0), .int (zi 1)]) (rest := []) (w2 := (w_Mod cI cB a0 a1 a2 a3 a4 a5 a6 a7 a8 a9 a10 a11 a12 a13 a14 a15 m_stepsMade m_stepsMost m_taped m_reading m_statements m_telling 1 r1.1 r1.2.1 m_rowMany m_lots m_refused r1.2.2.1 r1.2.2.2.1 r1.2.2.2.2.1 r1.2.2.2.2.2.1 r1.2.2.2.2.2.2.1 r1.2.2.2.2.2.2.2.1 m_tape m_sort m_sortAt m_told r1.2.2.2.2.2.2.2.2 m_was m_ends m_row)) X d_Mod_image_8 lk_Mod_251 mv_Mod_passesAll (c_Mod_passesAll l D cI cB a0 a1 a2 a3 a4 a5 a6 a7 a8 a9 a10 a11 a12 a13 a14 a15 m_stepsMade m_stepsMost m_taped m_reading m_statements m_telling 1 m_isKeeping m_cursor m_rowMany m_lots m_refused m_bytes m_owner m_block m_written m_waits m_kinds m_tape m_sort m_sortAt m_told m_kept m_was m_ends m_row 0 1 h2) ⟨(Nat.le_of_ble_eq_true rfl), (Nat.le_of_ble_eq_true rfl), (Nat.le_of_ble_eq_true rfl), (Nat.le_of_ble_eq_true rfl)⟩ 0 rfl rfl [0, 1, 2, 3, 4, 5, 6, 7, 8, 9, 10, 11, 12, 13, 14, 15] rfl rfl rfl (Up.of [] [] rfl rfl rfl 16 rfl (by decide +kernel)) rfl rfl (Nat.le_of_ble_eq_true rfl) ?_
  refine x_aload_n (pc := 11) X d_Mod_image_11 0 rfl rfl ?_
  obtain ⟨r3, h4, h⟩ := bnd_e h
  refine x_callV (pc := 12) (As := []) (rest := []) (w2 := (w_Mod cI cB a0 a1 a2 a3 a4 a5 a6 a7 a8 a9 a10 a11 a12 a13 a14 a15 m_stepsMade m_stepsMost m_taped m_reading m_statements m_telling 1 r1.1 r1.2.1 m_rowMany m_lots m_refused r1.2.2.1 r1.2.2.2.1 r1.2.2.2.2.1 r1.2.2.2.2.2.1 r1.2.2.2.2.2.2.1 r1.2.2.2.2.2.2.2.1 m_tape m_sort m_sortAt m_told r1.2.2.2.2.2.2.2.2 m_was m_ends m_row)) X d_Mod_image_12 lk_Mod_72 mv_Mod_freeBlocks (c_Mod_freeBlocks l D cI cB a0 a1 a2 a3 a4 a5 a6 a7 a8 a9 a10 a11 a12 a13 a14 a15 m_stepsMade m_stepsMost m_taped m_reading m_statements m_telling 1 r1.1 r1.2.1 m_rowMany m_lots m_refused r1.2.2.1 r1.2.2.2.1 r1.2.2.2.2.1 r1.2.2.2.2.2.1 r1.2.2.2.2.2.2.1 r1.2.2.2.2.2.2.2.1 m_tape m_sort m_sortAt m_told r1.2.2.2.2.2.2.2.2 m_was m_ends m_row h4) ⟨(Nat.le_of_ble_eq_true rfl), (Nat.le_of_ble_eq_true rfl), (Nat.le_of_ble_eq_true rfl), (Nat.le_of_ble_eq_true rfl)⟩ 0 rfl rfl [0, 1, 2, 3, 4, 5, 6, 7, 8, 9, 10, 11, 12, 13, 14, 15] rfl rfl rfl (Up.same rfl) rfl rfl (Nat.le_of_ble_eq_true rfl) ?_
  cases h
  exact x_iret (pc := 15) X hR d_Mod_image_15
theorem d_Mod_on_0 : decode b_Mod_on 0 = .ok (.aload_n 0, 1) := by decide +kernel
theorem d_Mod_on_1 : decode b_Mod_on 1 = .ok (.getfield 269, 3) := by decide +kernel
theorem d_Mod_on_4 : decode b_Mod_on 4 = .ok (.ifCond .ne 10, 3) := by decide +kernel
theorem d_Mod_on_7 : decode b_Mod_on 7 = .ok (.aload_n 0, 1) := by decide +kernel
theorem d_Mod_on_8 : decode b_Mod_on 8 = .ok (.bipush (-3), 2) := by decide +kernel
theorem d_Mod_on_10 : decode b_Mod_on 10 = .ok (.invokevirtual 172, 3) := by decide +kernel
theorem d_Mod_on_13 : decode b_Mod_on 13 = .ok (.ireturn, 1) := by decide +kernel
theorem d_Mod_on_14 : decode b_Mod_on 14 = .ok (.aload_n 0, 1) := by decide +kernel
theorem d_Mod_on_15 : decode b_Mod_on 15 = .ok (.iconst 0, 1) := by decide +kernel
theorem d_Mod_on_16 : decode b_Mod_on 16 = .ok (.iconst 0, 1) := by decide +kernel
theorem d_Mod_on_17 : decode b_Mod_on 17 = .ok (.invokevirtual 251, 3) := by decide +kernel
theorem d_Mod_on_20 : decode b_Mod_on 20 = .ok (.aload_n 0, 1) := by decide +kernel
theorem d_Mod_on_21 : decode b_Mod_on 21 = .ok (.invokevirtual 72, 3) := by decide +kernel
theorem d_Mod_on_24 : decode b_Mod_on 24 = .ok (.ireturn, 1) := by decide +kernel
def m_Mod_on  (m_hasImage : Int) (m_isKeeping : Int) (m_cursor : Int) (m_refused : Int → Int) (m_bytes : Int → Int) (m_owner : Int → Int) (m_block : Int → Int) (m_written : Int → Int) (m_waits : Int → Int) (m_kinds : Int → Int) (m_kept : Int → Int) : Option (Int × Int × Int × (Int → Int) × (Int → Int) × (Int → Int) × (Int → Int) × (Int → Int) × (Int → Int) × (Int → Int) × (Int → Int)) :=
  ceq m_hasImage 0 (bnd (m_Mod_no (-3) m_refused) (fun r5 => some (r5.1, m_isKeeping, m_cursor, r5.2, m_bytes, m_owner, m_block, m_written, m_waits, m_kinds, m_kept))) (bnd (m_Mod_passesAll 0 0 m_isKeeping m_cursor m_bytes m_owner m_block m_written m_waits m_kinds m_kept) (fun r1 => bnd (m_Mod_freeBlocks r1.2.2.2.1) (fun r3 => some (r3, r1.1, r1.2.1, m_refused, r1.2.2.1, r1.2.2.2.1, r1.2.2.2.2.1, r1.2.2.2.2.2.1, r1.2.2.2.2.2.2.1, r1.2.2.2.2.2.2.2.1, r1.2.2.2.2.2.2.2.2))))
set_option maxHeartbeats 4000000 in
set_option maxRecDepth 100000 in
theorem c_Mod_on (l : Launch) (D : va_G) (cI cB : ClassId) (a0 a1 a2 a3 a4 a5 a6 a7 a8 a9 a10 a11 a12 a13 a14 a15 : Nat) (m_stepsMade : Int) (m_stepsMost : Int) (m_taped : Int) (m_reading : Int) (m_statements : Int) (m_telling : Int) (m_hasImage : Int) (m_isKeeping : Int) (m_cursor : Int) (m_rowMany : Int) (m_lots : Int) (m_refused : Int → Int) (m_bytes : Int → Int) (m_owner : Int → Int) (m_block : Int → Int) (m_written : Int → Int) (m_waits : Int → Int) (m_kinds : Int → Int) (m_tape : Int → Int) (m_sort : Int → Int) (m_sortAt : Int → Int) (m_told : Int → Int) (m_kept : Int → Int) (m_was : Int → Int) (m_ends : Int → Int) (m_row : Int → Int)  {o : Int × Int × Int × (Int → Int) × (Int → Int) × (Int → Int) × (Int → Int) × (Int → Int) × (Int → Int) × (Int → Int) × (Int → Int)} (h : m_Mod_on m_hasImage m_isKeeping m_cursor m_refused m_bytes m_owner m_block m_written m_waits m_kinds m_kept = some o) : Ct l D cI cB y_Mod_on b_Mod_on 1 (some .int) { frames := 2, cells := 0, slots := 0, locals := 44 } [.ref a0] (w_Mod cI cB a0 a1 a2 a3 a4 a5 a6 a7 a8 a9 a10 a11 a12 a13 a14 a15 m_stepsMade m_stepsMost m_taped m_reading m_statements m_telling m_hasImage m_isKeeping m_cursor m_rowMany m_lots m_refused m_bytes m_owner m_block m_written m_waits m_kinds m_tape m_sort m_sortAt m_told m_kept m_was m_ends m_row) (w_Mod cI cB a0 a1 a2 a3 a4 a5 a6 a7 a8 a9 a10 a11 a12 a13 a14 a15 m_stepsMade m_stepsMost m_taped m_reading m_statements m_telling m_hasImage o.2.1 o.2.2.1 m_rowMany m_lots o.2.2.2.1 o.2.2.2.2.1 o.2.2.2.2.2.1 o.2.2.2.2.2.2.1 o.2.2.2.2.2.2.2.1 o.2.2.2.2.2.2.2.2.1 o.2.2.2.2.2.2.2.2.2.1 m_tape m_sort m_sortAt m_told o.2.2.2.2.2.2.2.2.2.2 m_was m_ends m_row) (some (.int (zi o.1))) := by
  refine Ct.start (by decide) (Nat.le_of_ble_eq_true rfl) (fun G X hR => ?_)
  refine x_ls (ls2 := [(0, .ref a0)]) [0] rfl ?_
  unfold m_Mod_on at h
  refine x_aload_n (pc := 0) X d_Mod_on_0 0 rfl rfl ?_
  refine x_get (pc := 1) X d_Mod_on_1 0 rfl fl_Mod_269 rfl ?_
  refine x_ifne (pc := 4) (tgt := 14) X d_Mod_on_4 rfl h (fun h => ?_) (fun h => ?_)
  · skip
    refine x_aload_n (pc := 14) X d_Mod_on_14 0 rfl rfl ?_
    refine x_iconst (pc := 15) X d_Mod_on_15  ?_
    refine x_iconst (pc := 16) X d_Mod_on_16  ?_
    obtain ⟨r1, h2, h⟩ := bnd_e h
    refine x_callV (pc := 17) (As := [.int (zi 0), .int (zi 0)]) (rest := []) (w2 := (w_Mod cI cB a0 a1 a2 a3 a4 a5 a6 a7 a8 a9 a10 a11 a12 a13 a14 a15 m_stepsMade m_stepsMost m_taped m_reading m_statements m_telling m_hasImage r1.1 r1.2.1 m_rowMany m_lots m_refused r1.2.2.1 r1.2.2.2.1 r1.2.2.2.2.1 r1.2.2.2.2.2.1 r1.2.2.2.2.2.2.1 r1.2.2.2.2.2.2.2.1 m_tape m_sort m_sortAt m_told r1.2.2.2.2.2.2.2.2 m_was m_ends m_row)) X d_Mod_on_17 lk_Mod_251 mv_Mod_passesAll (c_Mod_passesAll l D cI cB a0 a1 a2 a3 a4 a5 a6 a7 a8 a9 a10 a11 a12 a13 a14 a15 m_stepsMade m_stepsMost m_taped m_reading m_statements m_telling m_hasImage m_isKeeping m_cursor m_rowMany m_lots m_refused m_bytes m_owner m_block m_written m_waits m_kinds m_tape m_sort m_sortAt m_told m_kept m_was m_ends m_row 0 0 h2) ⟨(Nat.le_of_ble_eq_true rfl), (Nat.le_of_ble_eq_true rfl), (Nat.le_of_ble_eq_true rfl), (Nat.le_of_ble_eq_true rfl)⟩ 0 rfl rfl [0, 1, 2, 3, 4, 5, 6, 7, 8, 9, 10, 11, 12, 13, 14, 15] rfl rfl rfl (Up.of [] [] rfl rfl rfl 16 rfl (by decide +kernel)) rfl rfl (Nat.le_of_ble_eq_true rfl) ?_
    refine x_aload_n (pc := 20) X d_Mod_on_20 0 rfl rfl ?_
    obtain ⟨r3, h4, h⟩ := bnd_e h
    refine x_callV (pc := 21) (As := []) (rest := []) (w2 := (w_Mod cI cB a0 a1 a2 a3 a4 a5 a6 a7 a8 a9 a10 a11 a12 a13 a14 a15 m_stepsMade m_stepsMost m_taped m_reading m_statements m_telling m_hasImage r1.1 r1.2.1 m_rowMany m_lots m_refused r1.2.2.1 r1.2.2.2.1 r1.2.2.2.2.1 r1.2.2.2.2.2.1 r1.2.2.2.2.2.2.1 r1.2.2.2.2.2.2.2.1 m_tape m_sort m_sortAt m_told r1.2.2.2.2.2.2.2.2 m_was m_ends m_row)) X d_Mod_on_21 lk_Mod_72 mv_Mod_freeBlocks (c_Mod_freeBlocks l D cI cB a0 a1 a2 a3 a4 a5 a6 a7 a8 a9 a10 a11 a12 a13 a14 a15 m_stepsMade m_stepsMost m_taped m_reading m_statements m_telling m_hasImage r1.1 r1.2.1 m_rowMany m_lots m_refused r1.2.2.1 r1.2.2.2.1 r1.2.2.2.2.1 r1.2.2.2.2.2.1 r1.2.2.2.2.2.2.1 r1.2.2.2.2.2.2.2.1 m_tape m_sort m_sortAt m_told r1.2.2.2.2.2.2.2.2 m_was m_ends m_row h4) ⟨(Nat.le_of_ble_eq_true rfl), (Nat.le_of_ble_eq_true rfl), (Nat.le_of_ble_eq_true rfl), (Nat.le_of_ble_eq_true rfl)⟩ 0 rfl rfl [0, 1, 2, 3, 4, 5, 6, 7, 8, 9, 10, 11, 12, 13, 14, 15] rfl rfl rfl (Up.same rfl) rfl rfl (Nat.le_of_ble_eq_true rfl) ?_
    cases h
    exact x_iret (pc := 24) X hR d_Mod_on_24
  · skip
    refine x_aload_n (pc := 7) X d_Mod_on_7 0 rfl rfl ?_
    refine x_bipush (pc := 8) (v := -3) X d_Mod_on_8 rfl ?_
    obtain ⟨r5, h6, h⟩ := bnd_e h
    refine x_callV (pc := 10) (As := [.int (zi (-3))]) (rest := []) (w2 := (w_Mod cI cB a0 a1 a2 a3 a4 a5 a6 a7 a8 a9 a10 a11 a12 a13 a14 a15 m_stepsMade m_stepsMost m_taped m_reading m_statements m_telling m_hasImage m_isKeeping m_cursor m_rowMany m_lots r5.2 m_bytes m_owner m_block m_written m_waits m_kinds m_tape m_sort m_sortAt m_told m_kept m_was m_ends m_row)) X d_Mod_on_10 lk_Mod_172 mv_Mod_no (c_Mod_no l D cI cB a0 a1 a2 a3 a4 a5 a6 a7 a8 a9 a10 a11 a12 a13 a14 a15 m_stepsMade m_stepsMost m_taped m_reading m_statements m_telling m_hasImage m_isKeeping m_cursor m_rowMany m_lots m_refused m_bytes m_owner m_block m_written m_waits m_kinds m_tape m_sort m_sortAt m_told m_kept m_was m_ends m_row (-3) h6) ⟨(Nat.le_of_ble_eq_true rfl), (Nat.le_of_ble_eq_true rfl), (Nat.le_of_ble_eq_true rfl), (Nat.le_of_ble_eq_true rfl)⟩ 0 rfl rfl [0, 1, 2, 3, 4, 5, 6, 7, 8, 9, 10, 11, 12, 13, 14, 15] rfl rfl rfl (Up.of [] [] rfl rfl rfl 16 rfl (by decide +kernel)) rfl rfl (Nat.le_of_ble_eq_true rfl) ?_
    cases h
    exact x_iret (pc := 13) X hR d_Mod_on_13
theorem d_Mod_page_0 : decode b_Mod_page 0 = .ok (.iload_n 1, 1) := by decide +kernel
theorem d_Mod_page_1 : decode b_Mod_page 1 = .ok (.invokestatic 230, 3) := by decide +kernel
theorem d_Mod_page_4 : decode b_Mod_page 4 = .ok (.ifCond .eq 10, 3) := by decide +kernel
theorem d_Mod_page_7 : decode b_Mod_page 7 = .ok (.iload_n 2, 1) := by decide +kernel
theorem d_Mod_page_8 : decode b_Mod_page 8 = .ok (.invokestatic 199, 3) := by decide +kernel
theorem d_Mod_page_11 : decode b_Mod_page 11 = .ok (.ifCond .ne 9, 3) := by decide +kernel
theorem d_Mod_page_14 : decode b_Mod_page 14 = .ok (.aload_n 0, 1) := by decide +kernel
theorem d_Mod_page_15 : decode b_Mod_page 15 = .ok (.iconst (-1), 1) := by decide +kernel
theorem d_Mod_page_16 : decode b_Mod_page 16 = .ok (.invokevirtual 172, 3) := by decide +kernel
theorem d_Mod_page_19 : decode b_Mod_page 19 = .ok (.ireturn, 1) := by decide +kernel
theorem d_Mod_page_20 : decode b_Mod_page 20 = .ok (.bipush 24, 2) := by decide +kernel
theorem d_Mod_page_22 : decode b_Mod_page 22 = .ok (.iload_n 1, 1) := by decide +kernel
theorem d_Mod_page_23 : decode b_Mod_page 23 = .ok (.imul, 1) := by decide +kernel
theorem d_Mod_page_24 : decode b_Mod_page 24 = .ok (.iload_n 2, 1) := by decide +kernel
theorem d_Mod_page_25 : decode b_Mod_page 25 = .ok (.iadd, 1) := by decide +kernel
theorem d_Mod_page_26 : decode b_Mod_page 26 = .ok (.istore 4, 2) := by decide +kernel
theorem d_Mod_page_28 : decode b_Mod_page 28 = .ok (.iload_n 3, 1) := by decide +kernel
theorem d_Mod_page_29 : decode b_Mod_page 29 = .ok (.tableswitch 51 0 2 #[27, 35, 43], 27) := by decide +kernel
theorem d_Mod_page_56 : decode b_Mod_page 56 = .ok (.aload_n 0, 1) := by decide +kernel
theorem d_Mod_page_57 : decode b_Mod_page 57 = .ok (.getfield 19, 3) := by decide +kernel
theorem d_Mod_page_60 : decode b_Mod_page 60 = .ok (.iload 4, 2) := by decide +kernel
theorem d_Mod_page_62 : decode b_Mod_page 62 = .ok (.iaload, 1) := by decide +kernel
theorem d_Mod_page_63 : decode b_Mod_page 63 = .ok (.ireturn, 1) := by decide +kernel
theorem d_Mod_page_64 : decode b_Mod_page 64 = .ok (.aload_n 0, 1) := by decide +kernel
theorem d_Mod_page_65 : decode b_Mod_page 65 = .ok (.getfield 22, 3) := by decide +kernel
theorem d_Mod_page_68 : decode b_Mod_page 68 = .ok (.iload 4, 2) := by decide +kernel
theorem d_Mod_page_70 : decode b_Mod_page 70 = .ok (.iaload, 1) := by decide +kernel
theorem d_Mod_page_71 : decode b_Mod_page 71 = .ok (.ireturn, 1) := by decide +kernel
theorem d_Mod_page_72 : decode b_Mod_page 72 = .ok (.aload_n 0, 1) := by decide +kernel
theorem d_Mod_page_73 : decode b_Mod_page 73 = .ok (.getfield 25, 3) := by decide +kernel
theorem d_Mod_page_76 : decode b_Mod_page 76 = .ok (.iload 4, 2) := by decide +kernel
theorem d_Mod_page_78 : decode b_Mod_page 78 = .ok (.iaload, 1) := by decide +kernel
theorem d_Mod_page_79 : decode b_Mod_page 79 = .ok (.ireturn, 1) := by decide +kernel
theorem d_Mod_page_80 : decode b_Mod_page 80 = .ok (.aload_n 0, 1) := by decide +kernel
theorem d_Mod_page_81 : decode b_Mod_page 81 = .ok (.bipush (-2), 2) := by decide +kernel
theorem d_Mod_page_83 : decode b_Mod_page 83 = .ok (.invokevirtual 172, 3) := by decide +kernel
theorem d_Mod_page_86 : decode b_Mod_page 86 = .ok (.ireturn, 1) := by decide +kernel
def m_Mod_page (x1 : Int) (x2 : Int) (x3 : Int) (m_refused : Int → Int) (m_block : Int → Int) (m_written : Int → Int) (m_waits : Int → Int) : Option (Int × (Int → Int)) :=
  bnd (m_Mod_isFile x1) (fun r1 => jn (fun (c4 : Int → Int) => bnd (m_Mod_no (-1) c4) (fun r5 => some (r5.1, r5.2))) (fun j3 => ceq r1 0 (j3 m_refused) (bnd (m_Mod_isPage x2) (fun r9 => ceq r9 0 (j3 m_refused) (ceq x3 0 (gd (zx ((24 * x1) + x2) 96) (some ((m_block ((24 * x1) + x2)), m_refused))) (ceq x3 1 (gd (zx ((24 * x1) + x2) 96) (some ((m_written ((24 * x1) + x2)), m_refused))) (ceq x3 2 (gd (zx ((24 * x1) + x2) 96) (some ((m_waits ((24 * x1) + x2)), m_refused))) (bnd (m_Mod_no (-2) m_refused) (fun r11 => some (r11.1, r11.2))))))))))
set_option maxHeartbeats 4000000 in
set_option maxRecDepth 100000 in
theorem c_Mod_page (l : Launch) (D : va_G) (cI cB : ClassId) (a0 a1 a2 a3 a4 a5 a6 a7 a8 a9 a10 a11 a12 a13 a14 a15 : Nat) (m_stepsMade : Int) (m_stepsMost : Int) (m_taped : Int) (m_reading : Int) (m_statements : Int) (m_telling : Int) (m_hasImage : Int) (m_isKeeping : Int) (m_cursor : Int) (m_rowMany : Int) (m_lots : Int) (m_refused : Int → Int) (m_bytes : Int → Int) (m_owner : Int → Int) (m_block : Int → Int) (m_written : Int → Int) (m_waits : Int → Int) (m_kinds : Int → Int) (m_tape : Int → Int) (m_sort : Int → Int) (m_sortAt : Int → Int) (m_told : Int → Int) (m_kept : Int → Int) (m_was : Int → Int) (m_ends : Int → Int) (m_row : Int → Int) (x1 : Int) (x2 : Int) (x3 : Int) {o : Int × (Int → Int)} (h : m_Mod_page x1 x2 x3 m_refused m_block m_written m_waits = some o) : Ct l D cI cB y_Mod_page b_Mod_page 5 (some .int) { frames := 2, cells := 0, slots := 0, locals := 42 } [.ref a0, .int (zi x1), .int (zi x2), .int (zi x3)] (w_Mod cI cB a0 a1 a2 a3 a4 a5 a6 a7 a8 a9 a10 a11 a12 a13 a14 a15 m_stepsMade m_stepsMost m_taped m_reading m_statements m_telling m_hasImage m_isKeeping m_cursor m_rowMany m_lots m_refused m_bytes m_owner m_block m_written m_waits m_kinds m_tape m_sort m_sortAt m_told m_kept m_was m_ends m_row) (w_Mod cI cB a0 a1 a2 a3 a4 a5 a6 a7 a8 a9 a10 a11 a12 a13 a14 a15 m_stepsMade m_stepsMost m_taped m_reading m_statements m_telling m_hasImage m_isKeeping m_cursor m_rowMany m_lots o.2 m_bytes m_owner m_block m_written m_waits m_kinds m_tape m_sort m_sortAt m_told m_kept m_was m_ends m_row) (some (.int (zi o.1))) := by
  refine Ct.start (by decide) (Nat.le_of_ble_eq_true rfl) (fun G X hR => ?_)
  refine x_ls (ls2 := [(0, .ref a0), (1, .int (zi x1)), (2, .int (zi x2)), (3, .int (zi x3))]) [0, 1, 2, 3] rfl ?_
  unfold m_Mod_page at h
  refine x_iload_n (pc := 0) X d_Mod_page_0 1 rfl rfl ?_
  obtain ⟨r1, h2, h⟩ := bnd_e h
  refine x_callS (pc := 1) (As := [.int (zi x1)]) (rest := []) (w2 := (w_Mod cI cB a0 a1 a2 a3 a4 a5 a6 a7 a8 a9 a10 a11 a12 a13 a14 a15 m_stepsMade m_stepsMost m_taped m_reading m_statements m_telling m_hasImage m_isKeeping m_cursor m_rowMany m_lots m_refused m_bytes m_owner m_block m_written m_waits m_kinds m_tape m_sort m_sortAt m_told m_kept m_was m_ends m_row)) X d_Mod_page_1 lk_Mod_230 mv_Mod_isFile (c_Mod_isFile l D cI cB x1 h2) ⟨(Nat.le_of_ble_eq_true rfl), (Nat.le_of_ble_eq_true rfl), (Nat.le_of_ble_eq_true rfl), (Nat.le_of_ble_eq_true rfl)⟩ [] rfl rfl rfl (Up.same rfl) rfl rfl (Nat.le_of_ble_eq_true rfl) ?_
  obtain ⟨j3, hj7, h⟩ := jn_e h
  have J8 : ∀ (c4 : Int → Int), j3 c4 = some o → Wx G 0 0 14 [(0, .ref a0)] [] (w_Mod cI cB a0 a1 a2 a3 a4 a5 a6 a7 a8 a9 a10 a11 a12 a13 a14 a15 m_stepsMade m_stepsMost m_taped m_reading m_statements m_telling m_hasImage m_isKeeping m_cursor m_rowMany m_lots c4 m_bytes m_owner m_block m_written m_waits m_kinds m_tape m_sort m_sortAt m_told m_kept m_was m_ends m_row) := by
    intro c4 h
    rw [hj7] at h
    (try dsimp only at h)
    refine x_aload_n (pc := 14) X d_Mod_page_14 0 rfl rfl ?_
    refine x_iconst (pc := 15) X d_Mod_page_15  ?_
    obtain ⟨r5, h6, h⟩ := bnd_e h
    refine x_callV (pc := 16) (As := [.int (zi (-1))]) (rest := []) (w2 := (w_Mod cI cB a0 a1 a2 a3 a4 a5 a6 a7 a8 a9 a10 a11 a12 a13 a14 a15 m_stepsMade m_stepsMost m_taped m_reading m_statements m_telling m_hasImage m_isKeeping m_cursor m_rowMany m_lots r5.2 m_bytes m_owner m_block m_written m_waits m_kinds m_tape m_sort m_sortAt m_told m_kept m_was m_ends m_row)) X d_Mod_page_16 lk_Mod_172 mv_Mod_no (c_Mod_no l D cI cB a0 a1 a2 a3 a4 a5 a6 a7 a8 a9 a10 a11 a12 a13 a14 a15 m_stepsMade m_stepsMost m_taped m_reading m_statements m_telling m_hasImage m_isKeeping m_cursor m_rowMany m_lots c4 m_bytes m_owner m_block m_written m_waits m_kinds m_tape m_sort m_sortAt m_told m_kept m_was m_ends m_row (-1) h6) ⟨(Nat.le_of_ble_eq_true rfl), (Nat.le_of_ble_eq_true rfl), (Nat.le_of_ble_eq_true rfl), (Nat.le_of_ble_eq_true rfl)⟩ 0 rfl rfl [0, 1, 2, 3, 4, 5, 6, 7, 8, 9, 10, 11, 12, 13, 14, 15] rfl rfl rfl (Up.of [] [] rfl rfl rfl 16 rfl (by decide +kernel)) rfl rfl (Nat.le_of_ble_eq_true rfl) ?_
    cases h
    exact x_iret (pc := 19) X hR d_Mod_page_19
  clear hj7
  refine x_ifeq (pc := 4) (tgt := 14) X d_Mod_page_4 rfl h (fun h => ?_) (fun h => ?_)
  · skip
    refine x_ls (ls2 := [(0, .ref a0)]) [0] rfl ?_
    exact J8 m_refused h
  · skip
    refine x_iload_n (pc := 7) X d_Mod_page_7 2 rfl rfl ?_
    obtain ⟨r9, h10, h⟩ := bnd_e h
    refine x_callS (pc := 8) (As := [.int (zi x2)]) (rest := []) (w2 := (w_Mod cI cB a0 a1 a2 a3 a4 a5 a6 a7 a8 a9 a10 a11 a12 a13 a14 a15 m_stepsMade m_stepsMost m_taped m_reading m_statements m_telling m_hasImage m_isKeeping m_cursor m_rowMany m_lots m_refused m_bytes m_owner m_block m_written m_waits m_kinds m_tape m_sort m_sortAt m_told m_kept m_was m_ends m_row)) X d_Mod_page_8 lk_Mod_199 mv_Mod_isPage (c_Mod_isPage l D cI cB x2 h10) ⟨(Nat.le_of_ble_eq_true rfl), (Nat.le_of_ble_eq_true rfl), (Nat.le_of_ble_eq_true rfl), (Nat.le_of_ble_eq_true rfl)⟩ [] rfl rfl rfl (Up.same rfl) rfl rfl (Nat.le_of_ble_eq_true rfl) ?_
    refine x_ifne (pc := 11) (tgt := 20) X d_Mod_page_11 rfl h (fun h => ?_) (fun h => ?_)
    · skip
      refine x_bipush (pc := 20) (v := 24) X d_Mod_page_20 rfl ?_
      refine x_iload_n (pc := 22) X d_Mod_page_22 1 rfl rfl ?_
      refine x_imul (pc := 23) X d_Mod_page_23  ?_
      refine x_iload_n (pc := 24) X d_Mod_page_24 2 rfl rfl ?_
      refine x_iadd (pc := 25) X d_Mod_page_25  ?_
      refine x_istore (pc := 26) (ls2 := [(4, .int (zi ((24 * x1) + x2))), (0, .ref a0), (1, .int (zi x1)), (2, .int (zi x2)), (3, .int (zi x3))]) X d_Mod_page_26 (Nat.le_of_ble_eq_true rfl) rfl ?_
      refine x_iload_n (pc := 28) X d_Mod_page_28 4 rfl rfl ?_
      obtain ⟨hz, h⟩ := ceq_e h
      rcases h with ⟨e0, h⟩ | ⟨n0, h⟩
      · refine x_tsIn (pc := 29) (v := 0) (tgt := 56) X d_Mod_page_29 e0 ⟨by decide, by decide⟩ (by decide) (by decide) rfl rfl ?_
        refine x_aload_n (pc := 56) X d_Mod_page_56 1 rfl rfl ?_
        refine x_get (pc := 57) X d_Mod_page_57 0 rfl fl_Mod_19 rfl ?_
        refine x_iload (pc := 60) X d_Mod_page_60 0 rfl ?_
        refine x_iald (pc := 62) X d_Mod_page_62 4 rfl (Nat.le_of_ble_eq_true rfl) rfl h (fun h => ?_)
        cases h
        exact x_iret (pc := 63) X hR d_Mod_page_63
      obtain ⟨hz, h⟩ := ceq_e h
      rcases h with ⟨e1, h⟩ | ⟨n1, h⟩
      · refine x_tsIn (pc := 29) (v := 1) (tgt := 64) X d_Mod_page_29 e1 ⟨by decide, by decide⟩ (by decide) (by decide) rfl rfl ?_
        refine x_aload_n (pc := 64) X d_Mod_page_64 1 rfl rfl ?_
        refine x_get (pc := 65) X d_Mod_page_65 0 rfl fl_Mod_22 rfl ?_
        refine x_iload (pc := 68) X d_Mod_page_68 0 rfl ?_
        refine x_iald (pc := 70) X d_Mod_page_70 5 rfl (Nat.le_of_ble_eq_true rfl) rfl h (fun h => ?_)
        cases h
        exact x_iret (pc := 71) X hR d_Mod_page_71
      obtain ⟨hz, h⟩ := ceq_e h
      rcases h with ⟨e2, h⟩ | ⟨n2, h⟩
      · refine x_tsIn (pc := 29) (v := 2) (tgt := 72) X d_Mod_page_29 e2 ⟨by decide, by decide⟩ (by decide) (by decide) rfl rfl ?_
        refine x_aload_n (pc := 72) X d_Mod_page_72 1 rfl rfl ?_
        refine x_get (pc := 73) X d_Mod_page_73 0 rfl fl_Mod_25 rfl ?_
        refine x_iload (pc := 76) X d_Mod_page_76 0 rfl ?_
        refine x_iald (pc := 78) X d_Mod_page_78 6 rfl (Nat.le_of_ble_eq_true rfl) rfl h (fun h => ?_)
        cases h
        exact x_iret (pc := 79) X hR d_Mod_page_79
      refine x_tsOut (pc := 29) (tgt := 80) X d_Mod_page_29 hz.1 (by omega) rfl ?_
      · skip
        refine x_aload_n (pc := 80) X d_Mod_page_80 1 rfl rfl ?_
        refine x_bipush (pc := 81) (v := -2) X d_Mod_page_81 rfl ?_
        obtain ⟨r11, h12, h⟩ := bnd_e h
        refine x_callV (pc := 83) (As := [.int (zi (-2))]) (rest := []) (w2 := (w_Mod cI cB a0 a1 a2 a3 a4 a5 a6 a7 a8 a9 a10 a11 a12 a13 a14 a15 m_stepsMade m_stepsMost m_taped m_reading m_statements m_telling m_hasImage m_isKeeping m_cursor m_rowMany m_lots r11.2 m_bytes m_owner m_block m_written m_waits m_kinds m_tape m_sort m_sortAt m_told m_kept m_was m_ends m_row)) X d_Mod_page_83 lk_Mod_172 mv_Mod_no (c_Mod_no l D cI cB a0 a1 a2 a3 a4 a5 a6 a7 a8 a9 a10 a11 a12 a13 a14 a15 m_stepsMade m_stepsMost m_taped m_reading m_statements m_telling m_hasImage m_isKeeping m_cursor m_rowMany m_lots m_refused m_bytes m_owner m_block m_written m_waits m_kinds m_tape m_sort m_sortAt m_told m_kept m_was m_ends m_row (-2) h12) ⟨(Nat.le_of_ble_eq_true rfl), (Nat.le_of_ble_eq_true rfl), (Nat.le_of_ble_eq_true rfl), (Nat.le_of_ble_eq_true rfl)⟩ 0 rfl rfl [0, 1, 2, 3, 4, 5, 6, 7, 8, 9, 10, 11, 12, 13, 14, 15] rfl rfl rfl (Up.of [] [] rfl rfl rfl 16 rfl (by decide +kernel)) rfl rfl (Nat.le_of_ble_eq_true rfl) ?_
        cases h
        exact x_iret (pc := 86) X hR d_Mod_page_86
    · skip
      refine x_ls (ls2 := [(0, .ref a0)]) [0] rfl ?_
      exact J8 m_refused h
theorem d_Mod_writtenOf_0 : decode b_Mod_writtenOf 0 = .ok (.iconst 0, 1) := by decide +kernel
theorem d_Mod_writtenOf_1 : decode b_Mod_writtenOf 1 = .ok (.istore_n 2, 1) := by decide +kernel
theorem d_Mod_writtenOf_2 : decode b_Mod_writtenOf 2 = .ok (.iconst 0, 1) := by decide +kernel
theorem d_Mod_writtenOf_3 : decode b_Mod_writtenOf 3 = .ok (.istore_n 3, 1) := by decide +kernel
theorem d_Mod_writtenOf_4 : decode b_Mod_writtenOf 4 = .ok (.iload_n 3, 1) := by decide +kernel
theorem d_Mod_writtenOf_5 : decode b_Mod_writtenOf 5 = .ok (.bipush 24, 2) := by decide +kernel
theorem d_Mod_writtenOf_7 : decode b_Mod_writtenOf 7 = .ok (.if_icmp .ge 23, 3) := by decide +kernel
theorem d_Mod_writtenOf_10 : decode b_Mod_writtenOf 10 = .ok (.iload_n 2, 1) := by decide +kernel
theorem d_Mod_writtenOf_11 : decode b_Mod_writtenOf 11 = .ok (.aload_n 0, 1) := by decide +kernel
theorem d_Mod_writtenOf_12 : decode b_Mod_writtenOf 12 = .ok (.getfield 22, 3) := by decide +kernel
theorem d_Mod_writtenOf_15 : decode b_Mod_writtenOf 15 = .ok (.bipush 24, 2) := by decide +kernel
theorem d_Mod_writtenOf_17 : decode b_Mod_writtenOf 17 = .ok (.iload_n 1, 1) := by decide +kernel
theorem d_Mod_writtenOf_18 : decode b_Mod_writtenOf 18 = .ok (.imul, 1) := by decide +kernel
theorem d_Mod_writtenOf_19 : decode b_Mod_writtenOf 19 = .ok (.iload_n 3, 1) := by decide +kernel
theorem d_Mod_writtenOf_20 : decode b_Mod_writtenOf 20 = .ok (.iadd, 1) := by decide +kernel
theorem d_Mod_writtenOf_21 : decode b_Mod_writtenOf 21 = .ok (.iaload, 1) := by decide +kernel
theorem d_Mod_writtenOf_22 : decode b_Mod_writtenOf 22 = .ok (.iadd, 1) := by decide +kernel
theorem d_Mod_writtenOf_23 : decode b_Mod_writtenOf 23 = .ok (.istore_n 2, 1) := by decide +kernel
theorem d_Mod_writtenOf_24 : decode b_Mod_writtenOf 24 = .ok (.iinc 3 1, 3) := by decide +kernel
theorem d_Mod_writtenOf_27 : decode b_Mod_writtenOf 27 = .ok (.goto (-23), 3) := by decide +kernel
theorem d_Mod_writtenOf_30 : decode b_Mod_writtenOf 30 = .ok (.iload_n 2, 1) := by decide +kernel
theorem d_Mod_writtenOf_31 : decode b_Mod_writtenOf 31 = .ok (.ireturn, 1) := by decide +kernel
def m_Mod_writtenOf_4 : Nat → Int → Int → Int → (Int → Int) → Option (Int)
  | 0, _, _, _, _ => none
  | fuel + 1, v1, v2, v3, m_written =>
  clt v3 24 (gd (zx ((24 * v1) + v3) 96) (m_Mod_writtenOf_4 fuel v1 (v2 + (m_written ((24 * v1) + v3))) (v3 + 1) m_written)) (some (v2))
def m_Mod_writtenOf (x1 : Int) (m_written : Int → Int) : Option (Int) :=
  m_Mod_writtenOf_4 5000 x1 0 0 m_written
set_option maxHeartbeats 4000000 in
set_option maxRecDepth 100000 in
theorem l_Mod_writtenOf_4 {G : GT} {l : Launch} {D : va_G} {cI cB : ClassId} {a0 a1 a2 a3 a4 a5 a6 a7 a8 a9 a10 a11 a12 a13 a14 a15 : Nat} {m_stepsMade : Int} {m_stepsMost : Int} {m_taped : Int} {m_reading : Int} {m_statements : Int} {m_telling : Int} {m_hasImage : Int} {m_isKeeping : Int} {m_cursor : Int} {m_rowMany : Int} {m_lots : Int} {m_refused : Int → Int} {m_bytes : Int → Int} {m_owner : Int → Int} {m_block : Int → Int} {m_waits : Int → Int} {m_kinds : Int → Int} {m_tape : Int → Int} {m_sort : Int → Int} {m_sortAt : Int → Int} {m_told : Int → Int} {m_kept : Int → Int} {m_was : Int → Int} {m_ends : Int → Int} {m_row : Int → Int} (X : Cx G l D cI cB b_Mod_writtenOf y_Mod_writtenOf.cls 4 { frames := 0, cells := 0, slots := 0, locals := 0 }) : ∀ (fuel : Nat) (v1 : Int) (v2 : Int) (v3 : Int) (m_written : Int → Int) (o : Int), m_Mod_writtenOf_4 fuel v1 v2 v3 m_written = some o → Rt G (some .int) (some (.int (zi o))) (w_Mod cI cB a0 a1 a2 a3 a4 a5 a6 a7 a8 a9 a10 a11 a12 a13 a14 a15 m_stepsMade m_stepsMost m_taped m_reading m_statements m_telling m_hasImage m_isKeeping m_cursor m_rowMany m_lots m_refused m_bytes m_owner m_block m_written m_waits m_kinds m_tape m_sort m_sortAt m_told m_kept m_was m_ends m_row) → Wx G 0 0 4 [(0, .ref a0), (1, .int (zi v1)), (2, .int (zi v2)), (3, .int (zi v3))] [] (w_Mod cI cB a0 a1 a2 a3 a4 a5 a6 a7 a8 a9 a10 a11 a12 a13 a14 a15 m_stepsMade m_stepsMost m_taped m_reading m_statements m_telling m_hasImage m_isKeeping m_cursor m_rowMany m_lots m_refused m_bytes m_owner m_block m_written m_waits m_kinds m_tape m_sort m_sortAt m_told m_kept m_was m_ends m_row) := by
  intro fuel
  induction fuel with
  | zero =>
    intro v1 v2 v3 m_written o h
    exact absurd h (by simp [m_Mod_writtenOf_4])
  | succ fuel ih =>
    intro v1 v2 v3 m_written o h hR
    rw [m_Mod_writtenOf_4] at h
    refine x_iload_n (pc := 4) X d_Mod_writtenOf_4 3 rfl rfl ?_
    refine x_bipush (pc := 5) (v := 24) X d_Mod_writtenOf_5 rfl ?_
    refine x_icmpge (pc := 7) (tgt := 30) X d_Mod_writtenOf_7 rfl h (fun h => ?_) (fun h => ?_)
    · skip
      refine x_iload_n (pc := 30) X d_Mod_writtenOf_30 2 rfl rfl ?_
      cases h
      exact x_iret (pc := 31) X hR d_Mod_writtenOf_31
    · skip
      refine x_iload_n (pc := 10) X d_Mod_writtenOf_10 2 rfl rfl ?_
      refine x_aload_n (pc := 11) X d_Mod_writtenOf_11 0 rfl rfl ?_
      refine x_get (pc := 12) X d_Mod_writtenOf_12 0 rfl fl_Mod_22 rfl ?_
      refine x_bipush (pc := 15) (v := 24) X d_Mod_writtenOf_15 rfl ?_
      refine x_iload_n (pc := 17) X d_Mod_writtenOf_17 1 rfl rfl ?_
      refine x_imul (pc := 18) X d_Mod_writtenOf_18  ?_
      refine x_iload_n (pc := 19) X d_Mod_writtenOf_19 3 rfl rfl ?_
      refine x_iadd (pc := 20) X d_Mod_writtenOf_20  ?_
      refine x_iald (pc := 21) X d_Mod_writtenOf_21 5 rfl (Nat.le_of_ble_eq_true rfl) rfl h (fun h => ?_)
      refine x_iadd (pc := 22) X d_Mod_writtenOf_22  ?_
      refine x_istore_n (pc := 23) (ls2 := [(2, .int (zi (v2 + (m_written ((24 * v1) + v3))))), (0, .ref a0), (1, .int (zi v1)), (3, .int (zi v3))]) X d_Mod_writtenOf_23 rfl (Nat.le_of_ble_eq_true rfl) rfl ?_
      refine x_iinc (pc := 24) (ls2 := [(3, .int (zi (v3 + 1))), (2, .int (zi (v2 + (m_written ((24 * v1) + v3))))), (0, .ref a0), (1, .int (zi v1))]) X d_Mod_writtenOf_24 3 (Nat.le_of_ble_eq_true rfl) rfl rfl ?_
      refine x_goto (pc := 27) (tgt := 4) X d_Mod_writtenOf_27 rfl ?_
      refine x_ls (ls2 := [(0, .ref a0), (1, .int (zi v1)), (2, .int (zi (v2 + (m_written ((24 * v1) + v3))))), (3, .int (zi (v3 + 1)))]) [2, 3, 1, 0] rfl ?_
      exact ih v1 (v2 + (m_written ((24 * v1) + v3))) (v3 + 1) m_written o h hR
set_option maxHeartbeats 4000000 in
set_option maxRecDepth 100000 in
theorem c_Mod_writtenOf (l : Launch) (D : va_G) (cI cB : ClassId) (a0 a1 a2 a3 a4 a5 a6 a7 a8 a9 a10 a11 a12 a13 a14 a15 : Nat) (m_stepsMade : Int) (m_stepsMost : Int) (m_taped : Int) (m_reading : Int) (m_statements : Int) (m_telling : Int) (m_hasImage : Int) (m_isKeeping : Int) (m_cursor : Int) (m_rowMany : Int) (m_lots : Int) (m_refused : Int → Int) (m_bytes : Int → Int) (m_owner : Int → Int) (m_block : Int → Int) (m_written : Int → Int) (m_waits : Int → Int) (m_kinds : Int → Int) (m_tape : Int → Int) (m_sort : Int → Int) (m_sortAt : Int → Int) (m_told : Int → Int) (m_kept : Int → Int) (m_was : Int → Int) (m_ends : Int → Int) (m_row : Int → Int) (x1 : Int) {o : Int} (h : m_Mod_writtenOf x1 m_written = some o) : Ct l D cI cB y_Mod_writtenOf b_Mod_writtenOf 4 (some .int) { frames := 0, cells := 0, slots := 0, locals := 0 } [.ref a0, .int (zi x1)] (w_Mod cI cB a0 a1 a2 a3 a4 a5 a6 a7 a8 a9 a10 a11 a12 a13 a14 a15 m_stepsMade m_stepsMost m_taped m_reading m_statements m_telling m_hasImage m_isKeeping m_cursor m_rowMany m_lots m_refused m_bytes m_owner m_block m_written m_waits m_kinds m_tape m_sort m_sortAt m_told m_kept m_was m_ends m_row) (w_Mod cI cB a0 a1 a2 a3 a4 a5 a6 a7 a8 a9 a10 a11 a12 a13 a14 a15 m_stepsMade m_stepsMost m_taped m_reading m_statements m_telling m_hasImage m_isKeeping m_cursor m_rowMany m_lots m_refused m_bytes m_owner m_block m_written m_waits m_kinds m_tape m_sort m_sortAt m_told m_kept m_was m_ends m_row) (some (.int (zi o))) := by
  refine Ct.start (by decide) (Nat.le_of_ble_eq_true rfl) (fun G X hR => ?_)
  refine x_ls (ls2 := [(0, .ref a0), (1, .int (zi x1))]) [0, 1] rfl ?_
  unfold m_Mod_writtenOf at h
  refine x_iconst (pc := 0) X d_Mod_writtenOf_0  ?_
  refine x_istore_n (pc := 1) (ls2 := [(2, .int (zi 0)), (0, .ref a0), (1, .int (zi x1))]) X d_Mod_writtenOf_1 rfl (Nat.le_of_ble_eq_true rfl) rfl ?_
  refine x_iconst (pc := 2) X d_Mod_writtenOf_2  ?_
  refine x_istore_n (pc := 3) (ls2 := [(3, .int (zi 0)), (2, .int (zi 0)), (0, .ref a0), (1, .int (zi x1))]) X d_Mod_writtenOf_3 rfl (Nat.le_of_ble_eq_true rfl) rfl ?_
  refine x_ls (ls2 := [(0, .ref a0), (1, .int (zi x1)), (2, .int (zi 0)), (3, .int (zi 0))]) [2, 3, 1, 0] rfl ?_
  exact l_Mod_writtenOf_4 X 5000 x1 0 0 m_written o h hR
theorem d_Mod_beginsExtent_0 : decode b_Mod_beginsExtent 0 = .ok (.aload_n 0, 1) := by decide +kernel
theorem d_Mod_beginsExtent_1 : decode b_Mod_beginsExtent 1 = .ok (.iload_n 1, 1) := by decide +kernel
theorem d_Mod_beginsExtent_2 : decode b_Mod_beginsExtent 2 = .ok (.invokevirtual 62, 3) := by decide +kernel
theorem d_Mod_beginsExtent_5 : decode b_Mod_beginsExtent 5 = .ok (.ifCond .ne 5, 3) := by decide +kernel
theorem d_Mod_beginsExtent_8 : decode b_Mod_beginsExtent 8 = .ok (.iconst 0, 1) := by decide +kernel
theorem d_Mod_beginsExtent_9 : decode b_Mod_beginsExtent 9 = .ok (.ireturn, 1) := by decide +kernel
theorem d_Mod_beginsExtent_10 : decode b_Mod_beginsExtent 10 = .ok (.iload_n 1, 1) := by decide +kernel
theorem d_Mod_beginsExtent_11 : decode b_Mod_beginsExtent 11 = .ok (.bipush 24, 2) := by decide +kernel
theorem d_Mod_beginsExtent_13 : decode b_Mod_beginsExtent 13 = .ok (.irem, 1) := by decide +kernel
theorem d_Mod_beginsExtent_14 : decode b_Mod_beginsExtent 14 = .ok (.ifCond .eq 49, 3) := by decide +kernel
theorem d_Mod_beginsExtent_17 : decode b_Mod_beginsExtent 17 = .ok (.aload_n 0, 1) := by decide +kernel
theorem d_Mod_beginsExtent_18 : decode b_Mod_beginsExtent 18 = .ok (.iload_n 1, 1) := by decide +kernel
theorem d_Mod_beginsExtent_19 : decode b_Mod_beginsExtent 19 = .ok (.iconst 1, 1) := by decide +kernel
theorem d_Mod_beginsExtent_20 : decode b_Mod_beginsExtent 20 = .ok (.isub, 1) := by decide +kernel
theorem d_Mod_beginsExtent_21 : decode b_Mod_beginsExtent 21 = .ok (.invokevirtual 62, 3) := by decide +kernel
theorem d_Mod_beginsExtent_24 : decode b_Mod_beginsExtent 24 = .ok (.ifCond .eq 39, 3) := by decide +kernel
theorem d_Mod_beginsExtent_27 : decode b_Mod_beginsExtent 27 = .ok (.aload_n 0, 1) := by decide +kernel
theorem d_Mod_beginsExtent_28 : decode b_Mod_beginsExtent 28 = .ok (.getfield 19, 3) := by decide +kernel
theorem d_Mod_beginsExtent_31 : decode b_Mod_beginsExtent 31 = .ok (.iload_n 1, 1) := by decide +kernel
theorem d_Mod_beginsExtent_32 : decode b_Mod_beginsExtent 32 = .ok (.iconst 1, 1) := by decide +kernel
theorem d_Mod_beginsExtent_33 : decode b_Mod_beginsExtent 33 = .ok (.isub, 1) := by decide +kernel
theorem d_Mod_beginsExtent_34 : decode b_Mod_beginsExtent 34 = .ok (.iaload, 1) := by decide +kernel
theorem d_Mod_beginsExtent_35 : decode b_Mod_beginsExtent 35 = .ok (.iconst 1, 1) := by decide +kernel
theorem d_Mod_beginsExtent_36 : decode b_Mod_beginsExtent 36 = .ok (.iadd, 1) := by decide +kernel
theorem d_Mod_beginsExtent_37 : decode b_Mod_beginsExtent 37 = .ok (.aload_n 0, 1) := by decide +kernel
theorem d_Mod_beginsExtent_38 : decode b_Mod_beginsExtent 38 = .ok (.getfield 19, 3) := by decide +kernel
theorem d_Mod_beginsExtent_41 : decode b_Mod_beginsExtent 41 = .ok (.iload_n 1, 1) := by decide +kernel
theorem d_Mod_beginsExtent_42 : decode b_Mod_beginsExtent 42 = .ok (.iaload, 1) := by decide +kernel
theorem d_Mod_beginsExtent_43 : decode b_Mod_beginsExtent 43 = .ok (.if_icmp .ne 20, 3) := by decide +kernel
theorem d_Mod_beginsExtent_46 : decode b_Mod_beginsExtent 46 = .ok (.aload_n 0, 1) := by decide +kernel
theorem d_Mod_beginsExtent_47 : decode b_Mod_beginsExtent 47 = .ok (.getfield 22, 3) := by decide +kernel
theorem d_Mod_beginsExtent_50 : decode b_Mod_beginsExtent 50 = .ok (.iload_n 1, 1) := by decide +kernel
theorem d_Mod_beginsExtent_51 : decode b_Mod_beginsExtent 51 = .ok (.iconst 1, 1) := by decide +kernel
theorem d_Mod_beginsExtent_52 : decode b_Mod_beginsExtent 52 = .ok (.isub, 1) := by decide +kernel
theorem d_Mod_beginsExtent_53 : decode b_Mod_beginsExtent 53 = .ok (.iaload, 1) := by decide +kernel
theorem d_Mod_beginsExtent_54 : decode b_Mod_beginsExtent 54 = .ok (.aload_n 0, 1) := by decide +kernel
theorem d_Mod_beginsExtent_55 : decode b_Mod_beginsExtent 55 = .ok (.getfield 22, 3) := by decide +kernel
theorem d_Mod_beginsExtent_58 : decode b_Mod_beginsExtent 58 = .ok (.iload_n 1, 1) := by decide +kernel
theorem d_Mod_beginsExtent_59 : decode b_Mod_beginsExtent 59 = .ok (.iaload, 1) := by decide +kernel
theorem d_Mod_beginsExtent_60 : decode b_Mod_beginsExtent 60 = .ok (.if_icmp .eq 7, 3) := by decide +kernel
theorem d_Mod_beginsExtent_63 : decode b_Mod_beginsExtent 63 = .ok (.iconst 1, 1) := by decide +kernel
theorem d_Mod_beginsExtent_64 : decode b_Mod_beginsExtent 64 = .ok (.goto 4, 3) := by decide +kernel
theorem d_Mod_beginsExtent_67 : decode b_Mod_beginsExtent 67 = .ok (.iconst 0, 1) := by decide +kernel
theorem d_Mod_beginsExtent_68 : decode b_Mod_beginsExtent 68 = .ok (.ireturn, 1) := by decide +kernel
def m_Mod_beginsExtent (x1 : Int) (m_block : Int → Int) (m_written : Int → Int) : Option (Int) :=
  bnd (m_Mod_isPlaced x1 m_block) (fun r1 => ceq r1 0 (some (0)) (gd (zx x1 2147483648 ∧ zp 24 2147483648) (ceq (x1 % 24) 0 (some (1)) (bnd (m_Mod_isPlaced (x1 - 1) m_block) (fun r3 => ceq r3 0 (some (1)) (gd (zx (x1 - 1) 96) (gd (zx x1 96) (ceq ((m_block (x1 - 1)) + 1) (m_block x1) (gd (zx (x1 - 1) 96) (gd (zx x1 96) (ceq (m_written (x1 - 1)) (m_written x1) (some (0)) (some (1))))) (some (1))))))))))
set_option maxHeartbeats 4000000 in
set_option maxRecDepth 100000 in
theorem c_Mod_beginsExtent (l : Launch) (D : va_G) (cI cB : ClassId) (a0 a1 a2 a3 a4 a5 a6 a7 a8 a9 a10 a11 a12 a13 a14 a15 : Nat) (m_stepsMade : Int) (m_stepsMost : Int) (m_taped : Int) (m_reading : Int) (m_statements : Int) (m_telling : Int) (m_hasImage : Int) (m_isKeeping : Int) (m_cursor : Int) (m_rowMany : Int) (m_lots : Int) (m_refused : Int → Int) (m_bytes : Int → Int) (m_owner : Int → Int) (m_block : Int → Int) (m_written : Int → Int) (m_waits : Int → Int) (m_kinds : Int → Int) (m_tape : Int → Int) (m_sort : Int → Int) (m_sortAt : Int → Int) (m_told : Int → Int) (m_kept : Int → Int) (m_was : Int → Int) (m_ends : Int → Int) (m_row : Int → Int) (x1 : Int) {o : Int} (h : m_Mod_beginsExtent x1 m_block m_written = some o) : Ct l D cI cB y_Mod_beginsExtent b_Mod_beginsExtent 2 (some .boolean) { frames := 1, cells := 0, slots := 0, locals := 21 } [.ref a0, .int (zi x1)] (w_Mod cI cB a0 a1 a2 a3 a4 a5 a6 a7 a8 a9 a10 a11 a12 a13 a14 a15 m_stepsMade m_stepsMost m_taped m_reading m_statements m_telling m_hasImage m_isKeeping m_cursor m_rowMany m_lots m_refused m_bytes m_owner m_block m_written m_waits m_kinds m_tape m_sort m_sortAt m_told m_kept m_was m_ends m_row) (w_Mod cI cB a0 a1 a2 a3 a4 a5 a6 a7 a8 a9 a10 a11 a12 a13 a14 a15 m_stepsMade m_stepsMost m_taped m_reading m_statements m_telling m_hasImage m_isKeeping m_cursor m_rowMany m_lots m_refused m_bytes m_owner m_block m_written m_waits m_kinds m_tape m_sort m_sortAt m_told m_kept m_was m_ends m_row) (some (.int (zi o))) := by
  refine Ct.start (by decide) (Nat.le_of_ble_eq_true rfl) (fun G X hR => ?_)
  refine x_ls (ls2 := [(0, .ref a0), (1, .int (zi x1))]) [0, 1] rfl ?_
  unfold m_Mod_beginsExtent at h
  refine x_aload_n (pc := 0) X d_Mod_beginsExtent_0 0 rfl rfl ?_
  refine x_iload_n (pc := 1) X d_Mod_beginsExtent_1 1 rfl rfl ?_
  obtain ⟨r1, h2, h⟩ := bnd_e h
  refine x_callV (pc := 2) (As := [.int (zi x1)]) (rest := []) (w2 := (w_Mod cI cB a0 a1 a2 a3 a4 a5 a6 a7 a8 a9 a10 a11 a12 a13 a14 a15 m_stepsMade m_stepsMost m_taped m_reading m_statements m_telling m_hasImage m_isKeeping m_cursor m_rowMany m_lots m_refused m_bytes m_owner m_block m_written m_waits m_kinds m_tape m_sort m_sortAt m_told m_kept m_was m_ends m_row)) X d_Mod_beginsExtent_2 lk_Mod_62 mv_Mod_isPlaced (c_Mod_isPlaced l D cI cB a0 a1 a2 a3 a4 a5 a6 a7 a8 a9 a10 a11 a12 a13 a14 a15 m_stepsMade m_stepsMost m_taped m_reading m_statements m_telling m_hasImage m_isKeeping m_cursor m_rowMany m_lots m_refused m_bytes m_owner m_block m_written m_waits m_kinds m_tape m_sort m_sortAt m_told m_kept m_was m_ends m_row x1 h2) ⟨(Nat.le_of_ble_eq_true rfl), (Nat.le_of_ble_eq_true rfl), (Nat.le_of_ble_eq_true rfl), (Nat.le_of_ble_eq_true rfl)⟩ 0 rfl rfl [0, 1, 2, 3, 4, 5, 6, 7, 8, 9, 10, 11, 12, 13, 14, 15] rfl rfl rfl (Up.same rfl) rfl rfl (Nat.le_of_ble_eq_true rfl) ?_
  refine x_ifne (pc := 5) (tgt := 10) X d_Mod_beginsExtent_5 rfl h (fun h => ?_) (fun h => ?_)
  · skip
    refine x_iload_n (pc := 10) X d_Mod_beginsExtent_10 1 rfl rfl ?_
    refine x_bipush (pc := 11) (v := 24) X d_Mod_beginsExtent_11 rfl ?_
    refine x_irem (pc := 13) X d_Mod_beginsExtent_13 h (fun h => ?_)
    refine x_ifeq (pc := 14) (tgt := 63) X d_Mod_beginsExtent_14 rfl h (fun h => ?_) (fun h => ?_)
    · skip
      refine x_iconst (pc := 63) X d_Mod_beginsExtent_63  ?_
      refine x_goto (pc := 64) (tgt := 68) X d_Mod_beginsExtent_64 rfl ?_
      cases h
      exact x_zret (pc := 68) X hR d_Mod_beginsExtent_68 (Or.inr rfl)
    · skip
      refine x_aload_n (pc := 17) X d_Mod_beginsExtent_17 0 rfl rfl ?_
      refine x_iload_n (pc := 18) X d_Mod_beginsExtent_18 1 rfl rfl ?_
      refine x_iconst (pc := 19) X d_Mod_beginsExtent_19  ?_
      refine x_isub (pc := 20) X d_Mod_beginsExtent_20  ?_
      obtain ⟨r3, h4, h⟩ := bnd_e h
      refine x_callV (pc := 21) (As := [.int (zi (x1 - 1))]) (rest := []) (w2 := (w_Mod cI cB a0 a1 a2 a3 a4 a5 a6 a7 a8 a9 a10 a11 a12 a13 a14 a15 m_stepsMade m_stepsMost m_taped m_reading m_statements m_telling m_hasImage m_isKeeping m_cursor m_rowMany m_lots m_refused m_bytes m_owner m_block m_written m_waits m_kinds m_tape m_sort m_sortAt m_told m_kept m_was m_ends m_row)) X d_Mod_beginsExtent_21 lk_Mod_62 mv_Mod_isPlaced (c_Mod_isPlaced l D cI cB a0 a1 a2 a3 a4 a5 a6 a7 a8 a9 a10 a11 a12 a13 a14 a15 m_stepsMade m_stepsMost m_taped m_reading m_statements m_telling m_hasImage m_isKeeping m_cursor m_rowMany m_lots m_refused m_bytes m_owner m_block m_written m_waits m_kinds m_tape m_sort m_sortAt m_told m_kept m_was m_ends m_row (x1 - 1) h4) ⟨(Nat.le_of_ble_eq_true rfl), (Nat.le_of_ble_eq_true rfl), (Nat.le_of_ble_eq_true rfl), (Nat.le_of_ble_eq_true rfl)⟩ 0 rfl rfl [0, 1, 2, 3, 4, 5, 6, 7, 8, 9, 10, 11, 12, 13, 14, 15] rfl rfl rfl (Up.same rfl) rfl rfl (Nat.le_of_ble_eq_true rfl) ?_
      refine x_ifeq (pc := 24) (tgt := 63) X d_Mod_beginsExtent_24 rfl h (fun h => ?_) (fun h => ?_)
      · skip
        refine x_iconst (pc := 63) X d_Mod_beginsExtent_63  ?_
        refine x_goto (pc := 64) (tgt := 68) X d_Mod_beginsExtent_64 rfl ?_
        cases h
        exact x_zret (pc := 68) X hR d_Mod_beginsExtent_68 (Or.inr rfl)
      · skip
        refine x_aload_n (pc := 27) X d_Mod_beginsExtent_27 0 rfl rfl ?_
        refine x_get (pc := 28) X d_Mod_beginsExtent_28 0 rfl fl_Mod_19 rfl ?_
        refine x_iload_n (pc := 31) X d_Mod_beginsExtent_31 1 rfl rfl ?_
        refine x_iconst (pc := 32) X d_Mod_beginsExtent_32  ?_
        refine x_isub (pc := 33) X d_Mod_beginsExtent_33  ?_
        refine x_iald (pc := 34) X d_Mod_beginsExtent_34 4 rfl (Nat.le_of_ble_eq_true rfl) rfl h (fun h => ?_)
        refine x_iconst (pc := 35) X d_Mod_beginsExtent_35  ?_
        refine x_iadd (pc := 36) X d_Mod_beginsExtent_36  ?_
        refine x_aload_n (pc := 37) X d_Mod_beginsExtent_37 0 rfl rfl ?_
        refine x_get (pc := 38) X d_Mod_beginsExtent_38 0 rfl fl_Mod_19 rfl ?_
        refine x_iload_n (pc := 41) X d_Mod_beginsExtent_41 1 rfl rfl ?_
        refine x_iald (pc := 42) X d_Mod_beginsExtent_42 4 rfl (Nat.le_of_ble_eq_true rfl) rfl h (fun h => ?_)
        refine x_icmpne (pc := 43) (tgt := 63) X d_Mod_beginsExtent_43 rfl h (fun h => ?_) (fun h => ?_)
        · skip
          refine x_iconst (pc := 63) X d_Mod_beginsExtent_63  ?_
          refine x_goto (pc := 64) (tgt := 68) X d_Mod_beginsExtent_64 rfl ?_
          cases h
          exact x_zret (pc := 68) X hR d_Mod_beginsExtent_68 (Or.inr rfl)
        · skip
          refine x_aload_n (pc := 46) X d_Mod_beginsExtent_46 0 rfl rfl ?_
          refine x_get (pc := 47) X d_Mod_beginsExtent_47 0 rfl fl_Mod_22 rfl ?_
          refine x_iload_n (pc := 50) X d_Mod_beginsExtent_50 1 rfl rfl ?_
          refine x_iconst (pc := 51) X d_Mod_beginsExtent_51  ?_
          refine x_isub (pc := 52) X d_Mod_beginsExtent_52  ?_
          refine x_iald (pc := 53) X d_Mod_beginsExtent_53 5 rfl (Nat.le_of_ble_eq_true rfl) rfl h (fun h => ?_)
          refine x_aload_n (pc := 54) X d_Mod_beginsExtent_54 0 rfl rfl ?_
          refine x_get (pc := 55) X d_Mod_beginsExtent_55 0 rfl fl_Mod_22 rfl ?_
          refine x_iload_n (pc := 58) X d_Mod_beginsExtent_58 1 rfl rfl ?_
          refine x_iald (pc := 59) X d_Mod_beginsExtent_59 5 rfl (Nat.le_of_ble_eq_true rfl) rfl h (fun h => ?_)
          refine x_icmpeq (pc := 60) (tgt := 67) X d_Mod_beginsExtent_60 rfl h (fun h => ?_) (fun h => ?_)
          · skip
            refine x_iconst (pc := 67) X d_Mod_beginsExtent_67  ?_
            cases h
            exact x_zret (pc := 68) X hR d_Mod_beginsExtent_68 (Or.inl rfl)
          · skip
            refine x_iconst (pc := 63) X d_Mod_beginsExtent_63  ?_
            refine x_goto (pc := 64) (tgt := 68) X d_Mod_beginsExtent_64 rfl ?_
            cases h
            exact x_zret (pc := 68) X hR d_Mod_beginsExtent_68 (Or.inr rfl)
  · skip
    refine x_iconst (pc := 8) X d_Mod_beginsExtent_8  ?_
    cases h
    exact x_zret (pc := 9) X hR d_Mod_beginsExtent_9 (Or.inl rfl)
theorem d_Mod_extents_0 : decode b_Mod_extents 0 = .ok (.iconst 0, 1) := by decide +kernel
theorem d_Mod_extents_1 : decode b_Mod_extents 1 = .ok (.istore_n 2, 1) := by decide +kernel
theorem d_Mod_extents_2 : decode b_Mod_extents 2 = .ok (.iconst 0, 1) := by decide +kernel
theorem d_Mod_extents_3 : decode b_Mod_extents 3 = .ok (.istore_n 3, 1) := by decide +kernel
theorem d_Mod_extents_4 : decode b_Mod_extents 4 = .ok (.iload_n 3, 1) := by decide +kernel
theorem d_Mod_extents_5 : decode b_Mod_extents 5 = .ok (.bipush 24, 2) := by decide +kernel
theorem d_Mod_extents_7 : decode b_Mod_extents 7 = .ok (.if_icmp .ge 30, 3) := by decide +kernel
theorem d_Mod_extents_10 : decode b_Mod_extents 10 = .ok (.iload_n 2, 1) := by decide +kernel
theorem d_Mod_extents_11 : decode b_Mod_extents 11 = .ok (.aload_n 0, 1) := by decide +kernel
theorem d_Mod_extents_12 : decode b_Mod_extents 12 = .ok (.bipush 24, 2) := by decide +kernel
theorem d_Mod_extents_14 : decode b_Mod_extents 14 = .ok (.iload_n 1, 1) := by decide +kernel
theorem d_Mod_extents_15 : decode b_Mod_extents 15 = .ok (.imul, 1) := by decide +kernel
theorem d_Mod_extents_16 : decode b_Mod_extents 16 = .ok (.iload_n 3, 1) := by decide +kernel
theorem d_Mod_extents_17 : decode b_Mod_extents 17 = .ok (.iadd, 1) := by decide +kernel
theorem d_Mod_extents_18 : decode b_Mod_extents 18 = .ok (.invokevirtual 79, 3) := by decide +kernel
theorem d_Mod_extents_21 : decode b_Mod_extents 21 = .ok (.ifCond .eq 7, 3) := by decide +kernel
theorem d_Mod_extents_24 : decode b_Mod_extents 24 = .ok (.iconst 1, 1) := by decide +kernel
theorem d_Mod_extents_25 : decode b_Mod_extents 25 = .ok (.goto 4, 3) := by decide +kernel
theorem d_Mod_extents_28 : decode b_Mod_extents 28 = .ok (.iconst 0, 1) := by decide +kernel
theorem d_Mod_extents_29 : decode b_Mod_extents 29 = .ok (.iadd, 1) := by decide +kernel
theorem d_Mod_extents_30 : decode b_Mod_extents 30 = .ok (.istore_n 2, 1) := by decide +kernel
theorem d_Mod_extents_31 : decode b_Mod_extents 31 = .ok (.iinc 3 1, 3) := by decide +kernel
theorem d_Mod_extents_34 : decode b_Mod_extents 34 = .ok (.goto (-30), 3) := by decide +kernel
theorem d_Mod_extents_37 : decode b_Mod_extents 37 = .ok (.iload_n 2, 1) := by decide +kernel
theorem d_Mod_extents_38 : decode b_Mod_extents 38 = .ok (.ireturn, 1) := by decide +kernel
def m_Mod_extents_4 : Nat → Int → Int → Int → (Int → Int) → (Int → Int) → Option (Int)
  | 0, _, _, _, _, _ => none
  | fuel + 1, v1, v2, v3, m_block, m_written =>
  clt v3 24 (bnd (m_Mod_beginsExtent ((24 * v1) + v3) m_block m_written) (fun r1 => ceq r1 0 (m_Mod_extents_4 fuel v1 (v2 + 0) (v3 + 1) m_block m_written) (m_Mod_extents_4 fuel v1 (v2 + 1) (v3 + 1) m_block m_written))) (some (v2))
def m_Mod_extents (x1 : Int) (m_block : Int → Int) (m_written : Int → Int) : Option (Int) :=
  m_Mod_extents_4 5000 x1 0 0 m_block m_written
set_option maxHeartbeats 4000000 in
set_option maxRecDepth 100000 in
theorem l_Mod_extents_4 {G : GT} {l : Launch} {D : va_G} {cI cB : ClassId} {a0 a1 a2 a3 a4 a5 a6 a7 a8 a9 a10 a11 a12 a13 a14 a15 : Nat} {m_stepsMade : Int} {m_stepsMost : Int} {m_taped : Int} {m_reading : Int} {m_statements : Int} {m_telling : Int} {m_hasImage : Int} {m_isKeeping : Int} {m_cursor : Int} {m_rowMany : Int} {m_lots : Int} {m_refused : Int → Int} {m_bytes : Int → Int} {m_owner : Int → Int} {m_waits : Int → Int} {m_kinds : Int → Int} {m_tape : Int → Int} {m_sort : Int → Int} {m_sortAt : Int → Int} {m_told : Int → Int} {m_kept : Int → Int} {m_was : Int → Int} {m_ends : Int → Int} {m_row : Int → Int} (X : Cx G l D cI cB b_Mod_extents y_Mod_extents.cls 4 { frames := 2, cells := 0, slots := 0, locals := 42 }) : ∀ (fuel : Nat) (v1 : Int) (v2 : Int) (v3 : Int) (m_block : Int → Int) (m_written : Int → Int) (o : Int), m_Mod_extents_4 fuel v1 v2 v3 m_block m_written = some o → Rt G (some .int) (some (.int (zi o))) (w_Mod cI cB a0 a1 a2 a3 a4 a5 a6 a7 a8 a9 a10 a11 a12 a13 a14 a15 m_stepsMade m_stepsMost m_taped m_reading m_statements m_telling m_hasImage m_isKeeping m_cursor m_rowMany m_lots m_refused m_bytes m_owner m_block m_written m_waits m_kinds m_tape m_sort m_sortAt m_told m_kept m_was m_ends m_row) → Wx G 0 0 4 [(0, .ref a0), (1, .int (zi v1)), (2, .int (zi v2)), (3, .int (zi v3))] [] (w_Mod cI cB a0 a1 a2 a3 a4 a5 a6 a7 a8 a9 a10 a11 a12 a13 a14 a15 m_stepsMade m_stepsMost m_taped m_reading m_statements m_telling m_hasImage m_isKeeping m_cursor m_rowMany m_lots m_refused m_bytes m_owner m_block m_written m_waits m_kinds m_tape m_sort m_sortAt m_told m_kept m_was m_ends m_row) := by
  intro fuel
  induction fuel with
  | zero =>
    intro v1 v2 v3 m_block m_written o h
    exact absurd h (by simp [m_Mod_extents_4])
  | succ fuel ih =>
    intro v1 v2 v3 m_block m_written o h hR
    rw [m_Mod_extents_4] at h
    refine x_iload_n (pc := 4) X d_Mod_extents_4 3 rfl rfl ?_
    refine x_bipush (pc := 5) (v := 24) X d_Mod_extents_5 rfl ?_
    refine x_icmpge (pc := 7) (tgt := 37) X d_Mod_extents_7 rfl h (fun h => ?_) (fun h => ?_)
    · skip
      refine x_iload_n (pc := 37) X d_Mod_extents_37 2 rfl rfl ?_
      cases h
      exact x_iret (pc := 38) X hR d_Mod_extents_38
    · skip
      refine x_iload_n (pc := 10) X d_Mod_extents_10 2 rfl rfl ?_
      refine x_aload_n (pc := 11) X d_Mod_extents_11 0 rfl rfl ?_
      refine x_bipush (pc := 12) (v := 24) X d_Mod_extents_12 rfl ?_
      refine x_iload_n (pc := 14) X d_Mod_extents_14 1 rfl rfl ?_
      refine x_imul (pc := 15) X d_Mod_extents_15  ?_
      refine x_iload_n (pc := 16) X d_Mod_extents_16 3 rfl rfl ?_
      refine x_iadd (pc := 17) X d_Mod_extents_17  ?_
      obtain ⟨r1, h2, h⟩ := bnd_e h
      refine x_callV (pc := 18) (As := [.int (zi ((24 * v1) + v3))]) (rest := [.int (zi v2)]) (w2 := (w_Mod cI cB a0 a1 a2 a3 a4 a5 a6 a7 a8 a9 a10 a11 a12 a13 a14 a15 m_stepsMade m_stepsMost m_taped m_reading m_statements m_telling m_hasImage m_isKeeping m_cursor m_rowMany m_lots m_refused m_bytes m_owner m_block m_written m_waits m_kinds m_tape m_sort m_sortAt m_told m_kept m_was m_ends m_row)) X d_Mod_extents_18 lk_Mod_79 mv_Mod_beginsExtent (c_Mod_beginsExtent l D cI cB a0 a1 a2 a3 a4 a5 a6 a7 a8 a9 a10 a11 a12 a13 a14 a15 m_stepsMade m_stepsMost m_taped m_reading m_statements m_telling m_hasImage m_isKeeping m_cursor m_rowMany m_lots m_refused m_bytes m_owner m_block m_written m_waits m_kinds m_tape m_sort m_sortAt m_told m_kept m_was m_ends m_row ((24 * v1) + v3) h2) ⟨(Nat.le_of_ble_eq_true rfl), (Nat.le_of_ble_eq_true rfl), (Nat.le_of_ble_eq_true rfl), (Nat.le_of_ble_eq_true rfl)⟩ 0 rfl rfl [0, 1, 2, 3, 4, 5, 6, 7, 8, 9, 10, 11, 12, 13, 14, 15] rfl rfl rfl (Up.same rfl) rfl rfl (Nat.le_of_ble_eq_true rfl) ?_
      refine x_ifeq (pc := 21) (tgt := 28) X d_Mod_extents_21 rfl h (fun h => ?_) (fun h => ?_)
      · skip
        refine x_iconst (pc := 28) X d_Mod_extents_28  ?_
        refine x_iadd (pc := 29) X d_Mod_extents_29  ?_
        refine x_istore_n (pc := 30) (ls2 := [(2, .int (zi (v2 + 0))), (0, .ref a0), (1, .int (zi v1)), (3, .int (zi v3))]) X d_Mod_extents_30 rfl (Nat.le_of_ble_eq_true rfl) rfl ?_
        refine x_iinc (pc := 31) (ls2 := [(3, .int (zi (v3 + 1))), (2, .int (zi (v2 + 0))), (0, .ref a0), (1, .int (zi v1))]) X d_Mod_extents_31 3 (Nat.le_of_ble_eq_true rfl) rfl rfl ?_
        refine x_goto (pc := 34) (tgt := 4) X d_Mod_extents_34 rfl ?_
        refine x_ls (ls2 := [(0, .ref a0), (1, .int (zi v1)), (2, .int (zi (v2 + 0))), (3, .int (zi (v3 + 1)))]) [2, 3, 1, 0] rfl ?_
        exact ih v1 (v2 + 0) (v3 + 1) m_block m_written o h hR
      · skip
        refine x_iconst (pc := 24) X d_Mod_extents_24  ?_
        refine x_goto (pc := 25) (tgt := 29) X d_Mod_extents_25 rfl ?_
        refine x_iadd (pc := 29) X d_Mod_extents_29  ?_
        refine x_istore_n (pc := 30) (ls2 := [(2, .int (zi (v2 + 1))), (0, .ref a0), (1, .int (zi v1)), (3, .int (zi v3))]) X d_Mod_extents_30 rfl (Nat.le_of_ble_eq_true rfl) rfl ?_
        refine x_iinc (pc := 31) (ls2 := [(3, .int (zi (v3 + 1))), (2, .int (zi (v2 + 1))), (0, .ref a0), (1, .int (zi v1))]) X d_Mod_extents_31 3 (Nat.le_of_ble_eq_true rfl) rfl rfl ?_
        refine x_goto (pc := 34) (tgt := 4) X d_Mod_extents_34 rfl ?_
        refine x_ls (ls2 := [(0, .ref a0), (1, .int (zi v1)), (2, .int (zi (v2 + 1))), (3, .int (zi (v3 + 1)))]) [2, 3, 1, 0] rfl ?_
        exact ih v1 (v2 + 1) (v3 + 1) m_block m_written o h hR
set_option maxHeartbeats 4000000 in
set_option maxRecDepth 100000 in
theorem c_Mod_extents (l : Launch) (D : va_G) (cI cB : ClassId) (a0 a1 a2 a3 a4 a5 a6 a7 a8 a9 a10 a11 a12 a13 a14 a15 : Nat) (m_stepsMade : Int) (m_stepsMost : Int) (m_taped : Int) (m_reading : Int) (m_statements : Int) (m_telling : Int) (m_hasImage : Int) (m_isKeeping : Int) (m_cursor : Int) (m_rowMany : Int) (m_lots : Int) (m_refused : Int → Int) (m_bytes : Int → Int) (m_owner : Int → Int) (m_block : Int → Int) (m_written : Int → Int) (m_waits : Int → Int) (m_kinds : Int → Int) (m_tape : Int → Int) (m_sort : Int → Int) (m_sortAt : Int → Int) (m_told : Int → Int) (m_kept : Int → Int) (m_was : Int → Int) (m_ends : Int → Int) (m_row : Int → Int) (x1 : Int) {o : Int} (h : m_Mod_extents x1 m_block m_written = some o) : Ct l D cI cB y_Mod_extents b_Mod_extents 4 (some .int) { frames := 2, cells := 0, slots := 0, locals := 42 } [.ref a0, .int (zi x1)] (w_Mod cI cB a0 a1 a2 a3 a4 a5 a6 a7 a8 a9 a10 a11 a12 a13 a14 a15 m_stepsMade m_stepsMost m_taped m_reading m_statements m_telling m_hasImage m_isKeeping m_cursor m_rowMany m_lots m_refused m_bytes m_owner m_block m_written m_waits m_kinds m_tape m_sort m_sortAt m_told m_kept m_was m_ends m_row) (w_Mod cI cB a0 a1 a2 a3 a4 a5 a6 a7 a8 a9 a10 a11 a12 a13 a14 a15 m_stepsMade m_stepsMost m_taped m_reading m_statements m_telling m_hasImage m_isKeeping m_cursor m_rowMany m_lots m_refused m_bytes m_owner m_block m_written m_waits m_kinds m_tape m_sort m_sortAt m_told m_kept m_was m_ends m_row) (some (.int (zi o))) := by
  refine Ct.start (by decide) (Nat.le_of_ble_eq_true rfl) (fun G X hR => ?_)
  refine x_ls (ls2 := [(0, .ref a0), (1, .int (zi x1))]) [0, 1] rfl ?_
  unfold m_Mod_extents at h
  refine x_iconst (pc := 0) X d_Mod_extents_0  ?_
  refine x_istore_n (pc := 1) (ls2 := [(2, .int (zi 0)), (0, .ref a0), (1, .int (zi x1))]) X d_Mod_extents_1 rfl (Nat.le_of_ble_eq_true rfl) rfl ?_
  refine x_iconst (pc := 2) X d_Mod_extents_2  ?_
  refine x_istore_n (pc := 3) (ls2 := [(3, .int (zi 0)), (2, .int (zi 0)), (0, .ref a0), (1, .int (zi x1))]) X d_Mod_extents_3 rfl (Nat.le_of_ble_eq_true rfl) rfl ?_
  refine x_ls (ls2 := [(0, .ref a0), (1, .int (zi x1)), (2, .int (zi 0)), (3, .int (zi 0))]) [2, 3, 1, 0] rfl ?_
  exact l_Mod_extents_4 X 5000 x1 0 0 m_block m_written o h hR
theorem d_Mod_waitingOf_0 : decode b_Mod_waitingOf 0 = .ok (.iconst 0, 1) := by decide +kernel
theorem d_Mod_waitingOf_1 : decode b_Mod_waitingOf 1 = .ok (.istore_n 3, 1) := by decide +kernel
theorem d_Mod_waitingOf_2 : decode b_Mod_waitingOf 2 = .ok (.bipush 24, 2) := by decide +kernel
theorem d_Mod_waitingOf_4 : decode b_Mod_waitingOf 4 = .ok (.iload_n 1, 1) := by decide +kernel
theorem d_Mod_waitingOf_5 : decode b_Mod_waitingOf 5 = .ok (.imul, 1) := by decide +kernel
theorem d_Mod_waitingOf_6 : decode b_Mod_waitingOf 6 = .ok (.istore 4, 2) := by decide +kernel
theorem d_Mod_waitingOf_8 : decode b_Mod_waitingOf 8 = .ok (.iload 4, 2) := by decide +kernel
theorem d_Mod_waitingOf_10 : decode b_Mod_waitingOf 10 = .ok (.bipush 24, 2) := by decide +kernel
theorem d_Mod_waitingOf_12 : decode b_Mod_waitingOf 12 = .ok (.iload_n 1, 1) := by decide +kernel
theorem d_Mod_waitingOf_13 : decode b_Mod_waitingOf 13 = .ok (.imul, 1) := by decide +kernel
theorem d_Mod_waitingOf_14 : decode b_Mod_waitingOf 14 = .ok (.bipush 24, 2) := by decide +kernel
theorem d_Mod_waitingOf_16 : decode b_Mod_waitingOf 16 = .ok (.iadd, 1) := by decide +kernel
theorem d_Mod_waitingOf_17 : decode b_Mod_waitingOf 17 = .ok (.if_icmp .ge 39, 3) := by decide +kernel
theorem d_Mod_waitingOf_20 : decode b_Mod_waitingOf 20 = .ok (.iload_n 3, 1) := by decide +kernel
theorem d_Mod_waitingOf_21 : decode b_Mod_waitingOf 21 = .ok (.aload_n 0, 1) := by decide +kernel
theorem d_Mod_waitingOf_22 : decode b_Mod_waitingOf 22 = .ok (.iload 4, 2) := by decide +kernel
theorem d_Mod_waitingOf_24 : decode b_Mod_waitingOf 24 = .ok (.invokevirtual 66, 3) := by decide +kernel
theorem d_Mod_waitingOf_27 : decode b_Mod_waitingOf 27 = .ok (.ifCond .eq 20, 3) := by decide +kernel
theorem d_Mod_waitingOf_30 : decode b_Mod_waitingOf 30 = .ok (.iload_n 2, 1) := by decide +kernel
theorem d_Mod_waitingOf_31 : decode b_Mod_waitingOf 31 = .ok (.ifCond .eq 12, 3) := by decide +kernel
theorem d_Mod_waitingOf_34 : decode b_Mod_waitingOf 34 = .ok (.aload_n 0, 1) := by decide +kernel
theorem d_Mod_waitingOf_35 : decode b_Mod_waitingOf 35 = .ok (.iload 4, 2) := by decide +kernel
theorem d_Mod_waitingOf_37 : decode b_Mod_waitingOf 37 = .ok (.invokevirtual 62, 3) := by decide +kernel
theorem d_Mod_waitingOf_40 : decode b_Mod_waitingOf 40 = .ok (.ifCond .ne 7, 3) := by decide +kernel
theorem d_Mod_waitingOf_43 : decode b_Mod_waitingOf 43 = .ok (.iconst 1, 1) := by decide +kernel
theorem d_Mod_waitingOf_44 : decode b_Mod_waitingOf 44 = .ok (.goto 4, 3) := by decide +kernel
theorem d_Mod_waitingOf_47 : decode b_Mod_waitingOf 47 = .ok (.iconst 0, 1) := by decide +kernel
theorem d_Mod_waitingOf_48 : decode b_Mod_waitingOf 48 = .ok (.iadd, 1) := by decide +kernel
theorem d_Mod_waitingOf_49 : decode b_Mod_waitingOf 49 = .ok (.istore_n 3, 1) := by decide +kernel
theorem d_Mod_waitingOf_50 : decode b_Mod_waitingOf 50 = .ok (.iinc 4 1, 3) := by decide +kernel
theorem d_Mod_waitingOf_53 : decode b_Mod_waitingOf 53 = .ok (.goto (-45), 3) := by decide +kernel
theorem d_Mod_waitingOf_56 : decode b_Mod_waitingOf 56 = .ok (.iload_n 3, 1) := by decide +kernel
theorem d_Mod_waitingOf_57 : decode b_Mod_waitingOf 57 = .ok (.ireturn, 1) := by decide +kernel
def m_Mod_waitingOf_8 : Nat → Int → Int → Int → Int → (Int → Int) → (Int → Int) → Option (Int)
  | 0, _, _, _, _, _, _ => none
  | fuel + 1, v1, v2, v3, v4, m_block, m_waits =>
  clt v4 ((24 * v1) + 24) (bnd (m_Mod_isWaiting v4 m_waits) (fun r1 => ceq r1 0 (m_Mod_waitingOf_8 fuel v1 v2 (v3 + 0) (v4 + 1) m_block m_waits) (ceq v2 0 (m_Mod_waitingOf_8 fuel v1 v2 (v3 + 1) (v4 + 1) m_block m_waits) (bnd (m_Mod_isPlaced v4 m_block) (fun r3 => ceq r3 0 (m_Mod_waitingOf_8 fuel v1 v2 (v3 + 1) (v4 + 1) m_block m_waits) (m_Mod_waitingOf_8 fuel v1 v2 (v3 + 0) (v4 + 1) m_block m_waits)))))) (some (v3))
def m_Mod_waitingOf (x1 : Int) (x2 : Int) (m_block : Int → Int) (m_waits : Int → Int) : Option (Int) :=
  m_Mod_waitingOf_8 5000 x1 x2 0 (24 * x1) m_block m_waits
set_option maxHeartbeats 4000000 in
set_option maxRecDepth 100000 in
theorem l_Mod_waitingOf_8 {G : GT} {l : Launch} {D : va_G} {cI cB : ClassId} {a0 a1 a2 a3 a4 a5 a6 a7 a8 a9 a10 a11 a12 a13 a14 a15 : Nat} {m_stepsMade : Int} {m_stepsMost : Int} {m_taped : Int} {m_reading : Int} {m_statements : Int} {m_telling : Int} {m_hasImage : Int} {m_isKeeping : Int} {m_cursor : Int} {m_rowMany : Int} {m_lots : Int} {m_refused : Int → Int} {m_bytes : Int → Int} {m_owner : Int → Int} {m_written : Int → Int} {m_kinds : Int → Int} {m_tape : Int → Int} {m_sort : Int → Int} {m_sortAt : Int → Int} {m_told : Int → Int} {m_kept : Int → Int} {m_was : Int → Int} {m_ends : Int → Int} {m_row : Int → Int} (X : Cx G l D cI cB b_Mod_waitingOf y_Mod_waitingOf.cls 5 { frames := 1, cells := 0, slots := 0, locals := 21 }) : ∀ (fuel : Nat) (v1 : Int) (v2 : Int) (v3 : Int) (v4 : Int) (m_block : Int → Int) (m_waits : Int → Int) (o : Int), m_Mod_waitingOf_8 fuel v1 v2 v3 v4 m_block m_waits = some o → Rt G (some .int) (some (.int (zi o))) (w_Mod cI cB a0 a1 a2 a3 a4 a5 a6 a7 a8 a9 a10 a11 a12 a13 a14 a15 m_stepsMade m_stepsMost m_taped m_reading m_statements m_telling m_hasImage m_isKeeping m_cursor m_rowMany m_lots m_refused m_bytes m_owner m_block m_written m_waits m_kinds m_tape m_sort m_sortAt m_told m_kept m_was m_ends m_row) → Wx G 0 0 8 [(0, .ref a0), (1, .int (zi v1)), (2, .int (zi v2)), (3, .int (zi v3)), (4, .int (zi v4))] [] (w_Mod cI cB a0 a1 a2 a3 a4 a5 a6 a7 a8 a9 a10 a11 a12 a13 a14 a15 m_stepsMade m_stepsMost m_taped m_reading m_statements m_telling m_hasImage m_isKeeping m_cursor m_rowMany m_lots m_refused m_bytes m_owner m_block m_written m_waits m_kinds m_tape m_sort m_sortAt m_told m_kept m_was m_ends m_row) := by
  intro fuel
  induction fuel with
  | zero =>
    intro v1 v2 v3 v4 m_block m_waits o h
    exact absurd h (by simp [m_Mod_waitingOf_8])
  | succ fuel ih =>
    intro v1 v2 v3 v4 m_block m_waits o h hR
    rw [m_Mod_waitingOf_8] at h
    refine x_iload (pc := 8) X d_Mod_waitingOf_8 4 rfl ?_
    refine x_bipush (pc := 10) (v := 24) X d_Mod_waitingOf_10 rfl ?_
    refine x_iload_n (pc := 12) X d_Mod_waitingOf_12 1 rfl rfl ?_
    refine x_imul (pc := 13) X d_Mod_waitingOf_13  ?_
    refine x_bipush (pc := 14) (v := 24) X d_Mod_waitingOf_14 rfl ?_
    refine x_iadd (pc := 16) X d_Mod_waitingOf_16  ?_
    refine x_icmpge (pc := 17) (tgt := 56) X d_Mod_waitingOf_17 rfl h (fun h => ?_) (fun h => ?_)
    · skip
      refine x_iload_n (pc := 56) X d_Mod_waitingOf_56 3 rfl rfl ?_
      cases h
      exact x_iret (pc := 57) X hR d_Mod_waitingOf_57
    · skip
      refine x_iload_n (pc := 20) X d_Mod_waitingOf_20 3 rfl rfl ?_
      refine x_aload_n (pc := 21) X d_Mod_waitingOf_21 0 rfl rfl ?_
      refine x_iload (pc := 22) X d_Mod_waitingOf_22 4 rfl ?_
      obtain ⟨r1, h2, h⟩ := bnd_e h
      refine x_callV (pc := 24) (As := [.int (zi v4)]) (rest := [.int (zi v3)]) (w2 := (w_Mod cI cB a0 a1 a2 a3 a4 a5 a6 a7 a8 a9 a10 a11 a12 a13 a14 a15 m_stepsMade m_stepsMost m_taped m_reading m_statements m_telling m_hasImage m_isKeeping m_cursor m_rowMany m_lots m_refused m_bytes m_owner m_block m_written m_waits m_kinds m_tape m_sort m_sortAt m_told m_kept m_was m_ends m_row)) X d_Mod_waitingOf_24 lk_Mod_66 mv_Mod_isWaiting (c_Mod_isWaiting l D cI cB a0 a1 a2 a3 a4 a5 a6 a7 a8 a9 a10 a11 a12 a13 a14 a15 m_stepsMade m_stepsMost m_taped m_reading m_statements m_telling m_hasImage m_isKeeping m_cursor m_rowMany m_lots m_refused m_bytes m_owner m_block m_written m_waits m_kinds m_tape m_sort m_sortAt m_told m_kept m_was m_ends m_row v4 h2) ⟨(Nat.le_of_ble_eq_true rfl), (Nat.le_of_ble_eq_true rfl), (Nat.le_of_ble_eq_true rfl), (Nat.le_of_ble_eq_true rfl)⟩ 0 rfl rfl [0, 1, 2, 3, 4, 5, 6, 7, 8, 9, 10, 11, 12, 13, 14, 15] rfl rfl rfl (Up.same rfl) rfl rfl (Nat.le_of_ble_eq_true rfl) ?_
      refine x_ifeq (pc := 27) (tgt := 47) X d_Mod_waitingOf_27 rfl h (fun h => ?_) (fun h => ?_)
      · skip
        refine x_iconst (pc := 47) X d_Mod_waitingOf_47  ?_
        refine x_iadd (pc := 48) X d_Mod_waitingOf_48  ?_
        refine x_istore_n (pc := 49) (ls2 := [(3, .int (zi (v3 + 0))), (0, .ref a0), (1, .int (zi v1)), (2, .int (zi v2)), (4, .int (zi v4))]) X d_Mod_waitingOf_49 rfl (Nat.le_of_ble_eq_true rfl) rfl ?_
        refine x_iinc (pc := 50) (ls2 := [(4, .int (zi (v4 + 1))), (3, .int (zi (v3 + 0))), (0, .ref a0), (1, .int (zi v1)), (2, .int (zi v2))]) X d_Mod_waitingOf_50 4 (Nat.le_of_ble_eq_true rfl) rfl rfl ?_
        refine x_goto (pc := 53) (tgt := 8) X d_Mod_waitingOf_53 rfl ?_
        refine x_ls (ls2 := [(0, .ref a0), (1, .int (zi v1)), (2, .int (zi v2)), (3, .int (zi (v3 + 0))), (4, .int (zi (v4 + 1)))]) [2, 3, 4, 1, 0] rfl ?_
        exact ih v1 v2 (v3 + 0) (v4 + 1) m_block m_waits o h hR
      · skip
        refine x_iload_n (pc := 30) X d_Mod_waitingOf_30 2 rfl rfl ?_
        refine x_ifeq (pc := 31) (tgt := 43) X d_Mod_waitingOf_31 rfl h (fun h => ?_) (fun h => ?_)
        · skip
          refine x_iconst (pc := 43) X d_Mod_waitingOf_43  ?_
          refine x_goto (pc := 44) (tgt := 48) X d_Mod_waitingOf_44 rfl ?_
          refine x_iadd (pc := 48) X d_Mod_waitingOf_48  ?_
          refine x_istore_n (pc := 49) (ls2 := [(3, .int (zi (v3 + 1))), (0, .ref a0), (1, .int (zi v1)), (2, .int (zi v2)), (4, .int (zi v4))]) X d_Mod_waitingOf_49 rfl (Nat.le_of_ble_eq_true rfl) rfl ?_
          refine x_iinc (pc := 50) (ls2 := [(4, .int (zi (v4 + 1))), (3, .int (zi (v3 + 1))), (0, .ref a0), (1, .int (zi v1)), (2, .int (zi v2))]) X d_Mod_waitingOf_50 4 (Nat.le_of_ble_eq_true rfl) rfl rfl ?_
          refine x_goto (pc := 53) (tgt := 8) X d_Mod_waitingOf_53 rfl ?_
          refine x_ls (ls2 := [(0, .ref a0), (1, .int (zi v1)), (2, .int (zi v2)), (3, .int (zi (v3 + 1))), (4, .int (zi (v4 + 1)))]) [2, 3, 4, 1, 0] rfl ?_
          exact ih v1 v2 (v3 + 1) (v4 + 1) m_block m_waits o h hR
        · skip
          refine x_aload_n (pc := 34) X d_Mod_waitingOf_34 0 rfl rfl ?_
          refine x_iload (pc := 35) X d_Mod_waitingOf_35 4 rfl ?_
          obtain ⟨r3, h4, h⟩ := bnd_e h
          refine x_callV (pc := 37) (As := [.int (zi v4)]) (rest := [.int (zi v3)]) (w2 := (w_Mod cI cB a0 a1 a2 a3 a4 a5 a6 a7 a8 a9 a10 a11 a12 a13 a14 a15 m_stepsMade m_stepsMost m_taped m_reading m_statements m_telling m_hasImage m_isKeeping m_cursor m_rowMany m_lots m_refused m_bytes m_owner m_block m_written m_waits m_kinds m_tape m_sort m_sortAt m_told m_kept m_was m_ends m_row)) X d_Mod_waitingOf_37 lk_Mod_62 mv_Mod_isPlaced (c_Mod_isPlaced l D cI cB a0 a1 a2 a3 a4 a5 a6 a7 a8 a9 a10 a11 a12 a13 a14 a15 m_stepsMade m_stepsMost m_taped m_reading m_statements m_telling m_hasImage m_isKeeping m_cursor m_rowMany m_lots m_refused m_bytes m_owner m_block m_written m_waits m_kinds m_tape m_sort m_sortAt m_told m_kept m_was m_ends m_row v4 h4) ⟨(Nat.le_of_ble_eq_true rfl), (Nat.le_of_ble_eq_true rfl), (Nat.le_of_ble_eq_true rfl), (Nat.le_of_ble_eq_true rfl)⟩ 0 rfl rfl [0, 1, 2, 3, 4, 5, 6, 7, 8, 9, 10, 11, 12, 13, 14, 15] rfl rfl rfl (Up.same rfl) rfl rfl (Nat.le_of_ble_eq_true rfl) ?_
          refine x_ifne (pc := 40) (tgt := 47) X d_Mod_waitingOf_40 rfl h (fun h => ?_) (fun h => ?_)
          · skip
            refine x_iconst (pc := 47) X d_Mod_waitingOf_47  ?_
            refine x_iadd (pc := 48) X d_Mod_waitingOf_48  ?_
            refine x_istore_n (pc := 49) (ls2 := [(3, .int (zi (v3 + 0))), (0, .ref a0), (1, .int (zi v1)), (2, .int (zi v2)), (4, .int (zi v4))]) X d_Mod_waitingOf_49 rfl (Nat.le_of_ble_eq_true rfl) rfl ?_
            refine x_iinc (pc := 50) (ls2 := [(4, .int (zi (v4 + 1))), (3, .int (zi (v3 + 0))), (0, .ref a0), (1, .int (zi v1)), (2, .int (zi v2))]) X d_Mod_waitingOf_50 4 (Nat.le_of_ble_eq_true rfl) rfl rfl ?_
            refine x_goto (pc := 53) (tgt := 8) X d_Mod_waitingOf_53 rfl ?_
            refine x_ls (ls2 := [(0, .ref a0), (1, .int (zi v1)), (2, .int (zi v2)), (3, .int (zi (v3 + 0))), (4, .int (zi (v4 + 1)))]) [2, 3, 4, 1, 0] rfl ?_
            exact ih v1 v2 (v3 + 0) (v4 + 1) m_block m_waits o h hR
          · skip
            refine x_iconst (pc := 43) X d_Mod_waitingOf_43  ?_
            refine x_goto (pc := 44) (tgt := 48) X d_Mod_waitingOf_44 rfl ?_
            refine x_iadd (pc := 48) X d_Mod_waitingOf_48  ?_
            refine x_istore_n (pc := 49) (ls2 := [(3, .int (zi (v3 + 1))), (0, .ref a0), (1, .int (zi v1)), (2, .int (zi v2)), (4, .int (zi v4))]) X d_Mod_waitingOf_49 rfl (Nat.le_of_ble_eq_true rfl) rfl ?_
            refine x_iinc (pc := 50) (ls2 := [(4, .int (zi (v4 + 1))), (3, .int (zi (v3 + 1))), (0, .ref a0), (1, .int (zi v1)), (2, .int (zi v2))]) X d_Mod_waitingOf_50 4 (Nat.le_of_ble_eq_true rfl) rfl rfl ?_
            refine x_goto (pc := 53) (tgt := 8) X d_Mod_waitingOf_53 rfl ?_
            refine x_ls (ls2 := [(0, .ref a0), (1, .int (zi v1)), (2, .int (zi v2)), (3, .int (zi (v3 + 1))), (4, .int (zi (v4 + 1)))]) [2, 3, 4, 1, 0] rfl ?_
            exact ih v1 v2 (v3 + 1) (v4 + 1) m_block m_waits o h hR
set_option maxHeartbeats 4000000 in
set_option maxRecDepth 100000 in
theorem c_Mod_waitingOf (l : Launch) (D : va_G) (cI cB : ClassId) (a0 a1 a2 a3 a4 a5 a6 a7 a8 a9 a10 a11 a12 a13 a14 a15 : Nat) (m_stepsMade : Int) (m_stepsMost : Int) (m_taped : Int) (m_reading : Int) (m_statements : Int) (m_telling : Int) (m_hasImage : Int) (m_isKeeping : Int) (m_cursor : Int) (m_rowMany : Int) (m_lots : Int) (m_refused : Int → Int) (m_bytes : Int → Int) (m_owner : Int → Int) (m_block : Int → Int) (m_written : Int → Int) (m_waits : Int → Int) (m_kinds : Int → Int) (m_tape : Int → Int) (m_sort : Int → Int) (m_sortAt : Int → Int) (m_told : Int → Int) (m_kept : Int → Int) (m_was : Int → Int) (m_ends : Int → Int) (m_row : Int → Int) (x1 : Int) (x2 : Int) {o : Int} (h : m_Mod_waitingOf x1 x2 m_block m_waits = some o) : Ct l D cI cB y_Mod_waitingOf b_Mod_waitingOf 5 (some .int) { frames := 1, cells := 0, slots := 0, locals := 21 } [.ref a0, .int (zi x1), .int (zi x2)] (w_Mod cI cB a0 a1 a2 a3 a4 a5 a6 a7 a8 a9 a10 a11 a12 a13 a14 a15 m_stepsMade m_stepsMost m_taped m_reading m_statements m_telling m_hasImage m_isKeeping m_cursor m_rowMany m_lots m_refused m_bytes m_owner m_block m_written m_waits m_kinds m_tape m_sort m_sortAt m_told m_kept m_was m_ends m_row) (w_Mod cI cB a0 a1 a2 a3 a4 a5 a6 a7 a8 a9 a10 a11 a12 a13 a14 a15 m_stepsMade m_stepsMost m_taped m_reading m_statements m_telling m_hasImage m_isKeeping m_cursor m_rowMany m_lots m_refused m_bytes m_owner m_block m_written m_waits m_kinds m_tape m_sort m_sortAt m_told m_kept m_was m_ends m_row) (some (.int (zi o))) := by
  refine Ct.start (by decide) (Nat.le_of_ble_eq_true rfl) (fun G X hR => ?_)
  refine x_ls (ls2 := [(0, .ref a0), (1, .int (zi x1)), (2, .int (zi x2))]) [0, 1, 2] rfl ?_
  unfold m_Mod_waitingOf at h
  refine x_iconst (pc := 0) X d_Mod_waitingOf_0  ?_
  refine x_istore_n (pc := 1) (ls2 := [(3, .int (zi 0)), (0, .ref a0), (1, .int (zi x1)), (2, .int (zi x2))]) X d_Mod_waitingOf_1 rfl (Nat.le_of_ble_eq_true rfl) rfl ?_
  refine x_bipush (pc := 2) (v := 24) X d_Mod_waitingOf_2 rfl ?_
  refine x_iload_n (pc := 4) X d_Mod_waitingOf_4 2 rfl rfl ?_
  refine x_imul (pc := 5) X d_Mod_waitingOf_5  ?_
  refine x_istore (pc := 6) (ls2 := [(4, .int (zi (24 * x1))), (3, .int (zi 0)), (0, .ref a0), (1, .int (zi x1)), (2, .int (zi x2))]) X d_Mod_waitingOf_6 (Nat.le_of_ble_eq_true rfl) rfl ?_
  refine x_ls (ls2 := [(0, .ref a0), (1, .int (zi x1)), (2, .int (zi x2)), (3, .int (zi 0)), (4, .int (zi (24 * x1)))]) [2, 3, 4, 1, 0] rfl ?_
  exact l_Mod_waitingOf_8 X 5000 x1 x2 0 (24 * x1) m_block m_waits o h hR
theorem d_Mod_file_0 : decode b_Mod_file 0 = .ok (.iload_n 1, 1) := by decide +kernel
theorem d_Mod_file_1 : decode b_Mod_file 1 = .ok (.invokestatic 230, 3) := by decide +kernel
theorem d_Mod_file_4 : decode b_Mod_file 4 = .ok (.ifCond .ne 9, 3) := by decide +kernel
theorem d_Mod_file_7 : decode b_Mod_file 7 = .ok (.aload_n 0, 1) := by decide +kernel
theorem d_Mod_file_8 : decode b_Mod_file 8 = .ok (.iconst (-1), 1) := by decide +kernel
theorem d_Mod_file_9 : decode b_Mod_file 9 = .ok (.invokevirtual 172, 3) := by decide +kernel
theorem d_Mod_file_12 : decode b_Mod_file 12 = .ok (.ireturn, 1) := by decide +kernel
theorem d_Mod_file_13 : decode b_Mod_file 13 = .ok (.iload_n 2, 1) := by decide +kernel
theorem d_Mod_file_14 : decode b_Mod_file 14 = .ok (.tableswitch 90 0 6 #[42, 49, 55, 62, 69, 75, 84], 42) := by decide +kernel
theorem d_Mod_file_56 : decode b_Mod_file 56 = .ok (.aload_n 0, 1) := by decide +kernel
theorem d_Mod_file_57 : decode b_Mod_file 57 = .ok (.getfield 28, 3) := by decide +kernel
theorem d_Mod_file_60 : decode b_Mod_file 60 = .ok (.iload_n 1, 1) := by decide +kernel
theorem d_Mod_file_61 : decode b_Mod_file 61 = .ok (.iaload, 1) := by decide +kernel
theorem d_Mod_file_62 : decode b_Mod_file 62 = .ok (.ireturn, 1) := by decide +kernel
theorem d_Mod_file_63 : decode b_Mod_file 63 = .ok (.aload_n 0, 1) := by decide +kernel
theorem d_Mod_file_64 : decode b_Mod_file 64 = .ok (.iload_n 1, 1) := by decide +kernel
theorem d_Mod_file_65 : decode b_Mod_file 65 = .ok (.invokevirtual 156, 3) := by decide +kernel
theorem d_Mod_file_68 : decode b_Mod_file 68 = .ok (.ireturn, 1) := by decide +kernel
theorem d_Mod_file_69 : decode b_Mod_file 69 = .ok (.aload_n 0, 1) := by decide +kernel
theorem d_Mod_file_70 : decode b_Mod_file 70 = .ok (.iload_n 1, 1) := by decide +kernel
theorem d_Mod_file_71 : decode b_Mod_file 71 = .ok (.iconst 0, 1) := by decide +kernel
theorem d_Mod_file_72 : decode b_Mod_file 72 = .ok (.invokevirtual 272, 3) := by decide +kernel
theorem d_Mod_file_75 : decode b_Mod_file 75 = .ok (.ireturn, 1) := by decide +kernel
theorem d_Mod_file_76 : decode b_Mod_file 76 = .ok (.aload_n 0, 1) := by decide +kernel
theorem d_Mod_file_77 : decode b_Mod_file 77 = .ok (.iload_n 1, 1) := by decide +kernel
theorem d_Mod_file_78 : decode b_Mod_file 78 = .ok (.iconst 1, 1) := by decide +kernel
theorem d_Mod_file_79 : decode b_Mod_file 79 = .ok (.invokevirtual 272, 3) := by decide +kernel
theorem d_Mod_file_82 : decode b_Mod_file 82 = .ok (.ireturn, 1) := by decide +kernel
theorem d_Mod_file_83 : decode b_Mod_file 83 = .ok (.aload_n 0, 1) := by decide +kernel
theorem d_Mod_file_84 : decode b_Mod_file 84 = .ok (.iload_n 1, 1) := by decide +kernel
theorem d_Mod_file_85 : decode b_Mod_file 85 = .ok (.invokevirtual 82, 3) := by decide +kernel
theorem d_Mod_file_88 : decode b_Mod_file 88 = .ok (.ireturn, 1) := by decide +kernel
theorem d_Mod_file_89 : decode b_Mod_file 89 = .ok (.aload_n 0, 1) := by decide +kernel
theorem d_Mod_file_90 : decode b_Mod_file 90 = .ok (.iload_n 1, 1) := by decide +kernel
theorem d_Mod_file_91 : decode b_Mod_file 91 = .ok (.invokevirtual 82, 3) := by decide +kernel
theorem d_Mod_file_94 : decode b_Mod_file 94 = .ok (.invokestatic 276, 3) := by decide +kernel
theorem d_Mod_file_97 : decode b_Mod_file 97 = .ok (.ireturn, 1) := by decide +kernel
theorem d_Mod_file_98 : decode b_Mod_file 98 = .ok (.aload_n 0, 1) := by decide +kernel
theorem d_Mod_file_99 : decode b_Mod_file 99 = .ok (.iload_n 1, 1) := by decide +kernel
theorem d_Mod_file_100 : decode b_Mod_file 100 = .ok (.invokevirtual 279, 3) := by decide +kernel
theorem d_Mod_file_103 : decode b_Mod_file 103 = .ok (.ireturn, 1) := by decide +kernel
theorem d_Mod_file_104 : decode b_Mod_file 104 = .ok (.aload_n 0, 1) := by decide +kernel
theorem d_Mod_file_105 : decode b_Mod_file 105 = .ok (.bipush (-2), 2) := by decide +kernel
theorem d_Mod_file_107 : decode b_Mod_file 107 = .ok (.invokevirtual 172, 3) := by decide +kernel
theorem d_Mod_file_110 : decode b_Mod_file 110 = .ok (.ireturn, 1) := by decide +kernel
def m_Mod_file (x1 : Int) (x2 : Int) (m_refused : Int → Int) (m_block : Int → Int) (m_written : Int → Int) (m_waits : Int → Int) (m_kinds : Int → Int) : Option (Int × (Int → Int)) :=
  bnd (m_Mod_isFile x1) (fun r1 => ceq r1 0 (bnd (m_Mod_no (-1) m_refused) (fun r19 => some (r19.1, r19.2))) (ceq x2 0 (gd (zx x1 4) (some ((m_kinds x1), m_refused))) (ceq x2 1 (bnd (m_Mod_placedOf x1 m_block) (fun r5 => some (r5, m_refused))) (ceq x2 2 (bnd (m_Mod_waitingOf x1 0 m_block m_waits) (fun r7 => some (r7, m_refused))) (ceq x2 3 (bnd (m_Mod_waitingOf x1 1 m_block m_waits) (fun r9 => some (r9, m_refused))) (ceq x2 4 (bnd (m_Mod_extents x1 m_block m_written) (fun r11 => some (r11, m_refused))) (ceq x2 5 (bnd (m_Mod_extents x1 m_block m_written) (fun r13 => bnd (m_Mod_depthOf r13) (fun r15 => some (r15, m_refused)))) (ceq x2 6 (bnd (m_Mod_writtenOf x1 m_written) (fun r17 => some (r17, m_refused))) (bnd (m_Mod_no (-2) m_refused) (fun r3 => some (r3.1, r3.2)))))))))))
set_option maxHeartbeats 4000000 in
set_option maxRecDepth 100000 in
theorem c_Mod_file (l : Launch) (D : va_G) (cI cB : ClassId) (a0 a1 a2 a3 a4 a5 a6 a7 a8 a9 a10 a11 a12 a13 a14 a15 : Nat) (m_stepsMade : Int) (m_stepsMost : Int) (m_taped : Int) (m_reading : Int) (m_statements : Int) (m_telling : Int) (m_hasImage : Int) (m_isKeeping : Int) (m_cursor : Int) (m_rowMany : Int) (m_lots : Int) (m_refused : Int → Int) (m_bytes : Int → Int) (m_owner : Int → Int) (m_block : Int → Int) (m_written : Int → Int) (m_waits : Int → Int) (m_kinds : Int → Int) (m_tape : Int → Int) (m_sort : Int → Int) (m_sortAt : Int → Int) (m_told : Int → Int) (m_kept : Int → Int) (m_was : Int → Int) (m_ends : Int → Int) (m_row : Int → Int) (x1 : Int) (x2 : Int) {o : Int × (Int → Int)} (h : m_Mod_file x1 x2 m_refused m_block m_written m_waits m_kinds = some o) : Ct l D cI cB y_Mod_file b_Mod_file 3 (some .int) { frames := 3, cells := 0, slots := 0, locals := 65 } [.ref a0, .int (zi x1), .int (zi x2)] (w_Mod cI cB a0 a1 a2 a3 a4 a5 a6 a7 a8 a9 a10 a11 a12 a13 a14 a15 m_stepsMade m_stepsMost m_taped m_reading m_statements m_telling m_hasImage m_isKeeping m_cursor m_rowMany m_lots m_refused m_bytes m_owner m_block m_written m_waits m_kinds m_tape m_sort m_sortAt m_told m_kept m_was m_ends m_row) (w_Mod cI cB a0 a1 a2 a3 a4 a5 a6 a7 a8 a9 a10 a11 a12 a13 a14 a15 m_stepsMade m_stepsMost m_taped m_reading m_statements m_telling m_hasImage m_isKeeping m_cursor m_rowMany m_lots o.2 m_bytes m_owner m_block m_written m_waits m_kinds m_tape m_sort m_sortAt m_told m_kept m_was m_ends m_row) (some (.int (zi o.1))) := by
  refine Ct.start (by decide) (Nat.le_of_ble_eq_true rfl) (fun G X hR => ?_)
  refine x_ls (ls2 := [(0, .ref a0), (1, .int (zi x1)), (2, .int (zi x2))]) [0, 1, 2] rfl ?_
  unfold m_Mod_file at h
  refine x_iload_n (pc := 0) X d_Mod_file_0 1 rfl rfl ?_
  obtain ⟨r1, h2, h⟩ := bnd_e h
  refine x_callS (pc := 1) (As := [.int (zi x1)]) (rest := []) (w2 := (w_Mod cI cB a0 a1 a2 a3 a4 a5 a6 a7 a8 a9 a10 a11 a12 a13 a14 a15 m_stepsMade m_stepsMost m_taped m_reading m_statements m_telling m_hasImage m_isKeeping m_cursor m_rowMany m_lots m_refused m_bytes m_owner m_block m_written m_waits m_kinds m_tape m_sort m_sortAt m_told m_kept m_was m_ends m_row)) X d_Mod_file_1 lk_Mod_230 mv_Mod_isFile (c_Mod_isFile l D cI cB x1 h2) ⟨(Nat.le_of_ble_eq_true rfl), (Nat.le_of_ble_eq_true rfl), (Nat.le_of_ble_eq_true rfl), (Nat.le_of_ble_eq_true rfl)⟩ [] rfl rfl rfl (Up.same rfl) rfl rfl (Nat.le_of_ble_eq_true rfl) ?_
  refine x_ifne (pc := 4) (tgt := 13) X d_Mod_file_4 rfl h (fun h => ?_) (fun h => ?_)
  · skip
    refine x_iload_n (pc := 13) X d_Mod_file_13 2 rfl rfl ?_
    obtain ⟨hz, h⟩ := ceq_e h
    rcases h with ⟨e0, h⟩ | ⟨n0, h⟩
    · refine x_tsIn (pc := 14) (v := 0) (tgt := 56) X d_Mod_file_14 e0 ⟨by decide, by decide⟩ (by decide) (by decide) rfl rfl ?_
      refine x_aload_n (pc := 56) X d_Mod_file_56 0 rfl rfl ?_
      refine x_get (pc := 57) X d_Mod_file_57 0 rfl fl_Mod_28 rfl ?_
      refine x_iload_n (pc := 60) X d_Mod_file_60 1 rfl rfl ?_
      refine x_iald (pc := 61) X d_Mod_file_61 7 rfl (Nat.le_of_ble_eq_true rfl) rfl h (fun h => ?_)
      cases h
      exact x_iret (pc := 62) X hR d_Mod_file_62
    obtain ⟨hz, h⟩ := ceq_e h
    rcases h with ⟨e1, h⟩ | ⟨n1, h⟩
    · refine x_tsIn (pc := 14) (v := 1) (tgt := 63) X d_Mod_file_14 e1 ⟨by decide, by decide⟩ (by decide) (by decide) rfl rfl ?_
      refine x_aload_n (pc := 63) X d_Mod_file_63 0 rfl rfl ?_
      refine x_iload_n (pc := 64) X d_Mod_file_64 1 rfl rfl ?_
      obtain ⟨r5, h6, h⟩ := bnd_e h
      refine x_callV (pc := 65) (As := [.int (zi x1)]) (rest := []) (w2 := (w_Mod cI cB a0 a1 a2 a3 a4 a5 a6 a7 a8 a9 a10 a11 a12 a13 a14 a15 m_stepsMade m_stepsMost m_taped m_reading m_statements m_telling m_hasImage m_isKeeping m_cursor m_rowMany m_lots m_refused m_bytes m_owner m_block m_written m_waits m_kinds m_tape m_sort m_sortAt m_told m_kept m_was m_ends m_row)) X d_Mod_file_65 lk_Mod_156 mv_Mod_placedOf (c_Mod_placedOf l D cI cB a0 a1 a2 a3 a4 a5 a6 a7 a8 a9 a10 a11 a12 a13 a14 a15 m_stepsMade m_stepsMost m_taped m_reading m_statements m_telling m_hasImage m_isKeeping m_cursor m_rowMany m_lots m_refused m_bytes m_owner m_block m_written m_waits m_kinds m_tape m_sort m_sortAt m_told m_kept m_was m_ends m_row x1 h6) ⟨(Nat.le_of_ble_eq_true rfl), (Nat.le_of_ble_eq_true rfl), (Nat.le_of_ble_eq_true rfl), (Nat.le_of_ble_eq_true rfl)⟩ 0 rfl rfl [0, 1, 2, 3, 4, 5, 6, 7, 8, 9, 10, 11, 12, 13, 14, 15] rfl rfl rfl (Up.same rfl) rfl rfl (Nat.le_of_ble_eq_true rfl) ?_
      cases h
      exact x_iret (pc := 68) X hR d_Mod_file_68
    obtain ⟨hz, h⟩ := ceq_e h
    rcases h with ⟨e2, h⟩ | ⟨n2, h⟩
    · refine x_tsIn (pc := 14) (v := 2) (tgt := 69) X d_Mod_file_14 e2 ⟨by decide, by decide⟩ (by decide) (by decide) rfl rfl ?_
      refine x_aload_n (pc := 69) X d_Mod_file_69 0 rfl rfl ?_
      refine x_iload_n (pc := 70) X d_Mod_file_70 1 rfl rfl ?_
      refine x_iconst (pc := 71) X d_Mod_file_71  ?_
      obtain ⟨r7, h8, h⟩ := bnd_e h
      refine x_callV (pc := 72) (As := [.int (zi x1), .int (zi 0)]) (rest := []) (w2 := (w_Mod cI cB a0 a1 a2 a3 a4 a5 a6 a7 a8 a9 a10 a11 a12 a13 a14 a15 m_stepsMade m_stepsMost m_taped m_reading m_statements m_telling m_hasImage m_isKeeping m_cursor m_rowMany m_lots m_refused m_bytes m_owner m_block m_written m_waits m_kinds m_tape m_sort m_sortAt m_told m_kept m_was m_ends m_row)) X d_Mod_file_72 lk_Mod_272 mv_Mod_waitingOf (c_Mod_waitingOf l D cI cB a0 a1 a2 a3 a4 a5 a6 a7 a8 a9 a10 a11 a12 a13 a14 a15 m_stepsMade m_stepsMost m_taped m_reading m_statements m_telling m_hasImage m_isKeeping m_cursor m_rowMany m_lots m_refused m_bytes m_owner m_block m_written m_waits m_kinds m_tape m_sort m_sortAt m_told m_kept m_was m_ends m_row x1 0 h8) ⟨(Nat.le_of_ble_eq_true rfl), (Nat.le_of_ble_eq_true rfl), (Nat.le_of_ble_eq_true rfl), (Nat.le_of_ble_eq_true rfl)⟩ 0 rfl rfl [0, 1, 2, 3, 4, 5, 6, 7, 8, 9, 10, 11, 12, 13, 14, 15] rfl rfl rfl (Up.same rfl) rfl rfl (Nat.le_of_ble_eq_true rfl) ?_
      cases h
      exact x_iret (pc := 75) X hR d_Mod_file_75
    obtain ⟨hz, h⟩ := ceq_e h
    rcases h with ⟨e3, h⟩ | ⟨n3, h⟩
    · refine x_tsIn (pc := 14) (v := 3) (tgt := 76) X d_Mod_file_14 e3 ⟨by decide, by decide⟩ (by decide) (by decide) rfl rfl ?_
      refine x_aload_n (pc := 76) X d_Mod_file_76 0 rfl rfl ?_
      refine x_iload_n (pc := 77) X d_Mod_file_77 1 rfl rfl ?_
      refine x_iconst (pc := 78) X d_Mod_file_78  ?_
      obtain ⟨r9, h10, h⟩ := bnd_e h
      refine x_callV (pc := 79) (As := [.int (zi x1), .int (zi 1)]) (rest := []) (w2 := (w_Mod cI cB a0 a1 a2 a3 a4 a5 a6 a7 a8 a9 a10 a11 a12 a13 a14 a15 m_stepsMade m_stepsMost m_taped m_reading m_statements m_telling m_hasImage m_isKeeping m_cursor m_rowMany m_lots m_refused m_bytes m_owner m_block m_written m_waits m_kinds m_tape m_sort m_sortAt m_told m_kept m_was m_ends m_row)) X d_Mod_file_79 lk_Mod_272 mv_Mod_waitingOf (c_Mod_waitingOf l D cI cB a0 a1 a2 a3 a4 a5 a6 a7 a8 a9 a10 a11 a12 a13 a14 a15 m_stepsMade m_stepsMost m_taped m_reading m_statements m_telling m_hasImage m_isKeeping m_cursor m_rowMany m_lots m_refused m_bytes m_owner m_block m_written m_waits m_kinds m_tape m_sort m_sortAt m_told m_kept m_was m_ends m_row x1 1 h10) ⟨(Nat.le_of_ble_eq_true rfl), (Nat.le_of_ble_eq_true rfl), (Nat.le_of_ble_eq_true rfl), (Nat.le_of_ble_eq_true rfl)⟩ 0 rfl rfl [0, 1, 2, 3, 4, 5, 6, 7, 8, 9, 10, 11, 12, 13, 14, 15] rfl rfl rfl (Up.same rfl) rfl rfl (Nat.le_of_ble_eq_true rfl) ?_
      cases h
      exact x_iret (pc := 82) X hR d_Mod_file_82
    obtain ⟨hz, h⟩ := ceq_e h
    rcases h with ⟨e4, h⟩ | ⟨n4, h⟩
    · refine x_tsIn (pc := 14) (v := 4) (tgt := 83) X d_Mod_file_14 e4 ⟨by decide, by decide⟩ (by decide) (by decide) rfl rfl ?_
      refine x_aload_n (pc := 83) X d_Mod_file_83 0 rfl rfl ?_
      refine x_iload_n (pc := 84) X d_Mod_file_84 1 rfl rfl ?_
      obtain ⟨r11, h12, h⟩ := bnd_e h
      refine x_callV (pc := 85) (As := [.int (zi x1)]) (rest := []) (w2 := (w_Mod cI cB a0 a1 a2 a3 a4 a5 a6 a7 a8 a9 a10 a11 a12 a13 a14 a15 m_stepsMade m_stepsMost m_taped m_reading m_statements m_telling m_hasImage m_isKeeping m_cursor m_rowMany m_lots m_refused m_bytes m_owner m_block m_written m_waits m_kinds m_tape m_sort m_sortAt m_told m_kept m_was m_ends m_row)) X d_Mod_file_85 lk_Mod_82 mv_Mod_extents (c_Mod_extents l D cI cB a0 a1 a2 a3 a4 a5 a6 a7 a8 a9 a10 a11 a12 a13 a14 a15 m_stepsMade m_stepsMost m_taped m_reading m_statements m_telling m_hasImage m_isKeeping m_cursor m_rowMany m_lots m_refused m_bytes m_owner m_block m_written m_waits m_kinds m_tape m_sort m_sortAt m_told m_kept m_was m_ends m_row x1 h12) ⟨(Nat.le_of_ble_eq_true rfl), (Nat.le_of_ble_eq_true rfl), (Nat.le_of_ble_eq_true rfl), (Nat.le_of_ble_eq_true rfl)⟩ 0 rfl rfl [0, 1, 2, 3, 4, 5, 6, 7, 8, 9, 10, 11, 12, 13, 14, 15] rfl rfl rfl (Up.same rfl) rfl rfl (Nat.le_of_ble_eq_true rfl) ?_
      cases h
      exact x_iret (pc := 88) X hR d_Mod_file_88
    obtain ⟨hz, h⟩ := ceq_e h
    rcases h with ⟨e5, h⟩ | ⟨n5, h⟩
    · refine x_tsIn (pc := 14) (v := 5) (tgt := 89) X d_Mod_file_14 e5 ⟨by decide, by decide⟩ (by decide) (by decide) rfl rfl ?_
      refine x_aload_n (pc := 89) X d_Mod_file_89 0 rfl rfl ?_
      refine x_iload_n (pc := 90) X d_Mod_file_90 1 rfl rfl ?_
      obtain ⟨r13, h14, h⟩ := bnd_e h
      refine x_callV (pc := 91) (As := [.int (zi x1)]) (rest := []) (w2 := (w_Mod cI cB a0 a1 a2 a3 a4 a5 a6 a7 a8 a9 a10 a11 a12 a13 a14 a15 m_stepsMade m_stepsMost m_taped m_reading m_statements m_telling m_hasImage m_isKeeping m_cursor m_rowMany m_lots m_refused m_bytes m_owner m_block m_written m_waits m_kinds m_tape m_sort m_sortAt m_told m_kept m_was m_ends m_row)) X d_Mod_file_91 lk_Mod_82 mv_Mod_extents (c_Mod_extents l D cI cB a0 a1 a2 a3 a4 a5 a6 a7 a8 a9 a10 a11 a12 a13 a14 a15 m_stepsMade m_stepsMost m_taped m_reading m_statements m_telling m_hasImage m_isKeeping m_cursor m_rowMany m_lots m_refused m_bytes m_owner m_block m_written m_waits m_kinds m_tape m_sort m_sortAt m_told m_kept m_was m_ends m_row x1 h14) ⟨(Nat.le_of_ble_eq_true rfl), (Nat.le_of_ble_eq_true rfl), (Nat.le_of_ble_eq_true rfl), (Nat.le_of_ble_eq_true rfl)⟩ 0 rfl rfl [0, 1, 2, 3, 4, 5, 6, 7, 8, 9, 10, 11, 12, 13, 14, 15] rfl rfl rfl (Up.same rfl) rfl rfl (Nat.le_of_ble_eq_true rfl) ?_
      obtain ⟨r15, h16, h⟩ := bnd_e h
      refine x_callS (pc := 94) (As := [.int (zi r13)]) (rest := []) (w2 := (w_Mod cI cB a0 a1 a2 a3 a4 a5 a6 a7 a8 a9 a10 a11 a12 a13 a14 a15 m_stepsMade m_stepsMost m_taped m_reading m_statements m_telling m_hasImage m_isKeeping m_cursor m_rowMany m_lots m_refused m_bytes m_owner m_block m_written m_waits m_kinds m_tape m_sort m_sortAt m_told m_kept m_was m_ends m_row)) X d_Mod_file_94 lk_Mod_276 mv_Mod_depthOf (c_Mod_depthOf l D cI cB r13 h16) ⟨(Nat.le_of_ble_eq_true rfl), (Nat.le_of_ble_eq_true rfl), (Nat.le_of_ble_eq_true rfl), (Nat.le_of_ble_eq_true rfl)⟩ [] rfl rfl rfl (Up.same rfl) rfl rfl (Nat.le_of_ble_eq_true rfl) ?_
      cases h
      exact x_iret (pc := 97) X hR d_Mod_file_97
    obtain ⟨hz, h⟩ := ceq_e h
    rcases h with ⟨e6, h⟩ | ⟨n6, h⟩
    · refine x_tsIn (pc := 14) (v := 6) (tgt := 98) X d_Mod_file_14 e6 ⟨by decide, by decide⟩ (by decide) (by decide) rfl rfl ?_
      refine x_aload_n (pc := 98) X d_Mod_file_98 0 rfl rfl ?_
      refine x_iload_n (pc := 99) X d_Mod_file_99 1 rfl rfl ?_
      obtain ⟨r17, h18, h⟩ := bnd_e h
      refine x_callV (pc := 100) (As := [.int (zi x1)]) (rest := []) (w2 := (w_Mod cI cB a0 a1 a2 a3 a4 a5 a6 a7 a8 a9 a10 a11 a12 a13 a14 a15 m_stepsMade m_stepsMost m_taped m_reading m_statements m_telling m_hasImage m_isKeeping m_cursor m_rowMany m_lots m_refused m_bytes m_owner m_block m_written m_waits m_kinds m_tape m_sort m_sortAt m_told m_kept m_was m_ends m_row)) X d_Mod_file_100 lk_Mod_279 mv_Mod_writtenOf (c_Mod_writtenOf l D cI cB a0 a1 a2 a3 a4 a5 a6 a7 a8 a9 a10 a11 a12 a13 a14 a15 m_stepsMade m_stepsMost m_taped m_reading m_statements m_telling m_hasImage m_isKeeping m_cursor m_rowMany m_lots m_refused m_bytes m_owner m_block m_written m_waits m_kinds m_tape m_sort m_sortAt m_told m_kept m_was m_ends m_row x1 h18) ⟨(Nat.le_of_ble_eq_true rfl), (Nat.le_of_ble_eq_true rfl), (Nat.le_of_ble_eq_true rfl), (Nat.le_of_ble_eq_true rfl)⟩ 0 rfl rfl [0, 1, 2, 3, 4, 5, 6, 7, 8, 9, 10, 11, 12, 13, 14, 15] rfl rfl rfl (Up.same rfl) rfl rfl (Nat.le_of_ble_eq_true rfl) ?_
      cases h
      exact x_iret (pc := 103) X hR d_Mod_file_103
    refine x_tsOut (pc := 14) (tgt := 104) X d_Mod_file_14 hz.1 (by omega) rfl ?_
    · skip
      refine x_aload_n (pc := 104) X d_Mod_file_104 0 rfl rfl ?_
      refine x_bipush (pc := 105) (v := -2) X d_Mod_file_105 rfl ?_
      obtain ⟨r3, h4, h⟩ := bnd_e h
      refine x_callV (pc := 107) (As := [.int (zi (-2))]) (rest := []) (w2 := (w_Mod cI cB a0 a1 a2 a3 a4 a5 a6 a7 a8 a9 a10 a11 a12 a13 a14 a15 m_stepsMade m_stepsMost m_taped m_reading m_statements m_telling m_hasImage m_isKeeping m_cursor m_rowMany m_lots r3.2 m_bytes m_owner m_block m_written m_waits m_kinds m_tape m_sort m_sortAt m_told m_kept m_was m_ends m_row)) X d_Mod_file_107 lk_Mod_172 mv_Mod_no (c_Mod_no l D cI cB a0 a1 a2 a3 a4 a5 a6 a7 a8 a9 a10 a11 a12 a13 a14 a15 m_stepsMade m_stepsMost m_taped m_reading m_statements m_telling m_hasImage m_isKeeping m_cursor m_rowMany m_lots m_refused m_bytes m_owner m_block m_written m_waits m_kinds m_tape m_sort m_sortAt m_told m_kept m_was m_ends m_row (-2) h4) ⟨(Nat.le_of_ble_eq_true rfl), (Nat.le_of_ble_eq_true rfl), (Nat.le_of_ble_eq_true rfl), (Nat.le_of_ble_eq_true rfl)⟩ 0 rfl rfl [0, 1, 2, 3, 4, 5, 6, 7, 8, 9, 10, 11, 12, 13, 14, 15] rfl rfl rfl (Up.of [] [] rfl rfl rfl 16 rfl (by decide +kernel)) rfl rfl (Nat.le_of_ble_eq_true rfl) ?_
      cases h
      exact x_iret (pc := 110) X hR d_Mod_file_110
  · skip
    refine x_aload_n (pc := 7) X d_Mod_file_7 0 rfl rfl ?_
    refine x_iconst (pc := 8) X d_Mod_file_8  ?_
    obtain ⟨r19, h20, h⟩ := bnd_e h
    refine x_callV (pc := 9) (As := [.int (zi (-1))]) (rest := []) (w2 := (w_Mod cI cB a0 a1 a2 a3 a4 a5 a6 a7 a8 a9 a10 a11 a12 a13 a14 a15 m_stepsMade m_stepsMost m_taped m_reading m_statements m_telling m_hasImage m_isKeeping m_cursor m_rowMany m_lots r19.2 m_bytes m_owner m_block m_written m_waits m_kinds m_tape m_sort m_sortAt m_told m_kept m_was m_ends m_row)) X d_Mod_file_9 lk_Mod_172 mv_Mod_no (c_Mod_no l D cI cB a0 a1 a2 a3 a4 a5 a6 a7 a8 a9 a10 a11 a12 a13 a14 a15 m_stepsMade m_stepsMost m_taped m_reading m_statements m_telling m_hasImage m_isKeeping m_cursor m_rowMany m_lots m_refused m_bytes m_owner m_block m_written m_waits m_kinds m_tape m_sort m_sortAt m_told m_kept m_was m_ends m_row (-1) h20) ⟨(Nat.le_of_ble_eq_true rfl), (Nat.le_of_ble_eq_true rfl), (Nat.le_of_ble_eq_true rfl), (Nat.le_of_ble_eq_true rfl)⟩ 0 rfl rfl [0, 1, 2, 3, 4, 5, 6, 7, 8, 9, 10, 11, 12, 13, 14, 15] rfl rfl rfl (Up.of [] [] rfl rfl rfl 16 rfl (by decide +kernel)) rfl rfl (Nat.le_of_ble_eq_true rfl) ?_
    cases h
    exact x_iret (pc := 12) X hR d_Mod_file_12
theorem d_Mod_readAt_0 : decode b_Mod_readAt 0 = .ok (.aload_n 0, 1) := by decide +kernel
theorem d_Mod_readAt_1 : decode b_Mod_readAt 1 = .ok (.iload_n 1, 1) := by decide +kernel
theorem d_Mod_readAt_2 : decode b_Mod_readAt 2 = .ok (.invokevirtual 66, 3) := by decide +kernel
theorem d_Mod_readAt_5 : decode b_Mod_readAt 5 = .ok (.ifCond .eq 12, 3) := by decide +kernel
theorem d_Mod_readAt_8 : decode b_Mod_readAt 8 = .ok (.aload_n 0, 1) := by decide +kernel
theorem d_Mod_readAt_9 : decode b_Mod_readAt 9 = .ok (.getfield 25, 3) := by decide +kernel
theorem d_Mod_readAt_12 : decode b_Mod_readAt 12 = .ok (.iload_n 1, 1) := by decide +kernel
theorem d_Mod_readAt_13 : decode b_Mod_readAt 13 = .ok (.iaload, 1) := by decide +kernel
theorem d_Mod_readAt_14 : decode b_Mod_readAt 14 = .ok (.goto 36, 3) := by decide +kernel
theorem d_Mod_readAt_17 : decode b_Mod_readAt 17 = .ok (.aload_n 0, 1) := by decide +kernel
theorem d_Mod_readAt_18 : decode b_Mod_readAt 18 = .ok (.iload_n 1, 1) := by decide +kernel
theorem d_Mod_readAt_19 : decode b_Mod_readAt 19 = .ok (.invokevirtual 62, 3) := by decide +kernel
theorem d_Mod_readAt_22 : decode b_Mod_readAt 22 = .ok (.ifCond .eq 27, 3) := by decide +kernel
theorem d_Mod_readAt_25 : decode b_Mod_readAt 25 = .ok (.aload_n 0, 1) := by decide +kernel
theorem d_Mod_readAt_26 : decode b_Mod_readAt 26 = .ok (.getfield 22, 3) := by decide +kernel
theorem d_Mod_readAt_29 : decode b_Mod_readAt 29 = .ok (.iload_n 1, 1) := by decide +kernel
theorem d_Mod_readAt_30 : decode b_Mod_readAt 30 = .ok (.iaload, 1) := by decide +kernel
theorem d_Mod_readAt_31 : decode b_Mod_readAt 31 = .ok (.iconst 1, 1) := by decide +kernel
theorem d_Mod_readAt_32 : decode b_Mod_readAt 32 = .ok (.if_icmp .ne 17, 3) := by decide +kernel
theorem d_Mod_readAt_35 : decode b_Mod_readAt 35 = .ok (.aload_n 0, 1) := by decide +kernel
theorem d_Mod_readAt_36 : decode b_Mod_readAt 36 = .ok (.getfield 13, 3) := by decide +kernel
theorem d_Mod_readAt_39 : decode b_Mod_readAt 39 = .ok (.aload_n 0, 1) := by decide +kernel
theorem d_Mod_readAt_40 : decode b_Mod_readAt 40 = .ok (.getfield 19, 3) := by decide +kernel
theorem d_Mod_readAt_43 : decode b_Mod_readAt 43 = .ok (.iload_n 1, 1) := by decide +kernel
theorem d_Mod_readAt_44 : decode b_Mod_readAt 44 = .ok (.iaload, 1) := by decide +kernel
theorem d_Mod_readAt_45 : decode b_Mod_readAt 45 = .ok (.iaload, 1) := by decide +kernel
theorem d_Mod_readAt_46 : decode b_Mod_readAt 46 = .ok (.goto 4, 3) := by decide +kernel
theorem d_Mod_readAt_49 : decode b_Mod_readAt 49 = .ok (.iconst 0, 1) := by decide +kernel
theorem d_Mod_readAt_50 : decode b_Mod_readAt 50 = .ok (.ireturn, 1) := by decide +kernel
def m_Mod_readAt (x1 : Int) (m_bytes : Int → Int) (m_block : Int → Int) (m_written : Int → Int) (m_waits : Int → Int) : Option (Int) :=
  bnd (m_Mod_isWaiting x1 m_waits) (fun r1 => ceq r1 0 (bnd (m_Mod_isPlaced x1 m_block) (fun r3 => ceq r3 0 (some (0)) (gd (zx x1 96) (ceq (m_written x1) 1 (gd (zx x1 96) (gd (zx (m_block x1) 64) (some ((m_bytes (m_block x1)))))) (some (0)))))) (gd (zx x1 96) (some ((m_waits x1)))))
set_option maxHeartbeats 4000000 in
set_option maxRecDepth 100000 in
theorem c_Mod_readAt (l : Launch) (D : va_G) (cI cB : ClassId) (a0 a1 a2 a3 a4 a5 a6 a7 a8 a9 a10 a11 a12 a13 a14 a15 : Nat) (m_stepsMade : Int) (m_stepsMost : Int) (m_taped : Int) (m_reading : Int) (m_statements : Int) (m_telling : Int) (m_hasImage : Int) (m_isKeeping : Int) (m_cursor : Int) (m_rowMany : Int) (m_lots : Int) (m_refused : Int → Int) (m_bytes : Int → Int) (m_owner : Int → Int) (m_block : Int → Int) (m_written : Int → Int) (m_waits : Int → Int) (m_kinds : Int → Int) (m_tape : Int → Int) (m_sort : Int → Int) (m_sortAt : Int → Int) (m_told : Int → Int) (m_kept : Int → Int) (m_was : Int → Int) (m_ends : Int → Int) (m_row : Int → Int) (x1 : Int) {o : Int} (h : m_Mod_readAt x1 m_bytes m_block m_written m_waits = some o) : Ct l D cI cB y_Mod_readAt b_Mod_readAt 2 (some .int) { frames := 1, cells := 0, slots := 0, locals := 21 } [.ref a0, .int (zi x1)] (w_Mod cI cB a0 a1 a2 a3 a4 a5 a6 a7 a8 a9 a10 a11 a12 a13 a14 a15 m_stepsMade m_stepsMost m_taped m_reading m_statements m_telling m_hasImage m_isKeeping m_cursor m_rowMany m_lots m_refused m_bytes m_owner m_block m_written m_waits m_kinds m_tape m_sort m_sortAt m_told m_kept m_was m_ends m_row) (w_Mod cI cB a0 a1 a2 a3 a4 a5 a6 a7 a8 a9 a10 a11 a12 a13 a14 a15 m_stepsMade m_stepsMost m_taped m_reading m_statements m_telling m_hasImage m_isKeeping m_cursor m_rowMany m_lots m_refused m_bytes m_owner m_block m_written m_waits m_kinds m_tape m_sort m_sortAt m_told m_kept m_was m_ends m_row) (some (.int (zi o))) := by
  refine Ct.start (by decide) (Nat.le_of_ble_eq_true rfl) (fun G X hR => ?_)
  refine x_ls (ls2 := [(0, .ref a0), (1, .int (zi x1))]) [0, 1] rfl ?_
  unfold m_Mod_readAt at h
  refine x_aload_n (pc := 0) X d_Mod_readAt_0 0 rfl rfl ?_
  refine x_iload_n (pc := 1) X d_Mod_readAt_1 1 rfl rfl ?_
  obtain ⟨r1, h2, h⟩ := bnd_e h
  refine x_callV (pc := 2) (As := [.int (zi x1)]) (rest := []) (w2 := (w_Mod cI cB a0 a1 a2 a3 a4 a5 a6 a7 a8 a9 a10 a11 a12 a13 a14 a15 m_stepsMade m_stepsMost m_taped m_reading m_statements m_telling m_hasImage m_isKeeping m_cursor m_rowMany m_lots m_refused m_bytes m_owner m_block m_written m_waits m_kinds m_tape m_sort m_sortAt m_told m_kept m_was m_ends m_row)) X d_Mod_readAt_2 lk_Mod_66 mv_Mod_isWaiting (c_Mod_isWaiting l D cI cB a0 a1 a2 a3 a4 a5 a6 a7 a8 a9 a10 a11 a12 a13 a14 a15 m_stepsMade m_stepsMost m_taped m_reading m_statements m_telling m_hasImage m_isKeeping m_cursor m_rowMany m_lots m_refused m_bytes m_owner m_block m_written m_waits m_kinds m_tape m_sort m_sortAt m_told m_kept m_was m_ends m_row x1 h2) ⟨(Nat.le_of_ble_eq_true rfl), (Nat.le_of_ble_eq_true rfl), (Nat.le_of_ble_eq_true rfl), (Nat.le_of_ble_eq_true rfl)⟩ 0 rfl rfl [0, 1, 2, 3, 4, 5, 6, 7, 8, 9, 10, 11, 12, 13, 14, 15] rfl rfl rfl (Up.same rfl) rfl rfl (Nat.le_of_ble_eq_true rfl) ?_
  refine x_ifeq (pc := 5) (tgt := 17) X d_Mod_readAt_5 rfl h (fun h => ?_) (fun h => ?_)
  · skip
    refine x_aload_n (pc := 17) X d_Mod_readAt_17 0 rfl rfl ?_
    refine x_iload_n (pc := 18) X d_Mod_readAt_18 1 rfl rfl ?_
    obtain ⟨r3, h4, h⟩ := bnd_e h
    refine x_callV (pc := 19) (As := [.int (zi x1)]) (rest := []) (w2 := (w_Mod cI cB a0 a1 a2 a3 a4 a5 a6 a7 a8 a9 a10 a11 a12 a13 a14 a15 m_stepsMade m_stepsMost m_taped m_reading m_statements m_telling m_hasImage m_isKeeping m_cursor m_rowMany m_lots m_refused m_bytes m_owner m_block m_written m_waits m_kinds m_tape m_sort m_sortAt m_told m_kept m_was m_ends m_row)) X d_Mod_readAt_19 lk_Mod_62 mv_Mod_isPlaced (c_Mod_isPlaced l D cI cB a0 a1 a2 a3 a4 a5 a6 a7 a8 a9 a10 a11 a12 a13 a14 a15 m_stepsMade m_stepsMost m_taped m_reading m_statements m_telling m_hasImage m_isKeeping m_cursor m_rowMany m_lots m_refused m_bytes m_owner m_block m_written m_waits m_kinds m_tape m_sort m_sortAt m_told m_kept m_was m_ends m_row x1 h4) ⟨(Nat.le_of_ble_eq_true rfl), (Nat.le_of_ble_eq_true rfl), (Nat.le_of_ble_eq_true rfl), (Nat.le_of_ble_eq_true rfl)⟩ 0 rfl rfl [0, 1, 2, 3, 4, 5, 6, 7, 8, 9, 10, 11, 12, 13, 14, 15] rfl rfl rfl (Up.same rfl) rfl rfl (Nat.le_of_ble_eq_true rfl) ?_
    refine x_ifeq (pc := 22) (tgt := 49) X d_Mod_readAt_22 rfl h (fun h => ?_) (fun h => ?_)
    · skip
      refine x_iconst (pc := 49) X d_Mod_readAt_49  ?_
      cases h
      exact x_iret (pc := 50) X hR d_Mod_readAt_50
    · skip
      refine x_aload_n (pc := 25) X d_Mod_readAt_25 0 rfl rfl ?_
      refine x_get (pc := 26) X d_Mod_readAt_26 0 rfl fl_Mod_22 rfl ?_
      refine x_iload_n (pc := 29) X d_Mod_readAt_29 1 rfl rfl ?_
      refine x_iald (pc := 30) X d_Mod_readAt_30 5 rfl (Nat.le_of_ble_eq_true rfl) rfl h (fun h => ?_)
      refine x_iconst (pc := 31) X d_Mod_readAt_31  ?_
      refine x_icmpne (pc := 32) (tgt := 49) X d_Mod_readAt_32 rfl h (fun h => ?_) (fun h => ?_)
      · skip
        refine x_iconst (pc := 49) X d_Mod_readAt_49  ?_
        cases h
        exact x_iret (pc := 50) X hR d_Mod_readAt_50
      · skip
        refine x_aload_n (pc := 35) X d_Mod_readAt_35 0 rfl rfl ?_
        refine x_get (pc := 36) X d_Mod_readAt_36 0 rfl fl_Mod_13 rfl ?_
        refine x_aload_n (pc := 39) X d_Mod_readAt_39 0 rfl rfl ?_
        refine x_get (pc := 40) X d_Mod_readAt_40 0 rfl fl_Mod_19 rfl ?_
        refine x_iload_n (pc := 43) X d_Mod_readAt_43 1 rfl rfl ?_
        refine x_iald (pc := 44) X d_Mod_readAt_44 4 rfl (Nat.le_of_ble_eq_true rfl) rfl h (fun h => ?_)
        refine x_iald (pc := 45) X d_Mod_readAt_45 2 rfl (Nat.le_of_ble_eq_true rfl) rfl h (fun h => ?_)
        refine x_goto (pc := 46) (tgt := 50) X d_Mod_readAt_46 rfl ?_
        cases h
        exact x_iret (pc := 50) X hR d_Mod_readAt_50
  · skip
    refine x_aload_n (pc := 8) X d_Mod_readAt_8 0 rfl rfl ?_
    refine x_get (pc := 9) X d_Mod_readAt_9 0 rfl fl_Mod_25 rfl ?_
    refine x_iload_n (pc := 12) X d_Mod_readAt_12 1 rfl rfl ?_
    refine x_iald (pc := 13) X d_Mod_readAt_13 6 rfl (Nat.le_of_ble_eq_true rfl) rfl h (fun h => ?_)
    refine x_goto (pc := 14) (tgt := 50) X d_Mod_readAt_14 rfl ?_
    cases h
    exact x_iret (pc := 50) X hR d_Mod_readAt_50
theorem d_Mod_read_0 : decode b_Mod_read 0 = .ok (.iload_n 1, 1) := by decide +kernel
theorem d_Mod_read_1 : decode b_Mod_read 1 = .ok (.invokestatic 230, 3) := by decide +kernel
theorem d_Mod_read_4 : decode b_Mod_read 4 = .ok (.ifCond .eq 10, 3) := by decide +kernel
theorem d_Mod_read_7 : decode b_Mod_read 7 = .ok (.iload_n 2, 1) := by decide +kernel
theorem d_Mod_read_8 : decode b_Mod_read 8 = .ok (.invokestatic 199, 3) := by decide +kernel
theorem d_Mod_read_11 : decode b_Mod_read 11 = .ok (.ifCond .ne 9, 3) := by decide +kernel
theorem d_Mod_read_14 : decode b_Mod_read 14 = .ok (.aload_n 0, 1) := by decide +kernel
theorem d_Mod_read_15 : decode b_Mod_read 15 = .ok (.iconst (-1), 1) := by decide +kernel
theorem d_Mod_read_16 : decode b_Mod_read 16 = .ok (.invokevirtual 172, 3) := by decide +kernel
theorem d_Mod_read_19 : decode b_Mod_read 19 = .ok (.ireturn, 1) := by decide +kernel
theorem d_Mod_read_20 : decode b_Mod_read 20 = .ok (.aload_n 0, 1) := by decide +kernel
theorem d_Mod_read_21 : decode b_Mod_read 21 = .ok (.bipush 24, 2) := by decide +kernel
theorem d_Mod_read_23 : decode b_Mod_read 23 = .ok (.iload_n 1, 1) := by decide +kernel
theorem d_Mod_read_24 : decode b_Mod_read 24 = .ok (.imul, 1) := by decide +kernel
theorem d_Mod_read_25 : decode b_Mod_read 25 = .ok (.iload_n 2, 1) := by decide +kernel
theorem d_Mod_read_26 : decode b_Mod_read 26 = .ok (.iadd, 1) := by decide +kernel
theorem d_Mod_read_27 : decode b_Mod_read 27 = .ok (.invokevirtual 282, 3) := by decide +kernel
theorem d_Mod_read_30 : decode b_Mod_read 30 = .ok (.ireturn, 1) := by decide +kernel
def m_Mod_read (x1 : Int) (x2 : Int) (m_refused : Int → Int) (m_bytes : Int → Int) (m_block : Int → Int) (m_written : Int → Int) (m_waits : Int → Int) : Option (Int × (Int → Int)) :=
  bnd (m_Mod_isFile x1) (fun r1 => jn (fun (c4 : Int → Int) => bnd (m_Mod_no (-1) c4) (fun r5 => some (r5.1, r5.2))) (fun j3 => ceq r1 0 (j3 m_refused) (bnd (m_Mod_isPage x2) (fun r9 => ceq r9 0 (j3 m_refused) (bnd (m_Mod_readAt ((24 * x1) + x2) m_bytes m_block m_written m_waits) (fun r11 => some (r11, m_refused)))))))
set_option maxHeartbeats 4000000 in
set_option maxRecDepth 100000 in
theorem c_Mod_read (l : Launch) (D : va_G) (cI cB : ClassId) (a0 a1 a2 a3 a4 a5 a6 a7 a8 a9 a10 a11 a12 a13 a14 a15 : Nat) (m_stepsMade : Int) (m_stepsMost : Int) (m_taped : Int) (m_reading : Int) (m_statements : Int) (m_telling : Int) (m_hasImage : Int) (m_isKeeping : Int) (m_cursor : Int) (m_rowMany : Int) (m_lots : Int) (m_refused : Int → Int) (m_bytes : Int → Int) (m_owner : Int → Int) (m_block : Int → Int) (m_written : Int → Int) (m_waits : Int → Int) (m_kinds : Int → Int) (m_tape : Int → Int) (m_sort : Int → Int) (m_sortAt : Int → Int) (m_told : Int → Int) (m_kept : Int → Int) (m_was : Int → Int) (m_ends : Int → Int) (m_row : Int → Int) (x1 : Int) (x2 : Int) {o : Int × (Int → Int)} (h : m_Mod_read x1 x2 m_refused m_bytes m_block m_written m_waits = some o) : Ct l D cI cB y_Mod_read b_Mod_read 3 (some .int) { frames := 2, cells := 0, slots := 0, locals := 42 } [.ref a0, .int (zi x1), .int (zi x2)] (w_Mod cI cB a0 a1 a2 a3 a4 a5 a6 a7 a8 a9 a10 a11 a12 a13 a14 a15 m_stepsMade m_stepsMost m_taped m_reading m_statements m_telling m_hasImage m_isKeeping m_cursor m_rowMany m_lots m_refused m_bytes m_owner m_block m_written m_waits m_kinds m_tape m_sort m_sortAt m_told m_kept m_was m_ends m_row) (w_Mod cI cB a0 a1 a2 a3 a4 a5 a6 a7 a8 a9 a10 a11 a12 a13 a14 a15 m_stepsMade m_stepsMost m_taped m_reading m_statements m_telling m_hasImage m_isKeeping m_cursor m_rowMany m_lots o.2 m_bytes m_owner m_block m_written m_waits m_kinds m_tape m_sort m_sortAt m_told m_kept m_was m_ends m_row) (some (.int (zi o.1))) := by
  refine Ct.start (by decide) (Nat.le_of_ble_eq_true rfl) (fun G X hR => ?_)
  refine x_ls (ls2 := [(0, .ref a0), (1, .int (zi x1)), (2, .int (zi x2))]) [0, 1, 2] rfl ?_
  unfold m_Mod_read at h
  refine x_iload_n (pc := 0) X d_Mod_read_0 1 rfl rfl ?_
  obtain ⟨r1, h2, h⟩ := bnd_e h
  refine x_callS (pc := 1) (As := [.int (zi x1)]) (rest := []) (w2 := (w_Mod cI cB a0 a1 a2 a3 a4 a5 a6 a7 a8 a9 a10 a11 a12 a13 a14 a15 m_stepsMade m_stepsMost m_taped m_reading m_statements m_telling m_hasImage m_isKeeping m_cursor m_rowMany m_lots m_refused m_bytes m_owner m_block m_written m_waits m_kinds m_tape m_sort m_sortAt m_told m_kept m_was m_ends m_row)) X d_Mod_read_1 lk_Mod_230 mv_Mod_isFile (c_Mod_isFile l D cI cB x1 h2) ⟨(Nat.le_of_ble_eq_true rfl), (Nat.le_of_ble_eq_true rfl), (Nat.le_of_ble_eq_true rfl), (Nat.le_of_ble_eq_true rfl)⟩ [] rfl rfl rfl (Up.same rfl) rfl rfl (Nat.le_of_ble_eq_true rfl) ?_
  obtain ⟨j3, hj7, h⟩ := jn_e h
  have J8 : ∀ (c4 : Int → Int), j3 c4 = some o → Wx G 0 0 14 [(0, .ref a0)] [] (w_Mod cI cB a0 a1 a2 a3 a4 a5 a6 a7 a8 a9 a10 a11 a12 a13 a14 a15 m_stepsMade m_stepsMost m_taped m_reading m_statements m_telling m_hasImage m_isKeeping m_cursor m_rowMany m_lots c4 m_bytes m_owner m_block m_written m_waits m_kinds m_tape m_sort m_sortAt m_told m_kept m_was m_ends m_row) := by
    intro c4 h
    rw [hj7] at h
    (try dsimp only at h)
    refine x_aload_n (pc := 14) X d_Mod_read_14 0 rfl rfl ?_
    refine x_iconst (pc := 15) X d_Mod_read_15  ?_
    obtain ⟨r5, h6, h⟩ := bnd_e h
    refine x_callV (pc := 16) (As := [.int (zi (-1))]) (rest := []) (w2 := (w_Mod cI cB a0 a1 a2 a3 a4 a5 a6 a7 a8 a9 a10 a11 a12 a13 a14 a15 m_stepsMade m_stepsMost m_taped m_reading m_statements m_telling m_hasImage m_isKeeping m_cursor m_rowMany m_lots r5.2 m_bytes m_owner m_block m_written m_waits m_kinds m_tape m_sort m_sortAt m_told m_kept m_was m_ends m_row)) X d_Mod_read_16 lk_Mod_172 mv_Mod_no (c_Mod_no l D cI cB a0 a1 a2 a3 a4 a5 a6 a7 a8 a9 a10 a11 a12 a13 a14 a15 m_stepsMade m_stepsMost m_taped m_reading m_statements m_telling m_hasImage m_isKeeping m_cursor m_rowMany m_lots c4 m_bytes m_owner m_block m_written m_waits m_kinds m_tape m_sort m_sortAt m_told m_kept m_was m_ends m_row (-1) h6) ⟨(Nat.le_of_ble_eq_true rfl), (Nat.le_of_ble_eq_true rfl), (Nat.le_of_ble_eq_true rfl), (Nat.le_of_ble_eq_true rfl)⟩ 0 rfl rfl [0, 1, 2, 3, 4, 5, 6, 7, 8, 9, 10, 11, 12, 13, 14, 15] rfl rfl rfl (Up.of [] [] rfl rfl rfl 16 rfl (by decide +kernel)) rfl rfl (Nat.le_of_ble_eq_true rfl) ?_
    cases h
    exact x_iret (pc := 19) X hR d_Mod_read_19
  clear hj7
  refine x_ifeq (pc := 4) (tgt := 14) X d_Mod_read_4 rfl h (fun h => ?_) (fun h => ?_)
  · skip
    refine x_ls (ls2 := [(0, .ref a0)]) [0] rfl ?_
    exact J8 m_refused h
  · skip
    refine x_iload_n (pc := 7) X d_Mod_read_7 2 rfl rfl ?_
    obtain ⟨r9, h10, h⟩ := bnd_e h
    refine x_callS (pc := 8) (As := [.int (zi x2)]) (rest := []) (w2 := (w_Mod cI cB a0 a1 a2 a3 a4 a5 a6 a7 a8 a9 a10 a11 a12 a13 a14 a15 m_stepsMade m_stepsMost m_taped m_reading m_statements m_telling m_hasImage m_isKeeping m_cursor m_rowMany m_lots m_refused m_bytes m_owner m_block m_written m_waits m_kinds m_tape m_sort m_sortAt m_told m_kept m_was m_ends m_row)) X d_Mod_read_8 lk_Mod_199 mv_Mod_isPage (c_Mod_isPage l D cI cB x2 h10) ⟨(Nat.le_of_ble_eq_true rfl), (Nat.le_of_ble_eq_true rfl), (Nat.le_of_ble_eq_true rfl), (Nat.le_of_ble_eq_true rfl)⟩ [] rfl rfl rfl (Up.same rfl) rfl rfl (Nat.le_of_ble_eq_true rfl) ?_
    refine x_ifne (pc := 11) (tgt := 20) X d_Mod_read_11 rfl h (fun h => ?_) (fun h => ?_)
    · skip
      refine x_aload_n (pc := 20) X d_Mod_read_20 0 rfl rfl ?_
      refine x_bipush (pc := 21) (v := 24) X d_Mod_read_21 rfl ?_
      refine x_iload_n (pc := 23) X d_Mod_read_23 1 rfl rfl ?_
      refine x_imul (pc := 24) X d_Mod_read_24  ?_
      refine x_iload_n (pc := 25) X d_Mod_read_25 2 rfl rfl ?_
      refine x_iadd (pc := 26) X d_Mod_read_26  ?_
      obtain ⟨r11, h12, h⟩ := bnd_e h
      refine x_callV (pc := 27) (As := [.int (zi ((24 * x1) + x2))]) (rest := []) (w2 := (w_Mod cI cB a0 a1 a2 a3 a4 a5 a6 a7 a8 a9 a10 a11 a12 a13 a14 a15 m_stepsMade m_stepsMost m_taped m_reading m_statements m_telling m_hasImage m_isKeeping m_cursor m_rowMany m_lots m_refused m_bytes m_owner m_block m_written m_waits m_kinds m_tape m_sort m_sortAt m_told m_kept m_was m_ends m_row)) X d_Mod_read_27 lk_Mod_282 mv_Mod_readAt (c_Mod_readAt l D cI cB a0 a1 a2 a3 a4 a5 a6 a7 a8 a9 a10 a11 a12 a13 a14 a15 m_stepsMade m_stepsMost m_taped m_reading m_statements m_telling m_hasImage m_isKeeping m_cursor m_rowMany m_lots m_refused m_bytes m_owner m_block m_written m_waits m_kinds m_tape m_sort m_sortAt m_told m_kept m_was m_ends m_row ((24 * x1) + x2) h12) ⟨(Nat.le_of_ble_eq_true rfl), (Nat.le_of_ble_eq_true rfl), (Nat.le_of_ble_eq_true rfl), (Nat.le_of_ble_eq_true rfl)⟩ 0 rfl rfl [0, 1, 2, 3, 4, 5, 6, 7, 8, 9, 10, 11, 12, 13, 14, 15] rfl rfl rfl (Up.same rfl) rfl rfl (Nat.le_of_ble_eq_true rfl) ?_
      cases h
      exact x_iret (pc := 30) X hR d_Mod_read_30
    · skip
      refine x_ls (ls2 := [(0, .ref a0)]) [0] rfl ?_
      exact J8 m_refused h
theorem d_Mod_says_0 : decode b_Mod_says 0 = .ok (.iload_n 1, 1) := by decide +kernel
theorem d_Mod_says_1 : decode b_Mod_says 1 = .ok (.invokestatic 230, 3) := by decide +kernel
theorem d_Mod_says_4 : decode b_Mod_says 4 = .ok (.ifCond .eq 10, 3) := by decide +kernel
theorem d_Mod_says_7 : decode b_Mod_says 7 = .ok (.iload_n 2, 1) := by decide +kernel
theorem d_Mod_says_8 : decode b_Mod_says 8 = .ok (.invokestatic 199, 3) := by decide +kernel
theorem d_Mod_says_11 : decode b_Mod_says 11 = .ok (.ifCond .ne 7, 3) := by decide +kernel
theorem d_Mod_says_14 : decode b_Mod_says 14 = .ok (.iconst (-1), 1) := by decide +kernel
theorem d_Mod_says_15 : decode b_Mod_says 15 = .ok (.goto 10, 3) := by decide +kernel
theorem d_Mod_says_18 : decode b_Mod_says 18 = .ok (.iload_n 3, 1) := by decide +kernel
theorem d_Mod_says_19 : decode b_Mod_says 19 = .ok (.iconst 0, 1) := by decide +kernel
theorem d_Mod_says_20 : decode b_Mod_says 20 = .ok (.bipush 99, 2) := by decide +kernel
theorem d_Mod_says_22 : decode b_Mod_says 22 = .ok (.invokestatic 166, 3) := by decide +kernel
theorem d_Mod_says_25 : decode b_Mod_says 25 = .ok (.istore 4, 2) := by decide +kernel
theorem d_Mod_says_27 : decode b_Mod_says 27 = .ok (.iload 4, 2) := by decide +kernel
theorem d_Mod_says_29 : decode b_Mod_says 29 = .ok (.ifCond .ne 20, 3) := by decide +kernel
theorem d_Mod_says_32 : decode b_Mod_says 32 = .ok (.aload_n 0, 1) := by decide +kernel
theorem d_Mod_says_33 : decode b_Mod_says 33 = .ok (.bipush 24, 2) := by decide +kernel
theorem d_Mod_says_35 : decode b_Mod_says 35 = .ok (.iload_n 1, 1) := by decide +kernel
theorem d_Mod_says_36 : decode b_Mod_says 36 = .ok (.imul, 1) := by decide +kernel
theorem d_Mod_says_37 : decode b_Mod_says 37 = .ok (.iload_n 2, 1) := by decide +kernel
theorem d_Mod_says_38 : decode b_Mod_says 38 = .ok (.iadd, 1) := by decide +kernel
theorem d_Mod_says_39 : decode b_Mod_says 39 = .ok (.invokevirtual 202, 3) := by decide +kernel
theorem d_Mod_says_42 : decode b_Mod_says 42 = .ok (.ifCond .ne 7, 3) := by decide +kernel
theorem d_Mod_says_45 : decode b_Mod_says 45 = .ok (.bipush (-6), 2) := by decide +kernel
theorem d_Mod_says_47 : decode b_Mod_says 47 = .ok (.istore 4, 2) := by decide +kernel
theorem d_Mod_says_49 : decode b_Mod_says 49 = .ok (.iload 4, 2) := by decide +kernel
theorem d_Mod_says_51 : decode b_Mod_says 51 = .ok (.ifCond .eq 10, 3) := by decide +kernel
theorem d_Mod_says_54 : decode b_Mod_says 54 = .ok (.aload_n 0, 1) := by decide +kernel
theorem d_Mod_says_55 : decode b_Mod_says 55 = .ok (.iload 4, 2) := by decide +kernel
theorem d_Mod_says_57 : decode b_Mod_says 57 = .ok (.invokevirtual 172, 3) := by decide +kernel
theorem d_Mod_says_60 : decode b_Mod_says 60 = .ok (.ireturn, 1) := by decide +kernel
theorem d_Mod_says_61 : decode b_Mod_says 61 = .ok (.aload_n 0, 1) := by decide +kernel
theorem d_Mod_says_62 : decode b_Mod_says 62 = .ok (.bipush 24, 2) := by decide +kernel
theorem d_Mod_says_64 : decode b_Mod_says 64 = .ok (.iload_n 1, 1) := by decide +kernel
theorem d_Mod_says_65 : decode b_Mod_says 65 = .ok (.imul, 1) := by decide +kernel
theorem d_Mod_says_66 : decode b_Mod_says 66 = .ok (.iload_n 2, 1) := by decide +kernel
theorem d_Mod_says_67 : decode b_Mod_says 67 = .ok (.iadd, 1) := by decide +kernel
theorem d_Mod_says_68 : decode b_Mod_says 68 = .ok (.invokevirtual 282, 3) := by decide +kernel
theorem d_Mod_says_71 : decode b_Mod_says 71 = .ok (.istore 5, 2) := by decide +kernel
theorem d_Mod_says_73 : decode b_Mod_says 73 = .ok (.aload_n 0, 1) := by decide +kernel
theorem d_Mod_says_74 : decode b_Mod_says 74 = .ok (.bipush 24, 2) := by decide +kernel
theorem d_Mod_says_76 : decode b_Mod_says 76 = .ok (.iload_n 1, 1) := by decide +kernel
theorem d_Mod_says_77 : decode b_Mod_says 77 = .ok (.imul, 1) := by decide +kernel
theorem d_Mod_says_78 : decode b_Mod_says 78 = .ok (.iload_n 2, 1) := by decide +kernel
theorem d_Mod_says_79 : decode b_Mod_says 79 = .ok (.iadd, 1) := by decide +kernel
theorem d_Mod_says_80 : decode b_Mod_says 80 = .ok (.iload_n 3, 1) := by decide +kernel
theorem d_Mod_says_81 : decode b_Mod_says 81 = .ok (.invokevirtual 205, 3) := by decide +kernel
theorem d_Mod_says_84 : decode b_Mod_says 84 = .ok (.iload 5, 2) := by decide +kernel
theorem d_Mod_says_86 : decode b_Mod_says 86 = .ok (.ireturn, 1) := by decide +kernel
def m_Mod_says (x1 : Int) (x2 : Int) (x3 : Int) (m_refused : Int → Int) (m_bytes : Int → Int) (m_owner : Int → Int) (m_block : Int → Int) (m_written : Int → Int) (m_waits : Int → Int) : Option (Int × (Int → Int) × (Int → Int)) :=
  bnd (m_Mod_isFile x1) (fun r1 => jn (fun (z4 : Int) (z5 : Int) (z6 : Int) (z7 : Int) (c8 : Int → Int) (c9 : Int → Int) => jn (fun (z11 : Int) (z12 : Int) (z13 : Int) (z14 : Int) (c15 : Int → Int) (c16 : Int → Int) => ceq z14 0 (bnd (m_Mod_readAt ((24 * z11) + z12) m_bytes m_block m_written c16) (fun r17 => bnd (m_Mod_saysAt ((24 * z11) + z12) z13 c16) (fun r19 => some (r17, c15, r19)))) (bnd (m_Mod_no z14 c15) (fun r21 => some (r21.1, r21.2, c16)))) (fun j10 => ceq z7 0 (bnd (m_Mod_canSay ((24 * z4) + z5) m_owner m_block c9) (fun r25 => ceq r25 0 (j10 z4 z5 z6 (-6) c8 c9) (j10 z4 z5 z6 z7 c8 c9))) (j10 z4 z5 z6 z7 c8 c9))) (fun j3 => jn (fun (z30 : Int) (z31 : Int) (z32 : Int) (c33 : Int → Int) (c34 : Int → Int) => j3 z30 z31 z32 (-1) c33 c34) (fun j29 => ceq r1 0 (j29 x1 x2 x3 m_refused m_waits) (bnd (m_Mod_isPage x2) (fun r37 => ceq r37 0 (j29 x1 x2 x3 m_refused m_waits) (bnd (m_Mod_bound x3 0 99) (fun r39 => j3 x1 x2 x3 r39 m_refused m_waits)))))))
set_option maxHeartbeats 4000000 in
set_option maxRecDepth 100000 in
theorem c_Mod_says (l : Launch) (D : va_G) (cI cB : ClassId) (a0 a1 a2 a3 a4 a5 a6 a7 a8 a9 a10 a11 a12 a13 a14 a15 : Nat) (m_stepsMade : Int) (m_stepsMost : Int) (m_taped : Int) (m_reading : Int) (m_statements : Int) (m_telling : Int) (m_hasImage : Int) (m_isKeeping : Int) (m_cursor : Int) (m_rowMany : Int) (m_lots : Int) (m_refused : Int → Int) (m_bytes : Int → Int) (m_owner : Int → Int) (m_block : Int → Int) (m_written : Int → Int) (m_waits : Int → Int) (m_kinds : Int → Int) (m_tape : Int → Int) (m_sort : Int → Int) (m_sortAt : Int → Int) (m_told : Int → Int) (m_kept : Int → Int) (m_was : Int → Int) (m_ends : Int → Int) (m_row : Int → Int) (x1 : Int) (x2 : Int) (x3 : Int) {o : Int × (Int → Int) × (Int → Int)} (h : m_Mod_says x1 x2 x3 m_refused m_bytes m_owner m_block m_written m_waits = some o) : Ct l D cI cB y_Mod_says b_Mod_says 6 (some .int) { frames := 5, cells := 0, slots := 0, locals := 105 } [.ref a0, .int (zi x1), .int (zi x2), .int (zi x3)] (w_Mod cI cB a0 a1 a2 a3 a4 a5 a6 a7 a8 a9 a10 a11 a12 a13 a14 a15 m_stepsMade m_stepsMost m_taped m_reading m_statements m_telling m_hasImage m_isKeeping m_cursor m_rowMany m_lots m_refused m_bytes m_owner m_block m_written m_waits m_kinds m_tape m_sort m_sortAt m_told m_kept m_was m_ends m_row) (w_Mod cI cB a0 a1 a2 a3 a4 a5 a6 a7 a8 a9 a10 a11 a12 a13 a14 a15 m_stepsMade m_stepsMost m_taped m_reading m_statements m_telling m_hasImage m_isKeeping m_cursor m_rowMany m_lots o.2.1 m_bytes m_owner m_block m_written o.2.2 m_kinds m_tape m_sort m_sortAt m_told m_kept m_was m_ends m_row) (some (.int (zi o.1))) := by
  refine Ct.start (by decide) (Nat.le_of_ble_eq_true rfl) (fun G X hR => ?_)
  refine x_ls (ls2 := [(0, .ref a0), (1, .int (zi x1)), (2, .int (zi x2)), (3, .int (zi x3))]) [0, 1, 2, 3] rfl ?_
  unfold m_Mod_says at h
  refine x_iload_n (pc := 0) X d_Mod_says_0 1 rfl rfl ?_
  obtain ⟨r1, h2, h⟩ := bnd_e h
  refine x_callS (pc := 1) (As := [.int (zi x1)]) (rest := []) (w2 := (w_Mod cI cB a0 a1 a2 a3 a4 a5 a6 a7 a8 a9 a10 a11 a12 a13 a14 a15 m_stepsMade m_stepsMost m_taped m_reading m_statements m_telling m_hasImage m_isKeeping m_cursor m_rowMany m_lots m_refused m_bytes m_owner m_block m_written m_waits m_kinds m_tape m_sort m_sortAt m_told m_kept m_was m_ends m_row)) X d_Mod_says_1 lk_Mod_230 mv_Mod_isFile (c_Mod_isFile l D cI cB x1 h2) ⟨(Nat.le_of_ble_eq_true rfl), (Nat.le_of_ble_eq_true rfl), (Nat.le_of_ble_eq_true rfl), (Nat.le_of_ble_eq_true rfl)⟩ [] rfl rfl rfl (Up.same rfl) rfl rfl (Nat.le_of_ble_eq_true rfl) ?_
  obtain ⟨j3, hj27, h⟩ := jn_e h
  have J28 : ∀ (z4 : Int) (z5 : Int) (z6 : Int) (z7 : Int) (c8 : Int → Int) (c9 : Int → Int), j3 z4 z5 z6 z7 c8 c9 = some o → Wx G 0 0 25 [(0, .ref a0), (1, .int (zi z4)), (2, .int (zi z5)), (3, .int (zi z6))] [.int (zi z7)] (w_Mod cI cB a0 a1 a2 a3 a4 a5 a6 a7 a8 a9 a10 a11 a12 a13 a14 a15 m_stepsMade m_stepsMost m_taped m_reading m_statements m_telling m_hasImage m_isKeeping m_cursor m_rowMany m_lots c8 m_bytes m_owner m_block m_written c9 m_kinds m_tape m_sort m_sortAt m_told m_kept m_was m_ends m_row) := by
    intro z4 z5 z6 z7 c8 c9 h
    rw [hj27] at h
    (try dsimp only at h)
    refine x_istore (pc := 25) (ls2 := [(4, .int (zi z7)), (0, .ref a0), (1, .int (zi z4)), (2, .int (zi z5)), (3, .int (zi z6))]) X d_Mod_says_25 (Nat.le_of_ble_eq_true rfl) rfl ?_
    refine x_iload (pc := 27) X d_Mod_says_27 0 rfl ?_
    obtain ⟨j10, hj23, h⟩ := jn_e h
    have J24 : ∀ (z11 : Int) (z12 : Int) (z13 : Int) (z14 : Int) (c15 : Int → Int) (c16 : Int → Int), j10 z11 z12 z13 z14 c15 c16 = some o → Wx G 0 0 49 [(0, .ref a0), (1, .int (zi z11)), (2, .int (zi z12)), (3, .int (zi z13)), (4, .int (zi z14))] [] (w_Mod cI cB a0 a1 a2 a3 a4 a5 a6 a7 a8 a9 a10 a11 a12 a13 a14 a15 m_stepsMade m_stepsMost m_taped m_reading m_statements m_telling m_hasImage m_isKeeping m_cursor m_rowMany m_lots c15 m_bytes m_owner m_block m_written c16 m_kinds m_tape m_sort m_sortAt m_told m_kept m_was m_ends m_row) := by
      intro z11 z12 z13 z14 c15 c16 h
      rw [hj23] at h
      (try dsimp only at h)
      refine x_iload (pc := 49) X d_Mod_says_49 4 rfl ?_
      refine x_ifeq (pc := 51) (tgt := 61) X d_Mod_says_51 rfl h (fun h => ?_) (fun h => ?_)
      · skip
        refine x_aload_n (pc := 61) X d_Mod_says_61 0 rfl rfl ?_
        refine x_bipush (pc := 62) (v := 24) X d_Mod_says_62 rfl ?_
        refine x_iload_n (pc := 64) X d_Mod_says_64 1 rfl rfl ?_
        refine x_imul (pc := 65) X d_Mod_says_65  ?_
        refine x_iload_n (pc := 66) X d_Mod_says_66 2 rfl rfl ?_
        refine x_iadd (pc := 67) X d_Mod_says_67  ?_
        obtain ⟨r17, h18, h⟩ := bnd_e h
        refine x_callV (pc := 68) (As := [.int (zi ((24 * z11) + z12))]) (rest := []) (w2 := (w_Mod cI cB a0 a1 a2 a3 a4 a5 a6 a7 a8 a9 a10 a11 a12 a13 a14 a15 m_stepsMade m_stepsMost m_taped m_reading m_statements m_telling m_hasImage m_isKeeping m_cursor m_rowMany m_lots c15 m_bytes m_owner m_block m_written c16 m_kinds m_tape m_sort m_sortAt m_told m_kept m_was m_ends m_row)) X d_Mod_says_68 lk_Mod_282 mv_Mod_readAt (c_Mod_readAt l D cI cB a0 a1 a2 a3 a4 a5 a6 a7 a8 a9 a10 a11 a12 a13 a14 a15 m_stepsMade m_stepsMost m_taped m_reading m_statements m_telling m_hasImage m_isKeeping m_cursor m_rowMany m_lots c15 m_bytes m_owner m_block m_written c16 m_kinds m_tape m_sort m_sortAt m_told m_kept m_was m_ends m_row ((24 * z11) + z12) h18) ⟨(Nat.le_of_ble_eq_true rfl), (Nat.le_of_ble_eq_true rfl), (Nat.le_of_ble_eq_true rfl), (Nat.le_of_ble_eq_true rfl)⟩ 0 rfl rfl [0, 1, 2, 3, 4, 5, 6, 7, 8, 9, 10, 11, 12, 13, 14, 15] rfl rfl rfl (Up.same rfl) rfl rfl (Nat.le_of_ble_eq_true rfl) ?_
        refine x_istore (pc := 71) (ls2 := [(5, .int (zi r17)), (0, .ref a0), (1, .int (zi z11)), (2, .int (zi z12)), (3, .int (zi z13)), (4, .int (zi z14))]) X d_Mod_says_71 (Nat.le_of_ble_eq_true rfl) rfl ?_
        refine x_aload_n (pc := 73) X d_Mod_says_73 1 rfl rfl ?_
        refine x_bipush (pc := 74) (v := 24) X d_Mod_says_74 rfl ?_
        refine x_iload_n (pc := 76) X d_Mod_says_76 2 rfl rfl ?_
        refine x_imul (pc := 77) X d_Mod_says_77  ?_
        refine x_iload_n (pc := 78) X d_Mod_says_78 3 rfl rfl ?_
        refine x_iadd (pc := 79) X d_Mod_says_79  ?_
        refine x_iload_n (pc := 80) X d_Mod_says_80 4 rfl rfl ?_
        obtain ⟨r19, h20, h⟩ := bnd_e h
        refine x_callV (pc := 81) (As := [.int (zi ((24 * z11) + z12)), .int (zi z13)]) (rest := []) (w2 := (w_Mod cI cB a0 a1 a2 a3 a4 a5 a6 a7 a8 a9 a10 a11 a12 a13 a14 a15 m_stepsMade m_stepsMost m_taped m_reading m_statements m_telling m_hasImage m_isKeeping m_cursor m_rowMany m_lots c15 m_bytes m_owner m_block m_written r19 m_kinds m_tape m_sort m_sortAt m_told m_kept m_was m_ends m_row)) X d_Mod_says_81 lk_Mod_205 mv_Mod_saysAt (c_Mod_saysAt l D cI cB a0 a1 a2 a3 a4 a5 a6 a7 a8 a9 a10 a11 a12 a13 a14 a15 m_stepsMade m_stepsMost m_taped m_reading m_statements m_telling m_hasImage m_isKeeping m_cursor m_rowMany m_lots c15 m_bytes m_owner m_block m_written c16 m_kinds m_tape m_sort m_sortAt m_told m_kept m_was m_ends m_row ((24 * z11) + z12) z13 h20) ⟨(Nat.le_of_ble_eq_true rfl), (Nat.le_of_ble_eq_true rfl), (Nat.le_of_ble_eq_true rfl), (Nat.le_of_ble_eq_true rfl)⟩ 0 rfl rfl [0, 1, 2, 3, 4, 5, 6, 7, 8, 9, 10, 11, 12, 13, 14, 15] rfl rfl rfl (Up.of [] [] rfl rfl rfl 16 rfl (by decide +kernel)) rfl rfl (Nat.le_of_ble_eq_true rfl) ?_
        refine x_iload (pc := 84) X d_Mod_says_84 0 rfl ?_
        cases h
        exact x_iret (pc := 86) X hR d_Mod_says_86
      · skip
        refine x_aload_n (pc := 54) X d_Mod_says_54 0 rfl rfl ?_
        refine x_iload (pc := 55) X d_Mod_says_55 4 rfl ?_
        obtain ⟨r21, h22, h⟩ := bnd_e h
        refine x_callV (pc := 57) (As := [.int (zi z14)]) (rest := []) (w2 := (w_Mod cI cB a0 a1 a2 a3 a4 a5 a6 a7 a8 a9 a10 a11 a12 a13 a14 a15 m_stepsMade m_stepsMost m_taped m_reading m_statements m_telling m_hasImage m_isKeeping m_cursor m_rowMany m_lots r21.2 m_bytes m_owner m_block m_written c16 m_kinds m_tape m_sort m_sortAt m_told m_kept m_was m_ends m_row)) X d_Mod_says_57 lk_Mod_172 mv_Mod_no (c_Mod_no l D cI cB a0 a1 a2 a3 a4 a5 a6 a7 a8 a9 a10 a11 a12 a13 a14 a15 m_stepsMade m_stepsMost m_taped m_reading m_statements m_telling m_hasImage m_isKeeping m_cursor m_rowMany m_lots c15 m_bytes m_owner m_block m_written c16 m_kinds m_tape m_sort m_sortAt m_told m_kept m_was m_ends m_row z14 h22) ⟨(Nat.le_of_ble_eq_true rfl), (Nat.le_of_ble_eq_true rfl), (Nat.le_of_ble_eq_true rfl), (Nat.le_of_ble_eq_true rfl)⟩ 0 rfl rfl [0, 1, 2, 3, 4, 5, 6, 7, 8, 9, 10, 11, 12, 13, 14, 15] rfl rfl rfl (Up.of [] [] rfl rfl rfl 16 rfl (by decide +kernel)) rfl rfl (Nat.le_of_ble_eq_true rfl) ?_
        cases h
        exact x_iret (pc := 60) X hR d_Mod_says_60
    clear hj23
    refine x_ifne (pc := 29) (tgt := 49) X d_Mod_says_29 rfl h (fun h => ?_) (fun h => ?_)
    · skip
      refine x_ls (ls2 := [(0, .ref a0), (1, .int (zi z4)), (2, .int (zi z5)), (3, .int (zi z6)), (4, .int (zi z7))]) [1, 2, 3, 4, 0] rfl ?_
      exact J24 z4 z5 z6 z7 c8 c9 h
    · skip
      refine x_aload_n (pc := 32) X d_Mod_says_32 1 rfl rfl ?_
      refine x_bipush (pc := 33) (v := 24) X d_Mod_says_33 rfl ?_
      refine x_iload_n (pc := 35) X d_Mod_says_35 2 rfl rfl ?_
      refine x_imul (pc := 36) X d_Mod_says_36  ?_
      refine x_iload_n (pc := 37) X d_Mod_says_37 3 rfl rfl ?_
      refine x_iadd (pc := 38) X d_Mod_says_38  ?_
      obtain ⟨r25, h26, h⟩ := bnd_e h
      refine x_callV (pc := 39) (As := [.int (zi ((24 * z4) + z5))]) (rest := []) (w2 := (w_Mod cI cB a0 a1 a2 a3 a4 a5 a6 a7 a8 a9 a10 a11 a12 a13 a14 a15 m_stepsMade m_stepsMost m_taped m_reading m_statements m_telling m_hasImage m_isKeeping m_cursor m_rowMany m_lots c8 m_bytes m_owner m_block m_written c9 m_kinds m_tape m_sort m_sortAt m_told m_kept m_was m_ends m_row)) X d_Mod_says_39 lk_Mod_202 mv_Mod_canSay (c_Mod_canSay l D cI cB a0 a1 a2 a3 a4 a5 a6 a7 a8 a9 a10 a11 a12 a13 a14 a15 m_stepsMade m_stepsMost m_taped m_reading m_statements m_telling m_hasImage m_isKeeping m_cursor m_rowMany m_lots c8 m_bytes m_owner m_block m_written c9 m_kinds m_tape m_sort m_sortAt m_told m_kept m_was m_ends m_row ((24 * z4) + z5) h26) ⟨(Nat.le_of_ble_eq_true rfl), (Nat.le_of_ble_eq_true rfl), (Nat.le_of_ble_eq_true rfl), (Nat.le_of_ble_eq_true rfl)⟩ 0 rfl rfl [0, 1, 2, 3, 4, 5, 6, 7, 8, 9, 10, 11, 12, 13, 14, 15] rfl rfl rfl (Up.same rfl) rfl rfl (Nat.le_of_ble_eq_true rfl) ?_
      refine x_ifne (pc := 42) (tgt := 49) X d_Mod_says_42 rfl h (fun h => ?_) (fun h => ?_)
      · skip
        refine x_ls (ls2 := [(0, .ref a0), (1, .int (zi z4)), (2, .int (zi z5)), (3, .int (zi z6)), (4, .int (zi z7))]) [1, 2, 3, 4, 0] rfl ?_
        exact J24 z4 z5 z6 z7 c8 c9 h
      · skip
        refine x_bipush (pc := 45) (v := -6) X d_Mod_says_45 rfl ?_
        refine x_istore (pc := 47) (ls2 := [(4, .int (zi (-6))), (0, .ref a0), (1, .int (zi z4)), (2, .int (zi z5)), (3, .int (zi z6))]) X d_Mod_says_47 (Nat.le_of_ble_eq_true rfl) rfl ?_
        refine x_ls (ls2 := [(0, .ref a0), (1, .int (zi z4)), (2, .int (zi z5)), (3, .int (zi z6)), (4, .int (zi (-6)))]) [1, 2, 3, 4, 0] rfl ?_
        exact J24 z4 z5 z6 (-6) c8 c9 h
  clear hj27
  obtain ⟨j29, hj35, h⟩ := jn_e h
  have J36 : ∀ (z30 : Int) (z31 : Int) (z32 : Int) (c33 : Int → Int) (c34 : Int → Int), j29 z30 z31 z32 c33 c34 = some o → Wx G 0 0 14 [(0, .ref a0), (1, .int (zi z30)), (2, .int (zi z31)), (3, .int (zi z32))] [] (w_Mod cI cB a0 a1 a2 a3 a4 a5 a6 a7 a8 a9 a10 a11 a12 a13 a14 a15 m_stepsMade m_stepsMost m_taped m_reading m_statements m_telling m_hasImage m_isKeeping m_cursor m_rowMany m_lots c33 m_bytes m_owner m_block m_written c34 m_kinds m_tape m_sort m_sortAt m_told m_kept m_was m_ends m_row) := by
    intro z30 z31 z32 c33 c34 h
    rw [hj35] at h
    (try dsimp only at h)
    refine x_iconst (pc := 14) X d_Mod_says_14  ?_
    refine x_goto (pc := 15) (tgt := 25) X d_Mod_says_15 rfl ?_
    exact J28 z30 z31 z32 (-1) c33 c34 h
  clear hj35
  refine x_ifeq (pc := 4) (tgt := 14) X d_Mod_says_4 rfl h (fun h => ?_) (fun h => ?_)
  · skip
    exact J36 x1 x2 x3 m_refused m_waits h
  · skip
    refine x_iload_n (pc := 7) X d_Mod_says_7 2 rfl rfl ?_
    obtain ⟨r37, h38, h⟩ := bnd_e h
    refine x_callS (pc := 8) (As := [.int (zi x2)]) (rest := []) (w2 := (w_Mod cI cB a0 a1 a2 a3 a4 a5 a6 a7 a8 a9 a10 a11 a12 a13 a14 a15 m_stepsMade m_stepsMost m_taped m_reading m_statements m_telling m_hasImage m_isKeeping m_cursor m_rowMany m_lots m_refused m_bytes m_owner m_block m_written m_waits m_kinds m_tape m_sort m_sortAt m_told m_kept m_was m_ends m_row)) X d_Mod_says_8 lk_Mod_199 mv_Mod_isPage (c_Mod_isPage l D cI cB x2 h38) ⟨(Nat.le_of_ble_eq_true rfl), (Nat.le_of_ble_eq_true rfl), (Nat.le_of_ble_eq_true rfl), (Nat.le_of_ble_eq_true rfl)⟩ [] rfl rfl rfl (Up.same rfl) rfl rfl (Nat.le_of_ble_eq_true rfl) ?_
    refine x_ifne (pc := 11) (tgt := 18) X d_Mod_says_11 rfl h (fun h => ?_) (fun h => ?_)
    · skip
      refine x_iload_n (pc := 18) X d_Mod_says_18 3 rfl rfl ?_
      refine x_iconst (pc := 19) X d_Mod_says_19  ?_
      refine x_bipush (pc := 20) (v := 99) X d_Mod_says_20 rfl ?_
      obtain ⟨r39, h40, h⟩ := bnd_e h
      refine x_callS (pc := 22) (As := [.int (zi x3), .int (zi 0), .int (zi 99)]) (rest := []) (w2 := (w_Mod cI cB a0 a1 a2 a3 a4 a5 a6 a7 a8 a9 a10 a11 a12 a13 a14 a15 m_stepsMade m_stepsMost m_taped m_reading m_statements m_telling m_hasImage m_isKeeping m_cursor m_rowMany m_lots m_refused m_bytes m_owner m_block m_written m_waits m_kinds m_tape m_sort m_sortAt m_told m_kept m_was m_ends m_row)) X d_Mod_says_22 lk_Mod_166 mv_Mod_bound (c_Mod_bound l D cI cB x3 0 99 h40) ⟨(Nat.le_of_ble_eq_true rfl), (Nat.le_of_ble_eq_true rfl), (Nat.le_of_ble_eq_true rfl), (Nat.le_of_ble_eq_true rfl)⟩ [] rfl rfl rfl (Up.same rfl) rfl rfl (Nat.le_of_ble_eq_true rfl) ?_
      exact J28 x1 x2 x3 r39 m_refused m_waits h
    · skip
      exact J36 x1 x2 x3 m_refused m_waits h
theorem d_Mod_ahead_0 : decode b_Mod_ahead 0 = .ok (.iload_n 1, 1) := by decide +kernel
theorem d_Mod_ahead_1 : decode b_Mod_ahead 1 = .ok (.invokestatic 230, 3) := by decide +kernel
theorem d_Mod_ahead_4 : decode b_Mod_ahead 4 = .ok (.ifCond .eq 10, 3) := by decide +kernel
theorem d_Mod_ahead_7 : decode b_Mod_ahead 7 = .ok (.iload_n 2, 1) := by decide +kernel
theorem d_Mod_ahead_8 : decode b_Mod_ahead 8 = .ok (.invokestatic 199, 3) := by decide +kernel
theorem d_Mod_ahead_11 : decode b_Mod_ahead 11 = .ok (.ifCond .ne 7, 3) := by decide +kernel
theorem d_Mod_ahead_14 : decode b_Mod_ahead 14 = .ok (.iconst (-1), 1) := by decide +kernel
theorem d_Mod_ahead_15 : decode b_Mod_ahead 15 = .ok (.goto 12, 3) := by decide +kernel
theorem d_Mod_ahead_18 : decode b_Mod_ahead 18 = .ok (.iload_n 3, 1) := by decide +kernel
theorem d_Mod_ahead_19 : decode b_Mod_ahead 19 = .ok (.iconst 1, 1) := by decide +kernel
theorem d_Mod_ahead_20 : decode b_Mod_ahead 20 = .ok (.bipush 24, 2) := by decide +kernel
theorem d_Mod_ahead_22 : decode b_Mod_ahead 22 = .ok (.iload_n 2, 1) := by decide +kernel
theorem d_Mod_ahead_23 : decode b_Mod_ahead 23 = .ok (.isub, 1) := by decide +kernel
theorem d_Mod_ahead_24 : decode b_Mod_ahead 24 = .ok (.invokestatic 166, 3) := by decide +kernel
theorem d_Mod_ahead_27 : decode b_Mod_ahead 27 = .ok (.istore 4, 2) := by decide +kernel
theorem d_Mod_ahead_29 : decode b_Mod_ahead 29 = .ok (.iload 4, 2) := by decide +kernel
theorem d_Mod_ahead_31 : decode b_Mod_ahead 31 = .ok (.ifCond .ne 21, 3) := by decide +kernel
theorem d_Mod_ahead_34 : decode b_Mod_ahead 34 = .ok (.aload_n 0, 1) := by decide +kernel
theorem d_Mod_ahead_35 : decode b_Mod_ahead 35 = .ok (.invokevirtual 162, 3) := by decide +kernel
theorem d_Mod_ahead_38 : decode b_Mod_ahead 38 = .ok (.aload_n 0, 1) := by decide +kernel
theorem d_Mod_ahead_39 : decode b_Mod_ahead 39 = .ok (.iload_n 1, 1) := by decide +kernel
theorem d_Mod_ahead_40 : decode b_Mod_ahead 40 = .ok (.iload_n 2, 1) := by decide +kernel
theorem d_Mod_ahead_41 : decode b_Mod_ahead 41 = .ok (.iload_n 3, 1) := by decide +kernel
theorem d_Mod_ahead_42 : decode b_Mod_ahead 42 = .ok (.invokevirtual 212, 3) := by decide +kernel
theorem d_Mod_ahead_45 : decode b_Mod_ahead 45 = .ok (.if_icmp .ge 7, 3) := by decide +kernel
theorem d_Mod_ahead_48 : decode b_Mod_ahead 48 = .ok (.bipush (-6), 2) := by decide +kernel
theorem d_Mod_ahead_50 : decode b_Mod_ahead 50 = .ok (.istore 4, 2) := by decide +kernel
theorem d_Mod_ahead_52 : decode b_Mod_ahead 52 = .ok (.iload 4, 2) := by decide +kernel
theorem d_Mod_ahead_54 : decode b_Mod_ahead 54 = .ok (.ifCond .eq 10, 3) := by decide +kernel
theorem d_Mod_ahead_57 : decode b_Mod_ahead 57 = .ok (.aload_n 0, 1) := by decide +kernel
theorem d_Mod_ahead_58 : decode b_Mod_ahead 58 = .ok (.iload 4, 2) := by decide +kernel
theorem d_Mod_ahead_60 : decode b_Mod_ahead 60 = .ok (.invokevirtual 172, 3) := by decide +kernel
theorem d_Mod_ahead_63 : decode b_Mod_ahead 63 = .ok (.ireturn, 1) := by decide +kernel
theorem d_Mod_ahead_64 : decode b_Mod_ahead 64 = .ok (.aload_n 0, 1) := by decide +kernel
theorem d_Mod_ahead_65 : decode b_Mod_ahead 65 = .ok (.iload_n 1, 1) := by decide +kernel
theorem d_Mod_ahead_66 : decode b_Mod_ahead 66 = .ok (.iload_n 2, 1) := by decide +kernel
theorem d_Mod_ahead_67 : decode b_Mod_ahead 67 = .ok (.iload_n 3, 1) := by decide +kernel
theorem d_Mod_ahead_68 : decode b_Mod_ahead 68 = .ok (.invokevirtual 212, 3) := by decide +kernel
theorem d_Mod_ahead_71 : decode b_Mod_ahead 71 = .ok (.istore 5, 2) := by decide +kernel
theorem d_Mod_ahead_73 : decode b_Mod_ahead 73 = .ok (.aload_n 0, 1) := by decide +kernel
theorem d_Mod_ahead_74 : decode b_Mod_ahead 74 = .ok (.iload_n 1, 1) := by decide +kernel
theorem d_Mod_ahead_75 : decode b_Mod_ahead 75 = .ok (.iload_n 2, 1) := by decide +kernel
theorem d_Mod_ahead_76 : decode b_Mod_ahead 76 = .ok (.iload_n 3, 1) := by decide +kernel
theorem d_Mod_ahead_77 : decode b_Mod_ahead 77 = .ok (.invokevirtual 215, 3) := by decide +kernel
theorem d_Mod_ahead_80 : decode b_Mod_ahead 80 = .ok (.iload 5, 2) := by decide +kernel
theorem d_Mod_ahead_82 : decode b_Mod_ahead 82 = .ok (.ireturn, 1) := by decide +kernel
def m_Mod_ahead (x1 : Int) (x2 : Int) (x3 : Int) (m_stepsMade : Int) (m_stepsMost : Int) (m_refused : Int → Int) (m_owner : Int → Int) (m_block : Int → Int) (m_written : Int → Int) (m_waits : Int → Int) (m_kinds : Int → Int) : Option (Int × Int × Int × (Int → Int) × (Int → Int) × (Int → Int) × (Int → Int)) :=
  bnd (m_Mod_isFile x1) (fun r1 => jn (fun (z4 : Int) (z5 : Int) (z6 : Int) (z7 : Int) (c8 : Int) (c9 : Int) (c10 : Int → Int) (c11 : Int → Int) (c12 : Int → Int) (c13 : Int → Int) => jn (fun (z15 : Int) (z16 : Int) (z17 : Int) (z18 : Int) (c19 : Int) (c20 : Int) (c21 : Int → Int) (c22 : Int → Int) (c23 : Int → Int) (c24 : Int → Int) => ceq z18 0 (bnd (m_Mod_holesAmong z15 z16 z17 c23 m_waits) (fun r25 => bnd (m_Mod_goesAhead z15 z16 z17 c19 c20 c22 c23 c24 m_waits m_kinds) (fun r27 => some (r25, r27.1, r27.2.1, c21, r27.2.2.1, r27.2.2.2.1, r27.2.2.2.2)))) (bnd (m_Mod_no z18 c21) (fun r29 => some (r29.1, c19, c20, r29.2, c22, c23, c24)))) (fun j14 => ceq z7 0 (bnd (m_Mod_roomNow c11 c12 m_waits) (fun r33 => bnd (m_Mod_holesAmong z4 z5 z6 c12 m_waits) (fun r35 => clt r33 r35 (j14 z4 z5 z6 (-6) c8 c9 c10 c11 c12 c13) (j14 z4 z5 z6 z7 c8 c9 c10 c11 c12 c13)))) (j14 z4 z5 z6 z7 c8 c9 c10 c11 c12 c13))) (fun j3 => jn (fun (z40 : Int) (z41 : Int) (z42 : Int) (c43 : Int) (c44 : Int) (c45 : Int → Int) (c46 : Int → Int) (c47 : Int → Int) (c48 : Int → Int) => j3 z40 z41 z42 (-1) c43 c44 c45 c46 c47 c48) (fun j39 => ceq r1 0 (j39 x1 x2 x3 m_stepsMade m_stepsMost m_refused m_owner m_block m_written) (bnd (m_Mod_isPage x2) (fun r51 => ceq r51 0 (j39 x1 x2 x3 m_stepsMade m_stepsMost m_refused m_owner m_block m_written) (bnd (m_Mod_bound x3 1 (24 - x2)) (fun r53 => j3 x1 x2 x3 r53 m_stepsMade m_stepsMost m_refused m_owner m_block m_written)))))))
set_option maxHeartbeats 4000000 in
set_option maxRecDepth 100000 in
theorem c_Mod_ahead (l : Launch) (D : va_G) (cI cB : ClassId) (a0 a1 a2 a3 a4 a5 a6 a7 a8 a9 a10 a11 a12 a13 a14 a15 : Nat) (m_stepsMade : Int) (m_stepsMost : Int) (m_taped : Int) (m_reading : Int) (m_statements : Int) (m_telling : Int) (m_hasImage : Int) (m_isKeeping : Int) (m_cursor : Int) (m_rowMany : Int) (m_lots : Int) (m_refused : Int → Int) (m_bytes : Int → Int) (m_owner : Int → Int) (m_block : Int → Int) (m_written : Int → Int) (m_waits : Int → Int) (m_kinds : Int → Int) (m_tape : Int → Int) (m_sort : Int → Int) (m_sortAt : Int → Int) (m_told : Int → Int) (m_kept : Int → Int) (m_was : Int → Int) (m_ends : Int → Int) (m_row : Int → Int) (x1 : Int) (x2 : Int) (x3 : Int) {o : Int × Int × Int × (Int → Int) × (Int → Int) × (Int → Int) × (Int → Int)} (h : m_Mod_ahead x1 x2 x3 m_stepsMade m_stepsMost m_refused m_owner m_block m_written m_waits m_kinds = some o) : Ct l D cI cB y_Mod_ahead b_Mod_ahead 6 (some .int) { frames := 5, cells := 0, slots := 0, locals := 122 } [.ref a0, .int (zi x1), .int (zi x2), .int (zi x3)] (w_Mod cI cB a0 a1 a2 a3 a4 a5 a6 a7 a8 a9 a10 a11 a12 a13 a14 a15 m_stepsMade m_stepsMost m_taped m_reading m_statements m_telling m_hasImage m_isKeeping m_cursor m_rowMany m_lots m_refused m_bytes m_owner m_block m_written m_waits m_kinds m_tape m_sort m_sortAt m_told m_kept m_was m_ends m_row) (w_Mod cI cB a0 a1 a2 a3 a4 a5 a6 a7 a8 a9 a10 a11 a12 a13 a14 a15 o.2.1 o.2.2.1 m_taped m_reading m_statements m_telling m_hasImage m_isKeeping m_cursor m_rowMany m_lots o.2.2.2.1 m_bytes o.2.2.2.2.1 o.2.2.2.2.2.1 o.2.2.2.2.2.2 m_waits m_kinds m_tape m_sort m_sortAt m_told m_kept m_was m_ends m_row) (some (.int (zi o.1))) := by
  refine Ct.start (by decide) (Nat.le_of_ble_eq_true rfl) (fun G X hR => ?_)
  refine x_ls (ls2 := [(0, .ref a0), (1, .int (zi x1)), (2, .int (zi x2)), (3, .int (zi x3))]) [0, 1, 2, 3] rfl ?_
  unfold m_Mod_ahead at h
  refine x_iload_n (pc := 0) X d_Mod_ahead_0 1 rfl rfl ?_
  obtain ⟨r1, h2, h⟩ := bnd_e h
  refine x_callS (pc := 1) (As := [.int (zi x1)]) (rest := []) (w2 := (w_Mod cI cB a0 a1 a2 a3 a4 a5 a6 a7 a8 a9 a10 a11 a12 a13 a14 a15 m_stepsMade m_stepsMost m_taped m_reading m_statements m_telling m_hasImage m_isKeeping m_cursor m_rowMany m_lots m_refused m_bytes m_owner m_block m_written m_waits m_kinds m_tape m_sort m_sortAt m_told m_kept m_was m_ends m_row)) X d_Mod_ahead_1 lk_Mod_230 mv_Mod_isFile (c_Mod_isFile l D cI cB x1 h2) ⟨(Nat.le_of_ble_eq_true rfl), (Nat.le_of_ble_eq_true rfl), (Nat.le_of_ble_eq_true rfl), (Nat.le_of_ble_eq_true rfl)⟩ [] rfl rfl rfl (Up.same rfl) rfl rfl (Nat.le_of_ble_eq_true rfl) ?_
  obtain ⟨j3, hj37, h⟩ := jn_e h
  have J38 : ∀ (z4 : Int) (z5 : Int) (z6 : Int) (z7 : Int) (c8 : Int) (c9 : Int) (c10 : Int → Int) (c11 : Int → Int) (c12 : Int → Int) (c13 : Int → Int), j3 z4 z5 z6 z7 c8 c9 c10 c11 c12 c13 = some o → Wx G 0 0 27 [(0, .ref a0), (1, .int (zi z4)), (2, .int (zi z5)), (3, .int (zi z6))] [.int (zi z7)] (w_Mod cI cB a0 a1 a2 a3 a4 a5 a6 a7 a8 a9 a10 a11 a12 a13 a14 a15 c8 c9 m_taped m_reading m_statements m_telling m_hasImage m_isKeeping m_cursor m_rowMany m_lots c10 m_bytes c11 c12 c13 m_waits m_kinds m_tape m_sort m_sortAt m_told m_kept m_was m_ends m_row) := by
    intro z4 z5 z6 z7 c8 c9 c10 c11 c12 c13 h
    rw [hj37] at h
    (try dsimp only at h)
    refine x_istore (pc := 27) (ls2 := [(4, .int (zi z7)), (0, .ref a0), (1, .int (zi z4)), (2, .int (zi z5)), (3, .int (zi z6))]) X d_Mod_ahead_27 (Nat.le_of_ble_eq_true rfl) rfl ?_
    refine x_iload (pc := 29) X d_Mod_ahead_29 0 rfl ?_
    obtain ⟨j14, hj31, h⟩ := jn_e h
    have J32 : ∀ (z15 : Int) (z16 : Int) (z17 : Int) (z18 : Int) (c19 : Int) (c20 : Int) (c21 : Int → Int) (c22 : Int → Int) (c23 : Int → Int) (c24 : Int → Int), j14 z15 z16 z17 z18 c19 c20 c21 c22 c23 c24 = some o → Wx G 0 0 52 [(0, .ref a0), (1, .int (zi z15)), (2, .int (zi z16)), (3, .int (zi z17)), (4, .int (zi z18))] [] (w_Mod cI cB a0 a1 a2 a3 a4 a5 a6 a7 a8 a9 a10 a11 a12 a13 a14 a15 c19 c20 m_taped m_reading m_statements m_telling m_hasImage m_isKeeping m_cursor m_rowMany m_lots c21 m_bytes c22 c23 c24 m_waits m_kinds m_tape m_sort m_sortAt m_told m_kept m_was m_ends m_row) := by
      intro z15 z16 z17 z18 c19 c20 c21 c22 c23 c24 h
      rw [hj31] at h
      (try dsimp only at h)
      refine x_iload (pc := 52) X d_Mod_ahead_52 4 rfl ?_
      refine x_ifeq (pc := 54) (tgt := 64) X d_Mod_ahead_54 rfl h (fun h => ?_) (fun h => ?_)
      · skip
        refine x_aload_n (pc := 64) X d_Mod_ahead_64 0 rfl rfl ?_
        refine x_iload_n (pc := 65) X d_Mod_ahead_65 1 rfl rfl ?_
        refine x_iload_n (pc := 66) X d_Mod_ahead_66 2 rfl rfl ?_
        refine x_iload_n (pc := 67) X d_Mod_ahead_67 3 rfl rfl ?_
        obtain ⟨r25, h26, h⟩ := bnd_e h
        refine x_callV (pc := 68) (As := [.int (zi z15), .int (zi z16), .int (zi z17)]) (rest := []) (w2 := (w_Mod cI cB a0 a1 a2 a3 a4 a5 a6 a7 a8 a9 a10 a11 a12 a13 a14 a15 c19 c20 m_taped m_reading m_statements m_telling m_hasImage m_isKeeping m_cursor m_rowMany m_lots c21 m_bytes c22 c23 c24 m_waits m_kinds m_tape m_sort m_sortAt m_told m_kept m_was m_ends m_row)) X d_Mod_ahead_68 lk_Mod_212 mv_Mod_holesAmong (c_Mod_holesAmong l D cI cB a0 a1 a2 a3 a4 a5 a6 a7 a8 a9 a10 a11 a12 a13 a14 a15 c19 c20 m_taped m_reading m_statements m_telling m_hasImage m_isKeeping m_cursor m_rowMany m_lots c21 m_bytes c22 c23 c24 m_waits m_kinds m_tape m_sort m_sortAt m_told m_kept m_was m_ends m_row z15 z16 z17 h26) ⟨(Nat.le_of_ble_eq_true rfl), (Nat.le_of_ble_eq_true rfl), (Nat.le_of_ble_eq_true rfl), (Nat.le_of_ble_eq_true rfl)⟩ 0 rfl rfl [0, 1, 2, 3, 4, 5, 6, 7, 8, 9, 10, 11, 12, 13, 14, 15] rfl rfl rfl (Up.same rfl) rfl rfl (Nat.le_of_ble_eq_true rfl) ?_
        refine x_istore (pc := 71) (ls2 := [(5, .int (zi r25)), (0, .ref a0), (1, .int (zi z15)), (2, .int (zi z16)), (3, .int (zi z17)), (4, .int (zi z18))]) X d_Mod_ahead_71 (Nat.le_of_ble_eq_true rfl) rfl ?_
        refine x_aload_n (pc := 73) X d_Mod_ahead_73 1 rfl rfl ?_
        refine x_iload_n (pc := 74) X d_Mod_ahead_74 2 rfl rfl ?_
        refine x_iload_n (pc := 75) X d_Mod_ahead_75 3 rfl rfl ?_
        refine x_iload_n (pc := 76) X d_Mod_ahead_76 4 rfl rfl ?_
        obtain ⟨r27, h28, h⟩ := bnd_e h
        refine x_callV (pc := 77) (As := [.int (zi z15), .int (zi z16), .int (zi z17)]) (rest := []) (w2 := (w_Mod cI cB a0 a1 a2 a3 a4 a5 a6 a7 a8 a9 a10 a11 a12 a13 a14 a15 r27.1 r27.2.1 m_taped m_reading m_statements m_telling m_hasImage m_isKeeping m_cursor m_rowMany m_lots c21 m_bytes r27.2.2.1 r27.2.2.2.1 r27.2.2.2.2 m_waits m_kinds m_tape m_sort m_sortAt m_told m_kept m_was m_ends m_row)) X d_Mod_ahead_77 lk_Mod_215 mv_Mod_goesAhead (c_Mod_goesAhead l D cI cB a0 a1 a2 a3 a4 a5 a6 a7 a8 a9 a10 a11 a12 a13 a14 a15 c19 c20 m_taped m_reading m_statements m_telling m_hasImage m_isKeeping m_cursor m_rowMany m_lots c21 m_bytes c22 c23 c24 m_waits m_kinds m_tape m_sort m_sortAt m_told m_kept m_was m_ends m_row z15 z16 z17 h28) ⟨(Nat.le_of_ble_eq_true rfl), (Nat.le_of_ble_eq_true rfl), (Nat.le_of_ble_eq_true rfl), (Nat.le_of_ble_eq_true rfl)⟩ 0 rfl rfl [0, 1, 2, 3, 4, 5, 6, 7, 8, 9, 10, 11, 12, 13, 14, 15] rfl rfl rfl (Up.of [] [] rfl rfl rfl 16 rfl (by decide +kernel)) rfl rfl (Nat.le_of_ble_eq_true rfl) ?_
        refine x_iload (pc := 80) X d_Mod_ahead_80 0 rfl ?_
        cases h
        exact x_iret (pc := 82) X hR d_Mod_ahead_82
      · skip
        refine x_aload_n (pc := 57) X d_Mod_ahead_57 0 rfl rfl ?_
        refine x_iload (pc := 58) X d_Mod_ahead_58 4 rfl ?_
        obtain ⟨r29, h30, h⟩ := bnd_e h
        refine x_callV (pc := 60) (As := [.int (zi z18)]) (rest := []) (w2 := (w_Mod cI cB a0 a1 a2 a3 a4 a5 a6 a7 a8 a9 a10 a11 a12 a13 a14 a15 c19 c20 m_taped m_reading m_statements m_telling m_hasImage m_isKeeping m_cursor m_rowMany m_lots r29.2 m_bytes c22 c23 c24 m_waits m_kinds m_tape m_sort m_sortAt m_told m_kept m_was m_ends m_row)) X d_Mod_ahead_60 lk_Mod_172 mv_Mod_no (c_Mod_no l D cI cB a0 a1 a2 a3 a4 a5 a6 a7 a8 a9 a10 a11 a12 a13 a14 a15 c19 c20 m_taped m_reading m_statements m_telling m_hasImage m_isKeeping m_cursor m_rowMany m_lots c21 m_bytes c22 c23 c24 m_waits m_kinds m_tape m_sort m_sortAt m_told m_kept m_was m_ends m_row z18 h30) ⟨(Nat.le_of_ble_eq_true rfl), (Nat.le_of_ble_eq_true rfl), (Nat.le_of_ble_eq_true rfl), (Nat.le_of_ble_eq_true rfl)⟩ 0 rfl rfl [0, 1, 2, 3, 4, 5, 6, 7, 8, 9, 10, 11, 12, 13, 14, 15] rfl rfl rfl (Up.of [] [] rfl rfl rfl 16 rfl (by decide +kernel)) rfl rfl (Nat.le_of_ble_eq_true rfl) ?_
        cases h
        exact x_iret (pc := 63) X hR d_Mod_ahead_63
    clear hj31
    refine x_ifne (pc := 31) (tgt := 52) X d_Mod_ahead_31 rfl h (fun h => ?_) (fun h => ?_)
    · skip
      refine x_ls (ls2 := [(0, .ref a0), (1, .int (zi z4)), (2, .int (zi z5)), (3, .int (zi z6)), (4, .int (zi z7))]) [1, 2, 3, 4, 0] rfl ?_
      exact J32 z4 z5 z6 z7 c8 c9 c10 c11 c12 c13 h
    · skip
      refine x_aload_n (pc := 34) X d_Mod_ahead_34 1 rfl rfl ?_
      obtain ⟨r33, h34, h⟩ := bnd_e h
      refine x_callV (pc := 35) (As := []) (rest := []) (w2 := (w_Mod cI cB a0 a1 a2 a3 a4 a5 a6 a7 a8 a9 a10 a11 a12 a13 a14 a15 c8 c9 m_taped m_reading m_statements m_telling m_hasImage m_isKeeping m_cursor m_rowMany m_lots c10 m_bytes c11 c12 c13 m_waits m_kinds m_tape m_sort m_sortAt m_told m_kept m_was m_ends m_row)) X d_Mod_ahead_35 lk_Mod_162 mv_Mod_roomNow (c_Mod_roomNow l D cI cB a0 a1 a2 a3 a4 a5 a6 a7 a8 a9 a10 a11 a12 a13 a14 a15 c8 c9 m_taped m_reading m_statements m_telling m_hasImage m_isKeeping m_cursor m_rowMany m_lots c10 m_bytes c11 c12 c13 m_waits m_kinds m_tape m_sort m_sortAt m_told m_kept m_was m_ends m_row h34) ⟨(Nat.le_of_ble_eq_true rfl), (Nat.le_of_ble_eq_true rfl), (Nat.le_of_ble_eq_true rfl), (Nat.le_of_ble_eq_true rfl)⟩ 0 rfl rfl [0, 1, 2, 3, 4, 5, 6, 7, 8, 9, 10, 11, 12, 13, 14, 15] rfl rfl rfl (Up.same rfl) rfl rfl (Nat.le_of_ble_eq_true rfl) ?_
      refine x_aload_n (pc := 38) X d_Mod_ahead_38 1 rfl rfl ?_
      refine x_iload_n (pc := 39) X d_Mod_ahead_39 2 rfl rfl ?_
      refine x_iload_n (pc := 40) X d_Mod_ahead_40 3 rfl rfl ?_
      refine x_iload_n (pc := 41) X d_Mod_ahead_41 4 rfl rfl ?_
      obtain ⟨r35, h36, h⟩ := bnd_e h
      refine x_callV (pc := 42) (As := [.int (zi z4), .int (zi z5), .int (zi z6)]) (rest := [.int (zi r33)]) (w2 := (w_Mod cI cB a0 a1 a2 a3 a4 a5 a6 a7 a8 a9 a10 a11 a12 a13 a14 a15 c8 c9 m_taped m_reading m_statements m_telling m_hasImage m_isKeeping m_cursor m_rowMany m_lots c10 m_bytes c11 c12 c13 m_waits m_kinds m_tape m_sort m_sortAt m_told m_kept m_was m_ends m_row)) X d_Mod_ahead_42 lk_Mod_212 mv_Mod_holesAmong (c_Mod_holesAmong l D cI cB a0 a1 a2 a3 a4 a5 a6 a7 a8 a9 a10 a11 a12 a13 a14 a15 c8 c9 m_taped m_reading m_statements m_telling m_hasImage m_isKeeping m_cursor m_rowMany m_lots c10 m_bytes c11 c12 c13 m_waits m_kinds m_tape m_sort m_sortAt m_told m_kept m_was m_ends m_row z4 z5 z6 h36) ⟨(Nat.le_of_ble_eq_true rfl), (Nat.le_of_ble_eq_true rfl), (Nat.le_of_ble_eq_true rfl), (Nat.le_of_ble_eq_true rfl)⟩ 0 rfl rfl [0, 1, 2, 3, 4, 5, 6, 7, 8, 9, 10, 11, 12, 13, 14, 15] rfl rfl rfl (Up.same rfl) rfl rfl (Nat.le_of_ble_eq_true rfl) ?_
      refine x_icmpge (pc := 45) (tgt := 52) X d_Mod_ahead_45 rfl h (fun h => ?_) (fun h => ?_)
      · skip
        refine x_ls (ls2 := [(0, .ref a0), (1, .int (zi z4)), (2, .int (zi z5)), (3, .int (zi z6)), (4, .int (zi z7))]) [1, 2, 3, 4, 0] rfl ?_
        exact J32 z4 z5 z6 z7 c8 c9 c10 c11 c12 c13 h
      · skip
        refine x_bipush (pc := 48) (v := -6) X d_Mod_ahead_48 rfl ?_
        refine x_istore (pc := 50) (ls2 := [(4, .int (zi (-6))), (0, .ref a0), (1, .int (zi z4)), (2, .int (zi z5)), (3, .int (zi z6))]) X d_Mod_ahead_50 (Nat.le_of_ble_eq_true rfl) rfl ?_
        refine x_ls (ls2 := [(0, .ref a0), (1, .int (zi z4)), (2, .int (zi z5)), (3, .int (zi z6)), (4, .int (zi (-6)))]) [1, 2, 3, 4, 0] rfl ?_
        exact J32 z4 z5 z6 (-6) c8 c9 c10 c11 c12 c13 h
  clear hj37
  obtain ⟨j39, hj49, h⟩ := jn_e h
  have J50 : ∀ (z40 : Int) (z41 : Int) (z42 : Int) (c43 : Int) (c44 : Int) (c45 : Int → Int) (c46 : Int → Int) (c47 : Int → Int) (c48 : Int → Int), j39 z40 z41 z42 c43 c44 c45 c46 c47 c48 = some o → Wx G 0 0 14 [(0, .ref a0), (1, .int (zi z40)), (2, .int (zi z41)), (3, .int (zi z42))] [] (w_Mod cI cB a0 a1 a2 a3 a4 a5 a6 a7 a8 a9 a10 a11 a12 a13 a14 a15 c43 c44 m_taped m_reading m_statements m_telling m_hasImage m_isKeeping m_cursor m_rowMany m_lots c45 m_bytes c46 c47 c48 m_waits m_kinds m_tape m_sort m_sortAt m_told m_kept m_was m_ends m_row) := by
    intro z40 z41 z42 c43 c44 c45 c46 c47 c48 h
    rw [hj49] at h
    (try dsimp only at h)
    refine x_iconst (pc := 14) X d_Mod_ahead_14  ?_
    refine x_goto (pc := 15) (tgt := 27) X d_Mod_ahead_15 rfl ?_
    exact J38 z40 z41 z42 (-1) c43 c44 c45 c46 c47 c48 h
  clear hj49
  refine x_ifeq (pc := 4) (tgt := 14) X d_Mod_ahead_4 rfl h (fun h => ?_) (fun h => ?_)
  · skip
    exact J50 x1 x2 x3 m_stepsMade m_stepsMost m_refused m_owner m_block m_written h
  · skip
    refine x_iload_n (pc := 7) X d_Mod_ahead_7 2 rfl rfl ?_
    obtain ⟨r51, h52, h⟩ := bnd_e h
    refine x_callS (pc := 8) (As := [.int (zi x2)]) (rest := []) (w2 := (w_Mod cI cB a0 a1 a2 a3 a4 a5 a6 a7 a8 a9 a10 a11 a12 a13 a14 a15 m_stepsMade m_stepsMost m_taped m_reading m_statements m_telling m_hasImage m_isKeeping m_cursor m_rowMany m_lots m_refused m_bytes m_owner m_block m_written m_waits m_kinds m_tape m_sort m_sortAt m_told m_kept m_was m_ends m_row)) X d_Mod_ahead_8 lk_Mod_199 mv_Mod_isPage (c_Mod_isPage l D cI cB x2 h52) ⟨(Nat.le_of_ble_eq_true rfl), (Nat.le_of_ble_eq_true rfl), (Nat.le_of_ble_eq_true rfl), (Nat.le_of_ble_eq_true rfl)⟩ [] rfl rfl rfl (Up.same rfl) rfl rfl (Nat.le_of_ble_eq_true rfl) ?_
    refine x_ifne (pc := 11) (tgt := 18) X d_Mod_ahead_11 rfl h (fun h => ?_) (fun h => ?_)
    · skip
      refine x_iload_n (pc := 18) X d_Mod_ahead_18 3 rfl rfl ?_
      refine x_iconst (pc := 19) X d_Mod_ahead_19  ?_
      refine x_bipush (pc := 20) (v := 24) X d_Mod_ahead_20 rfl ?_
      refine x_iload_n (pc := 22) X d_Mod_ahead_22 2 rfl rfl ?_
      refine x_isub (pc := 23) X d_Mod_ahead_23  ?_
      obtain ⟨r53, h54, h⟩ := bnd_e h
      refine x_callS (pc := 24) (As := [.int (zi x3), .int (zi 1), .int (zi (24 - x2))]) (rest := []) (w2 := (w_Mod cI cB a0 a1 a2 a3 a4 a5 a6 a7 a8 a9 a10 a11 a12 a13 a14 a15 m_stepsMade m_stepsMost m_taped m_reading m_statements m_telling m_hasImage m_isKeeping m_cursor m_rowMany m_lots m_refused m_bytes m_owner m_block m_written m_waits m_kinds m_tape m_sort m_sortAt m_told m_kept m_was m_ends m_row)) X d_Mod_ahead_24 lk_Mod_166 mv_Mod_bound (c_Mod_bound l D cI cB x3 1 (24 - x2) h54) ⟨(Nat.le_of_ble_eq_true rfl), (Nat.le_of_ble_eq_true rfl), (Nat.le_of_ble_eq_true rfl), (Nat.le_of_ble_eq_true rfl)⟩ [] rfl rfl rfl (Up.same rfl) rfl rfl (Nat.le_of_ble_eq_true rfl) ?_
      exact J38 x1 x2 x3 r53 m_stepsMade m_stepsMost m_refused m_owner m_block m_written h
    · skip
      exact J50 x1 x2 x3 m_stepsMade m_stepsMost m_refused m_owner m_block m_written h
theorem d_Mod_punch_0 : decode b_Mod_punch 0 = .ok (.iload_n 1, 1) := by decide +kernel
theorem d_Mod_punch_1 : decode b_Mod_punch 1 = .ok (.invokestatic 230, 3) := by decide +kernel
theorem d_Mod_punch_4 : decode b_Mod_punch 4 = .ok (.ifCond .eq 10, 3) := by decide +kernel
theorem d_Mod_punch_7 : decode b_Mod_punch 7 = .ok (.iload_n 2, 1) := by decide +kernel
theorem d_Mod_punch_8 : decode b_Mod_punch 8 = .ok (.invokestatic 199, 3) := by decide +kernel
theorem d_Mod_punch_11 : decode b_Mod_punch 11 = .ok (.ifCond .ne 7, 3) := by decide +kernel
theorem d_Mod_punch_14 : decode b_Mod_punch 14 = .ok (.iconst (-1), 1) := by decide +kernel
theorem d_Mod_punch_15 : decode b_Mod_punch 15 = .ok (.goto 12, 3) := by decide +kernel
theorem d_Mod_punch_18 : decode b_Mod_punch 18 = .ok (.iload_n 3, 1) := by decide +kernel
theorem d_Mod_punch_19 : decode b_Mod_punch 19 = .ok (.iconst 1, 1) := by decide +kernel
theorem d_Mod_punch_20 : decode b_Mod_punch 20 = .ok (.bipush 24, 2) := by decide +kernel
theorem d_Mod_punch_22 : decode b_Mod_punch 22 = .ok (.iload_n 2, 1) := by decide +kernel
theorem d_Mod_punch_23 : decode b_Mod_punch 23 = .ok (.isub, 1) := by decide +kernel
theorem d_Mod_punch_24 : decode b_Mod_punch 24 = .ok (.invokestatic 166, 3) := by decide +kernel
theorem d_Mod_punch_27 : decode b_Mod_punch 27 = .ok (.istore 4, 2) := by decide +kernel
theorem d_Mod_punch_29 : decode b_Mod_punch 29 = .ok (.iload 4, 2) := by decide +kernel
theorem d_Mod_punch_31 : decode b_Mod_punch 31 = .ok (.ifCond .eq 12, 3) := by decide +kernel
theorem d_Mod_punch_34 : decode b_Mod_punch 34 = .ok (.aload_n 0, 1) := by decide +kernel
theorem d_Mod_punch_35 : decode b_Mod_punch 35 = .ok (.iload 4, 2) := by decide +kernel
theorem d_Mod_punch_37 : decode b_Mod_punch 37 = .ok (.invokevirtual 172, 3) := by decide +kernel
theorem d_Mod_punch_40 : decode b_Mod_punch 40 = .ok (.goto 10, 3) := by decide +kernel
theorem d_Mod_punch_43 : decode b_Mod_punch 43 = .ok (.aload_n 0, 1) := by decide +kernel
theorem d_Mod_punch_44 : decode b_Mod_punch 44 = .ok (.iload_n 1, 1) := by decide +kernel
theorem d_Mod_punch_45 : decode b_Mod_punch 45 = .ok (.iload_n 2, 1) := by decide +kernel
theorem d_Mod_punch_46 : decode b_Mod_punch 46 = .ok (.iload_n 3, 1) := by decide +kernel
theorem d_Mod_punch_47 : decode b_Mod_punch 47 = .ok (.invokevirtual 218, 3) := by decide +kernel
theorem d_Mod_punch_50 : decode b_Mod_punch 50 = .ok (.ireturn, 1) := by decide +kernel
def m_Mod_punch (x1 : Int) (x2 : Int) (x3 : Int) (m_refused : Int → Int) (m_owner : Int → Int) (m_block : Int → Int) (m_written : Int → Int) (m_waits : Int → Int) : Option (Int × (Int → Int) × (Int → Int) × (Int → Int) × (Int → Int) × (Int → Int)) :=
  bnd (m_Mod_isFile x1) (fun r1 => jn (fun (z4 : Int) (z5 : Int) (z6 : Int) (z7 : Int) (c8 : Int → Int) (c9 : Int → Int) (c10 : Int → Int) (c11 : Int → Int) (c12 : Int → Int) => ceq z7 0 (bnd (m_Mod_punches z4 z5 z6 c9 c10 c11 c12) (fun r13 => some (r13.1, c8, r13.2.1, r13.2.2.1, r13.2.2.2.1, r13.2.2.2.2))) (bnd (m_Mod_no z7 c8) (fun r15 => some (r15.1, r15.2, c9, c10, c11, c12)))) (fun j3 => jn (fun (z20 : Int) (z21 : Int) (z22 : Int) (c23 : Int → Int) (c24 : Int → Int) (c25 : Int → Int) (c26 : Int → Int) (c27 : Int → Int) => j3 z20 z21 z22 (-1) c23 c24 c25 c26 c27) (fun j19 => ceq r1 0 (j19 x1 x2 x3 m_refused m_owner m_block m_written m_waits) (bnd (m_Mod_isPage x2) (fun r30 => ceq r30 0 (j19 x1 x2 x3 m_refused m_owner m_block m_written m_waits) (bnd (m_Mod_bound x3 1 (24 - x2)) (fun r32 => j3 x1 x2 x3 r32 m_refused m_owner m_block m_written m_waits)))))))
set_option maxHeartbeats 4000000 in
set_option maxRecDepth 100000 in
theorem c_Mod_punch (l : Launch) (D : va_G) (cI cB : ClassId) (a0 a1 a2 a3 a4 a5 a6 a7 a8 a9 a10 a11 a12 a13 a14 a15 : Nat) (m_stepsMade : Int) (m_stepsMost : Int) (m_taped : Int) (m_reading : Int) (m_statements : Int) (m_telling : Int) (m_hasImage : Int) (m_isKeeping : Int) (m_cursor : Int) (m_rowMany : Int) (m_lots : Int) (m_refused : Int → Int) (m_bytes : Int → Int) (m_owner : Int → Int) (m_block : Int → Int) (m_written : Int → Int) (m_waits : Int → Int) (m_kinds : Int → Int) (m_tape : Int → Int) (m_sort : Int → Int) (m_sortAt : Int → Int) (m_told : Int → Int) (m_kept : Int → Int) (m_was : Int → Int) (m_ends : Int → Int) (m_row : Int → Int) (x1 : Int) (x2 : Int) (x3 : Int) {o : Int × (Int → Int) × (Int → Int) × (Int → Int) × (Int → Int) × (Int → Int)} (h : m_Mod_punch x1 x2 x3 m_refused m_owner m_block m_written m_waits = some o) : Ct l D cI cB y_Mod_punch b_Mod_punch 5 (some .int) { frames := 2, cells := 0, slots := 0, locals := 46 } [.ref a0, .int (zi x1), .int (zi x2), .int (zi x3)] (w_Mod cI cB a0 a1 a2 a3 a4 a5 a6 a7 a8 a9 a10 a11 a12 a13 a14 a15 m_stepsMade m_stepsMost m_taped m_reading m_statements m_telling m_hasImage m_isKeeping m_cursor m_rowMany m_lots m_refused m_bytes m_owner m_block m_written m_waits m_kinds m_tape m_sort m_sortAt m_told m_kept m_was m_ends m_row) (w_Mod cI cB a0 a1 a2 a3 a4 a5 a6 a7 a8 a9 a10 a11 a12 a13 a14 a15 m_stepsMade m_stepsMost m_taped m_reading m_statements m_telling m_hasImage m_isKeeping m_cursor m_rowMany m_lots o.2.1 m_bytes o.2.2.1 o.2.2.2.1 o.2.2.2.2.1 o.2.2.2.2.2 m_kinds m_tape m_sort m_sortAt m_told m_kept m_was m_ends m_row) (some (.int (zi o.1))) := by
  refine Ct.start (by decide) (Nat.le_of_ble_eq_true rfl) (fun G X hR => ?_)
  refine x_ls (ls2 := [(0, .ref a0), (1, .int (zi x1)), (2, .int (zi x2)), (3, .int (zi x3))]) [0, 1, 2, 3] rfl ?_
  unfold m_Mod_punch at h
  refine x_iload_n (pc := 0) X d_Mod_punch_0 1 rfl rfl ?_
  obtain ⟨r1, h2, h⟩ := bnd_e h
  refine x_callS (pc := 1) (As := [.int (zi x1)]) (rest := []) (w2 := (w_Mod cI cB a0 a1 a2 a3 a4 a5 a6 a7 a8 a9 a10 a11 a12 a13 a14 a15 m_stepsMade m_stepsMost m_taped m_reading m_statements m_telling m_hasImage m_isKeeping m_cursor m_rowMany m_lots m_refused m_bytes m_owner m_block m_written m_waits m_kinds m_tape m_sort m_sortAt m_told m_kept m_was m_ends m_row)) X d_Mod_punch_1 lk_Mod_230 mv_Mod_isFile (c_Mod_isFile l D cI cB x1 h2) ⟨(Nat.le_of_ble_eq_true rfl), (Nat.le_of_ble_eq_true rfl), (Nat.le_of_ble_eq_true rfl), (Nat.le_of_ble_eq_true rfl)⟩ [] rfl rfl rfl (Up.same rfl) rfl rfl (Nat.le_of_ble_eq_true rfl) ?_
  obtain ⟨j3, hj17, h⟩ := jn_e h
  have J18 : ∀ (z4 : Int) (z5 : Int) (z6 : Int) (z7 : Int) (c8 : Int → Int) (c9 : Int → Int) (c10 : Int → Int) (c11 : Int → Int) (c12 : Int → Int), j3 z4 z5 z6 z7 c8 c9 c10 c11 c12 = some o → Wx G 0 0 27 [(0, .ref a0), (1, .int (zi z4)), (2, .int (zi z5)), (3, .int (zi z6))] [.int (zi z7)] (w_Mod cI cB a0 a1 a2 a3 a4 a5 a6 a7 a8 a9 a10 a11 a12 a13 a14 a15 m_stepsMade m_stepsMost m_taped m_reading m_statements m_telling m_hasImage m_isKeeping m_cursor m_rowMany m_lots c8 m_bytes c9 c10 c11 c12 m_kinds m_tape m_sort m_sortAt m_told m_kept m_was m_ends m_row) := by
    intro z4 z5 z6 z7 c8 c9 c10 c11 c12 h
    rw [hj17] at h
    (try dsimp only at h)
    refine x_istore (pc := 27) (ls2 := [(4, .int (zi z7)), (0, .ref a0), (1, .int (zi z4)), (2, .int (zi z5)), (3, .int (zi z6))]) X d_Mod_punch_27 (Nat.le_of_ble_eq_true rfl) rfl ?_
    refine x_iload (pc := 29) X d_Mod_punch_29 0 rfl ?_
    refine x_ifeq (pc := 31) (tgt := 43) X d_Mod_punch_31 rfl h (fun h => ?_) (fun h => ?_)
    · skip
      refine x_aload_n (pc := 43) X d_Mod_punch_43 1 rfl rfl ?_
      refine x_iload_n (pc := 44) X d_Mod_punch_44 2 rfl rfl ?_
      refine x_iload_n (pc := 45) X d_Mod_punch_45 3 rfl rfl ?_
      refine x_iload_n (pc := 46) X d_Mod_punch_46 4 rfl rfl ?_
      obtain ⟨r13, h14, h⟩ := bnd_e h
      refine x_callV (pc := 47) (As := [.int (zi z4), .int (zi z5), .int (zi z6)]) (rest := []) (w2 := (w_Mod cI cB a0 a1 a2 a3 a4 a5 a6 a7 a8 a9 a10 a11 a12 a13 a14 a15 m_stepsMade m_stepsMost m_taped m_reading m_statements m_telling m_hasImage m_isKeeping m_cursor m_rowMany m_lots c8 m_bytes r13.2.1 r13.2.2.1 r13.2.2.2.1 r13.2.2.2.2 m_kinds m_tape m_sort m_sortAt m_told m_kept m_was m_ends m_row)) X d_Mod_punch_47 lk_Mod_218 mv_Mod_punches (c_Mod_punches l D cI cB a0 a1 a2 a3 a4 a5 a6 a7 a8 a9 a10 a11 a12 a13 a14 a15 m_stepsMade m_stepsMost m_taped m_reading m_statements m_telling m_hasImage m_isKeeping m_cursor m_rowMany m_lots c8 m_bytes c9 c10 c11 c12 m_kinds m_tape m_sort m_sortAt m_told m_kept m_was m_ends m_row z4 z5 z6 h14) ⟨(Nat.le_of_ble_eq_true rfl), (Nat.le_of_ble_eq_true rfl), (Nat.le_of_ble_eq_true rfl), (Nat.le_of_ble_eq_true rfl)⟩ 0 rfl rfl [0, 1, 2, 3, 4, 5, 6, 7, 8, 9, 10, 11, 12, 13, 14, 15] rfl rfl rfl (Up.of [] [] rfl rfl rfl 16 rfl (by decide +kernel)) rfl rfl (Nat.le_of_ble_eq_true rfl) ?_
      cases h
      exact x_iret (pc := 50) X hR d_Mod_punch_50
    · skip
      refine x_aload_n (pc := 34) X d_Mod_punch_34 1 rfl rfl ?_
      refine x_iload (pc := 35) X d_Mod_punch_35 0 rfl ?_
      obtain ⟨r15, h16, h⟩ := bnd_e h
      refine x_callV (pc := 37) (As := [.int (zi z7)]) (rest := []) (w2 := (w_Mod cI cB a0 a1 a2 a3 a4 a5 a6 a7 a8 a9 a10 a11 a12 a13 a14 a15 m_stepsMade m_stepsMost m_taped m_reading m_statements m_telling m_hasImage m_isKeeping m_cursor m_rowMany m_lots r15.2 m_bytes c9 c10 c11 c12 m_kinds m_tape m_sort m_sortAt m_told m_kept m_was m_ends m_row)) X d_Mod_punch_37 lk_Mod_172 mv_Mod_no (c_Mod_no l D cI cB a0 a1 a2 a3 a4 a5 a6 a7 a8 a9 a10 a11 a12 a13 a14 a15 m_stepsMade m_stepsMost m_taped m_reading m_statements m_telling m_hasImage m_isKeeping m_cursor m_rowMany m_lots c8 m_bytes c9 c10 c11 c12 m_kinds m_tape m_sort m_sortAt m_told m_kept m_was m_ends m_row z7 h16) ⟨(Nat.le_of_ble_eq_true rfl), (Nat.le_of_ble_eq_true rfl), (Nat.le_of_ble_eq_true rfl), (Nat.le_of_ble_eq_true rfl)⟩ 0 rfl rfl [0, 1, 2, 3, 4, 5, 6, 7, 8, 9, 10, 11, 12, 13, 14, 15] rfl rfl rfl (Up.of [] [] rfl rfl rfl 16 rfl (by decide +kernel)) rfl rfl (Nat.le_of_ble_eq_true rfl) ?_
      refine x_goto (pc := 40) (tgt := 50) X d_Mod_punch_40 rfl ?_
      cases h
      exact x_iret (pc := 50) X hR d_Mod_punch_50
  clear hj17
  obtain ⟨j19, hj28, h⟩ := jn_e h
  have J29 : ∀ (z20 : Int) (z21 : Int) (z22 : Int) (c23 : Int → Int) (c24 : Int → Int) (c25 : Int → Int) (c26 : Int → Int) (c27 : Int → Int), j19 z20 z21 z22 c23 c24 c25 c26 c27 = some o → Wx G 0 0 14 [(0, .ref a0), (1, .int (zi z20)), (2, .int (zi z21)), (3, .int (zi z22))] [] (w_Mod cI cB a0 a1 a2 a3 a4 a5 a6 a7 a8 a9 a10 a11 a12 a13 a14 a15 m_stepsMade m_stepsMost m_taped m_reading m_statements m_telling m_hasImage m_isKeeping m_cursor m_rowMany m_lots c23 m_bytes c24 c25 c26 c27 m_kinds m_tape m_sort m_sortAt m_told m_kept m_was m_ends m_row) := by
    intro z20 z21 z22 c23 c24 c25 c26 c27 h
    rw [hj28] at h
    (try dsimp only at h)
    refine x_iconst (pc := 14) X d_Mod_punch_14  ?_
    refine x_goto (pc := 15) (tgt := 27) X d_Mod_punch_15 rfl ?_
    exact J18 z20 z21 z22 (-1) c23 c24 c25 c26 c27 h
  clear hj28
  refine x_ifeq (pc := 4) (tgt := 14) X d_Mod_punch_4 rfl h (fun h => ?_) (fun h => ?_)
  · skip
    exact J29 x1 x2 x3 m_refused m_owner m_block m_written m_waits h
  · skip
    refine x_iload_n (pc := 7) X d_Mod_punch_7 2 rfl rfl ?_
    obtain ⟨r30, h31, h⟩ := bnd_e h
    refine x_callS (pc := 8) (As := [.int (zi x2)]) (rest := []) (w2 := (w_Mod cI cB a0 a1 a2 a3 a4 a5 a6 a7 a8 a9 a10 a11 a12 a13 a14 a15 m_stepsMade m_stepsMost m_taped m_reading m_statements m_telling m_hasImage m_isKeeping m_cursor m_rowMany m_lots m_refused m_bytes m_owner m_block m_written m_waits m_kinds m_tape m_sort m_sortAt m_told m_kept m_was m_ends m_row)) X d_Mod_punch_8 lk_Mod_199 mv_Mod_isPage (c_Mod_isPage l D cI cB x2 h31) ⟨(Nat.le_of_ble_eq_true rfl), (Nat.le_of_ble_eq_true rfl), (Nat.le_of_ble_eq_true rfl), (Nat.le_of_ble_eq_true rfl)⟩ [] rfl rfl rfl (Up.same rfl) rfl rfl (Nat.le_of_ble_eq_true rfl) ?_
    refine x_ifne (pc := 11) (tgt := 18) X d_Mod_punch_11 rfl h (fun h => ?_) (fun h => ?_)
    · skip
      refine x_iload_n (pc := 18) X d_Mod_punch_18 3 rfl rfl ?_
      refine x_iconst (pc := 19) X d_Mod_punch_19  ?_
      refine x_bipush (pc := 20) (v := 24) X d_Mod_punch_20 rfl ?_
      refine x_iload_n (pc := 22) X d_Mod_punch_22 2 rfl rfl ?_
      refine x_isub (pc := 23) X d_Mod_punch_23  ?_
      obtain ⟨r32, h33, h⟩ := bnd_e h
      refine x_callS (pc := 24) (As := [.int (zi x3), .int (zi 1), .int (zi (24 - x2))]) (rest := []) (w2 := (w_Mod cI cB a0 a1 a2 a3 a4 a5 a6 a7 a8 a9 a10 a11 a12 a13 a14 a15 m_stepsMade m_stepsMost m_taped m_reading m_statements m_telling m_hasImage m_isKeeping m_cursor m_rowMany m_lots m_refused m_bytes m_owner m_block m_written m_waits m_kinds m_tape m_sort m_sortAt m_told m_kept m_was m_ends m_row)) X d_Mod_punch_24 lk_Mod_166 mv_Mod_bound (c_Mod_bound l D cI cB x3 1 (24 - x2) h33) ⟨(Nat.le_of_ble_eq_true rfl), (Nat.le_of_ble_eq_true rfl), (Nat.le_of_ble_eq_true rfl), (Nat.le_of_ble_eq_true rfl)⟩ [] rfl rfl rfl (Up.same rfl) rfl rfl (Nat.le_of_ble_eq_true rfl) ?_
      exact J18 x1 x2 x3 r32 m_refused m_owner m_block m_written m_waits h
    · skip
      exact J29 x1 x2 x3 m_refused m_owner m_block m_written m_waits h
theorem d_Mod_flush_0 : decode b_Mod_flush 0 = .ok (.iload_n 1, 1) := by decide +kernel
theorem d_Mod_flush_1 : decode b_Mod_flush 1 = .ok (.invokestatic 230, 3) := by decide +kernel
theorem d_Mod_flush_4 : decode b_Mod_flush 4 = .ok (.ifCond .eq 13, 3) := by decide +kernel
theorem d_Mod_flush_7 : decode b_Mod_flush 7 = .ok (.aload_n 0, 1) := by decide +kernel
theorem d_Mod_flush_8 : decode b_Mod_flush 8 = .ok (.iload_n 1, 1) := by decide +kernel
theorem d_Mod_flush_9 : decode b_Mod_flush 9 = .ok (.ldc 165, 2) := by decide +kernel
theorem d_Mod_flush_11 : decode b_Mod_flush 11 = .ok (.invokevirtual 150, 3) := by decide +kernel
theorem d_Mod_flush_14 : decode b_Mod_flush 14 = .ok (.goto 8, 3) := by decide +kernel
theorem d_Mod_flush_17 : decode b_Mod_flush 17 = .ok (.aload_n 0, 1) := by decide +kernel
theorem d_Mod_flush_18 : decode b_Mod_flush 18 = .ok (.iconst (-1), 1) := by decide +kernel
theorem d_Mod_flush_19 : decode b_Mod_flush 19 = .ok (.invokevirtual 172, 3) := by decide +kernel
theorem d_Mod_flush_22 : decode b_Mod_flush 22 = .ok (.ireturn, 1) := by decide +kernel
def m_Mod_flush (x1 : Int) (m_stepsMade : Int) (m_stepsMost : Int) (m_refused : Int → Int) (m_bytes : Int → Int) (m_owner : Int → Int) (m_block : Int → Int) (m_written : Int → Int) (m_waits : Int → Int) (m_kinds : Int → Int) : Option (Int × Int × Int × (Int → Int) × (Int → Int) × (Int → Int) × (Int → Int) × (Int → Int) × (Int → Int)) :=
  bnd (m_Mod_isFile x1) (fun r1 => ceq r1 0 (bnd (m_Mod_no (-1) m_refused) (fun r3 => some (r3.1, m_stepsMade, m_stepsMost, r3.2, m_bytes, m_owner, m_block, m_written, m_waits))) (bnd (m_Mod_flushes x1 1000000 m_stepsMade m_stepsMost m_bytes m_owner m_block m_written m_waits m_kinds) (fun r5 => some (r5.1, r5.2.1, r5.2.2.1, m_refused, r5.2.2.2.1, r5.2.2.2.2.1, r5.2.2.2.2.2.1, r5.2.2.2.2.2.2.1, r5.2.2.2.2.2.2.2))))
set_option maxHeartbeats 4000000 in
set_option maxRecDepth 100000 in
theorem c_Mod_flush (l : Launch) (D : va_G) (cI cB : ClassId) (a0 a1 a2 a3 a4 a5 a6 a7 a8 a9 a10 a11 a12 a13 a14 a15 : Nat) (m_stepsMade : Int) (m_stepsMost : Int) (m_taped : Int) (m_reading : Int) (m_statements : Int) (m_telling : Int) (m_hasImage : Int) (m_isKeeping : Int) (m_cursor : Int) (m_rowMany : Int) (m_lots : Int) (m_refused : Int → Int) (m_bytes : Int → Int) (m_owner : Int → Int) (m_block : Int → Int) (m_written : Int → Int) (m_waits : Int → Int) (m_kinds : Int → Int) (m_tape : Int → Int) (m_sort : Int → Int) (m_sortAt : Int → Int) (m_told : Int → Int) (m_kept : Int → Int) (m_was : Int → Int) (m_ends : Int → Int) (m_row : Int → Int) (x1 : Int) {o : Int × Int × Int × (Int → Int) × (Int → Int) × (Int → Int) × (Int → Int) × (Int → Int) × (Int → Int)} (h : m_Mod_flush x1 m_stepsMade m_stepsMost m_refused m_bytes m_owner m_block m_written m_waits m_kinds = some o) : Ct l D cI cB y_Mod_flush b_Mod_flush 2 (some .int) { frames := 6, cells := 0, slots := 0, locals := 142 } [.ref a0, .int (zi x1)] (w_Mod cI cB a0 a1 a2 a3 a4 a5 a6 a7 a8 a9 a10 a11 a12 a13 a14 a15 m_stepsMade m_stepsMost m_taped m_reading m_statements m_telling m_hasImage m_isKeeping m_cursor m_rowMany m_lots m_refused m_bytes m_owner m_block m_written m_waits m_kinds m_tape m_sort m_sortAt m_told m_kept m_was m_ends m_row) (w_Mod cI cB a0 a1 a2 a3 a4 a5 a6 a7 a8 a9 a10 a11 a12 a13 a14 a15 o.2.1 o.2.2.1 m_taped m_reading m_statements m_telling m_hasImage m_isKeeping m_cursor m_rowMany m_lots o.2.2.2.1 o.2.2.2.2.1 o.2.2.2.2.2.1 o.2.2.2.2.2.2.1 o.2.2.2.2.2.2.2.1 o.2.2.2.2.2.2.2.2 m_kinds m_tape m_sort m_sortAt m_told m_kept m_was m_ends m_row) (some (.int (zi o.1))) := by
  refine Ct.start (by decide) (Nat.le_of_ble_eq_true rfl) (fun G X hR => ?_)
  refine x_ls (ls2 := [(0, .ref a0), (1, .int (zi x1))]) [0, 1] rfl ?_
  unfold m_Mod_flush at h
  refine x_iload_n (pc := 0) X d_Mod_flush_0 1 rfl rfl ?_
  obtain ⟨r1, h2, h⟩ := bnd_e h
  refine x_callS (pc := 1) (As := [.int (zi x1)]) (rest := []) (w2 := (w_Mod cI cB a0 a1 a2 a3 a4 a5 a6 a7 a8 a9 a10 a11 a12 a13 a14 a15 m_stepsMade m_stepsMost m_taped m_reading m_statements m_telling m_hasImage m_isKeeping m_cursor m_rowMany m_lots m_refused m_bytes m_owner m_block m_written m_waits m_kinds m_tape m_sort m_sortAt m_told m_kept m_was m_ends m_row)) X d_Mod_flush_1 lk_Mod_230 mv_Mod_isFile (c_Mod_isFile l D cI cB x1 h2) ⟨(Nat.le_of_ble_eq_true rfl), (Nat.le_of_ble_eq_true rfl), (Nat.le_of_ble_eq_true rfl), (Nat.le_of_ble_eq_true rfl)⟩ [] rfl rfl rfl (Up.same rfl) rfl rfl (Nat.le_of_ble_eq_true rfl) ?_
  refine x_ifeq (pc := 4) (tgt := 17) X d_Mod_flush_4 rfl h (fun h => ?_) (fun h => ?_)
  · skip
    refine x_aload_n (pc := 17) X d_Mod_flush_17 0 rfl rfl ?_
    refine x_iconst (pc := 18) X d_Mod_flush_18  ?_
    obtain ⟨r3, h4, h⟩ := bnd_e h
    refine x_callV (pc := 19) (As := [.int (zi (-1))]) (rest := []) (w2 := (w_Mod cI cB a0 a1 a2 a3 a4 a5 a6 a7 a8 a9 a10 a11 a12 a13 a14 a15 m_stepsMade m_stepsMost m_taped m_reading m_statements m_telling m_hasImage m_isKeeping m_cursor m_rowMany m_lots r3.2 m_bytes m_owner m_block m_written m_waits m_kinds m_tape m_sort m_sortAt m_told m_kept m_was m_ends m_row)) X d_Mod_flush_19 lk_Mod_172 mv_Mod_no (c_Mod_no l D cI cB a0 a1 a2 a3 a4 a5 a6 a7 a8 a9 a10 a11 a12 a13 a14 a15 m_stepsMade m_stepsMost m_taped m_reading m_statements m_telling m_hasImage m_isKeeping m_cursor m_rowMany m_lots m_refused m_bytes m_owner m_block m_written m_waits m_kinds m_tape m_sort m_sortAt m_told m_kept m_was m_ends m_row (-1) h4) ⟨(Nat.le_of_ble_eq_true rfl), (Nat.le_of_ble_eq_true rfl), (Nat.le_of_ble_eq_true rfl), (Nat.le_of_ble_eq_true rfl)⟩ 0 rfl rfl [0, 1, 2, 3, 4, 5, 6, 7, 8, 9, 10, 11, 12, 13, 14, 15] rfl rfl rfl (Up.of [] [] rfl rfl rfl 16 rfl (by decide +kernel)) rfl rfl (Nat.le_of_ble_eq_true rfl) ?_
    cases h
    exact x_iret (pc := 22) X hR d_Mod_flush_22
  · skip
    refine x_aload_n (pc := 7) X d_Mod_flush_7 0 rfl rfl ?_
    refine x_iload_n (pc := 8) X d_Mod_flush_8 1 rfl rfl ?_
    refine x_ldc (pc := 9) X d_Mod_flush_9 cw_Mod_165 cg_Mod_165 ?_
    obtain ⟨r5, h6, h⟩ := bnd_e h
    refine x_callV (pc := 11) (As := [.int (zi x1), .int (zi 1000000)]) (rest := []) (w2 := (w_Mod cI cB a0 a1 a2 a3 a4 a5 a6 a7 a8 a9 a10 a11 a12 a13 a14 a15 r5.2.1 r5.2.2.1 m_taped m_reading m_statements m_telling m_hasImage m_isKeeping m_cursor m_rowMany m_lots m_refused r5.2.2.2.1 r5.2.2.2.2.1 r5.2.2.2.2.2.1 r5.2.2.2.2.2.2.1 r5.2.2.2.2.2.2.2 m_kinds m_tape m_sort m_sortAt m_told m_kept m_was m_ends m_row)) X d_Mod_flush_11 lk_Mod_150 mv_Mod_flushes (c_Mod_flushes l D cI cB a0 a1 a2 a3 a4 a5 a6 a7 a8 a9 a10 a11 a12 a13 a14 a15 m_stepsMade m_stepsMost m_taped m_reading m_statements m_telling m_hasImage m_isKeeping m_cursor m_rowMany m_lots m_refused m_bytes m_owner m_block m_written m_waits m_kinds m_tape m_sort m_sortAt m_told m_kept m_was m_ends m_row x1 1000000 h6) ⟨(Nat.le_of_ble_eq_true rfl), (Nat.le_of_ble_eq_true rfl), (Nat.le_of_ble_eq_true rfl), (Nat.le_of_ble_eq_true rfl)⟩ 0 rfl rfl [0, 1, 2, 3, 4, 5, 6, 7, 8, 9, 10, 11, 12, 13, 14, 15] rfl rfl rfl (Up.of [] [] rfl rfl rfl 16 rfl (by decide +kernel)) rfl rfl (Nat.le_of_ble_eq_true rfl) ?_
    refine x_goto (pc := 14) (tgt := 22) X d_Mod_flush_14 rfl ?_
    cases h
    exact x_iret (pc := 22) X hR d_Mod_flush_22
theorem d_Mod_settle_0 : decode b_Mod_settle 0 = .ok (.iload_n 1, 1) := by decide +kernel
theorem d_Mod_settle_1 : decode b_Mod_settle 1 = .ok (.invokestatic 230, 3) := by decide +kernel
theorem d_Mod_settle_4 : decode b_Mod_settle 4 = .ok (.ifCond .ne 9, 3) := by decide +kernel
theorem d_Mod_settle_7 : decode b_Mod_settle 7 = .ok (.aload_n 0, 1) := by decide +kernel
theorem d_Mod_settle_8 : decode b_Mod_settle 8 = .ok (.iconst (-1), 1) := by decide +kernel
theorem d_Mod_settle_9 : decode b_Mod_settle 9 = .ok (.invokevirtual 172, 3) := by decide +kernel
theorem d_Mod_settle_12 : decode b_Mod_settle 12 = .ok (.ireturn, 1) := by decide +kernel
theorem d_Mod_settle_13 : decode b_Mod_settle 13 = .ok (.aload_n 0, 1) := by decide +kernel
theorem d_Mod_settle_14 : decode b_Mod_settle 14 = .ok (.iload_n 1, 1) := by decide +kernel
theorem d_Mod_settle_15 : decode b_Mod_settle 15 = .ok (.invokevirtual 221, 3) := by decide +kernel
theorem d_Mod_settle_18 : decode b_Mod_settle 18 = .ok (.ifCond .eq 11, 3) := by decide +kernel
theorem d_Mod_settle_21 : decode b_Mod_settle 21 = .ok (.aload_n 0, 1) := by decide +kernel
theorem d_Mod_settle_22 : decode b_Mod_settle 22 = .ok (.iload_n 1, 1) := by decide +kernel
theorem d_Mod_settle_23 : decode b_Mod_settle 23 = .ok (.invokevirtual 224, 3) := by decide +kernel
theorem d_Mod_settle_26 : decode b_Mod_settle 26 = .ok (.goto 9, 3) := by decide +kernel
theorem d_Mod_settle_29 : decode b_Mod_settle 29 = .ok (.aload_n 0, 1) := by decide +kernel
theorem d_Mod_settle_30 : decode b_Mod_settle 30 = .ok (.bipush (-3), 2) := by decide +kernel
theorem d_Mod_settle_32 : decode b_Mod_settle 32 = .ok (.invokevirtual 172, 3) := by decide +kernel
theorem d_Mod_settle_35 : decode b_Mod_settle 35 = .ok (.ireturn, 1) := by decide +kernel
def m_Mod_settle (x1 : Int) (m_refused : Int → Int) (m_bytes : Int → Int) (m_owner : Int → Int) (m_block : Int → Int) : Option (Int × (Int → Int) × (Int → Int) × (Int → Int) × (Int → Int)) :=
  bnd (m_Mod_isFile x1) (fun r1 => ceq r1 0 (bnd (m_Mod_no (-1) m_refused) (fun r9 => some (r9.1, r9.2, m_bytes, m_owner, m_block))) (bnd (m_Mod_canSettle x1 m_owner m_block) (fun r3 => ceq r3 0 (bnd (m_Mod_no (-3) m_refused) (fun r5 => some (r5.1, r5.2, m_bytes, m_owner, m_block))) (bnd (m_Mod_settles x1 m_bytes m_owner m_block) (fun r7 => some (r7.1, m_refused, r7.2.1, r7.2.2.1, r7.2.2.2))))))
set_option maxHeartbeats 4000000 in
set_option maxRecDepth 100000 in
theorem c_Mod_settle (l : Launch) (D : va_G) (cI cB : ClassId) (a0 a1 a2 a3 a4 a5 a6 a7 a8 a9 a10 a11 a12 a13 a14 a15 : Nat) (m_stepsMade : Int) (m_stepsMost : Int) (m_taped : Int) (m_reading : Int) (m_statements : Int) (m_telling : Int) (m_hasImage : Int) (m_isKeeping : Int) (m_cursor : Int) (m_rowMany : Int) (m_lots : Int) (m_refused : Int → Int) (m_bytes : Int → Int) (m_owner : Int → Int) (m_block : Int → Int) (m_written : Int → Int) (m_waits : Int → Int) (m_kinds : Int → Int) (m_tape : Int → Int) (m_sort : Int → Int) (m_sortAt : Int → Int) (m_told : Int → Int) (m_kept : Int → Int) (m_was : Int → Int) (m_ends : Int → Int) (m_row : Int → Int) (x1 : Int) {o : Int × (Int → Int) × (Int → Int) × (Int → Int) × (Int → Int)} (h : m_Mod_settle x1 m_refused m_bytes m_owner m_block = some o) : Ct l D cI cB y_Mod_settle b_Mod_settle 2 (some .int) { frames := 3, cells := 0, slots := 0, locals := 69 } [.ref a0, .int (zi x1)] (w_Mod cI cB a0 a1 a2 a3 a4 a5 a6 a7 a8 a9 a10 a11 a12 a13 a14 a15 m_stepsMade m_stepsMost m_taped m_reading m_statements m_telling m_hasImage m_isKeeping m_cursor m_rowMany m_lots m_refused m_bytes m_owner m_block m_written m_waits m_kinds m_tape m_sort m_sortAt m_told m_kept m_was m_ends m_row) (w_Mod cI cB a0 a1 a2 a3 a4 a5 a6 a7 a8 a9 a10 a11 a12 a13 a14 a15 m_stepsMade m_stepsMost m_taped m_reading m_statements m_telling m_hasImage m_isKeeping m_cursor m_rowMany m_lots o.2.1 o.2.2.1 o.2.2.2.1 o.2.2.2.2 m_written m_waits m_kinds m_tape m_sort m_sortAt m_told m_kept m_was m_ends m_row) (some (.int (zi o.1))) := by
  refine Ct.start (by decide) (Nat.le_of_ble_eq_true rfl) (fun G X hR => ?_)
  refine x_ls (ls2 := [(0, .ref a0), (1, .int (zi x1))]) [0, 1] rfl ?_
  unfold m_Mod_settle at h
  refine x_iload_n (pc := 0) X d_Mod_settle_0 1 rfl rfl ?_
  obtain ⟨r1, h2, h⟩ := bnd_e h
  refine x_callS (pc := 1) (As := [.int (zi x1)]) (rest := []) (w2 := (w_Mod cI cB a0 a1 a2 a3 a4 a5 a6 a7 a8 a9 a10 a11 a12 a13 a14 a15 m_stepsMade m_stepsMost m_taped m_reading m_statements m_telling m_hasImage m_isKeeping m_cursor m_rowMany m_lots m_refused m_bytes m_owner m_block m_written m_waits m_kinds m_tape m_sort m_sortAt m_told m_kept m_was m_ends m_row)) X d_Mod_settle_1 lk_Mod_230 mv_Mod_isFile (c_Mod_isFile l D cI cB x1 h2) ⟨(Nat.le_of_ble_eq_true rfl), (Nat.le_of_ble_eq_true rfl), (Nat.le_of_ble_eq_true rfl), (Nat.le_of_ble_eq_true rfl)⟩ [] rfl rfl rfl (Up.same rfl) rfl rfl (Nat.le_of_ble_eq_true rfl) ?_
  refine x_ifne (pc := 4) (tgt := 13) X d_Mod_settle_4 rfl h (fun h => ?_) (fun h => ?_)
  · skip
    refine x_aload_n (pc := 13) X d_Mod_settle_13 0 rfl rfl ?_
    refine x_iload_n (pc := 14) X d_Mod_settle_14 1 rfl rfl ?_
    obtain ⟨r3, h4, h⟩ := bnd_e h
    refine x_callV (pc := 15) (As := [.int (zi x1)]) (rest := []) (w2 := (w_Mod cI cB a0 a1 a2 a3 a4 a5 a6 a7 a8 a9 a10 a11 a12 a13 a14 a15 m_stepsMade m_stepsMost m_taped m_reading m_statements m_telling m_hasImage m_isKeeping m_cursor m_rowMany m_lots m_refused m_bytes m_owner m_block m_written m_waits m_kinds m_tape m_sort m_sortAt m_told m_kept m_was m_ends m_row)) X d_Mod_settle_15 lk_Mod_221 mv_Mod_canSettle (c_Mod_canSettle l D cI cB a0 a1 a2 a3 a4 a5 a6 a7 a8 a9 a10 a11 a12 a13 a14 a15 m_stepsMade m_stepsMost m_taped m_reading m_statements m_telling m_hasImage m_isKeeping m_cursor m_rowMany m_lots m_refused m_bytes m_owner m_block m_written m_waits m_kinds m_tape m_sort m_sortAt m_told m_kept m_was m_ends m_row x1 h4) ⟨(Nat.le_of_ble_eq_true rfl), (Nat.le_of_ble_eq_true rfl), (Nat.le_of_ble_eq_true rfl), (Nat.le_of_ble_eq_true rfl)⟩ 0 rfl rfl [0, 1, 2, 3, 4, 5, 6, 7, 8, 9, 10, 11, 12, 13, 14, 15] rfl rfl rfl (Up.same rfl) rfl rfl (Nat.le_of_ble_eq_true rfl) ?_
    refine x_ifeq (pc := 18) (tgt := 29) X d_Mod_settle_18 rfl h (fun h => ?_) (fun h => ?_)
    · skip
      refine x_aload_n (pc := 29) X d_Mod_settle_29 0 rfl rfl ?_
      refine x_bipush (pc := 30) (v := -3) X d_Mod_settle_30 rfl ?_
      obtain ⟨r5, h6, h⟩ := bnd_e h
      refine x_callV (pc := 32) (As := [.int (zi (-3))]) (rest := []) (w2 := (w_Mod cI cB a0 a1 a2 a3 a4 a5 a6 a7 a8 a9 a10 a11 a12 a13 a14 a15 m_stepsMade m_stepsMost m_taped m_reading m_statements m_telling m_hasImage m_isKeeping m_cursor m_rowMany m_lots r5.2 m_bytes m_owner m_block m_written m_waits m_kinds m_tape m_sort m_sortAt m_told m_kept m_was m_ends m_row)) X d_Mod_settle_32 lk_Mod_172 mv_Mod_no (c_Mod_no l D cI cB a0 a1 a2 a3 a4 a5 a6 a7 a8 a9 a10 a11 a12 a13 a14 a15 m_stepsMade m_stepsMost m_taped m_reading m_statements m_telling m_hasImage m_isKeeping m_cursor m_rowMany m_lots m_refused m_bytes m_owner m_block m_written m_waits m_kinds m_tape m_sort m_sortAt m_told m_kept m_was m_ends m_row (-3) h6) ⟨(Nat.le_of_ble_eq_true rfl), (Nat.le_of_ble_eq_true rfl), (Nat.le_of_ble_eq_true rfl), (Nat.le_of_ble_eq_true rfl)⟩ 0 rfl rfl [0, 1, 2, 3, 4, 5, 6, 7, 8, 9, 10, 11, 12, 13, 14, 15] rfl rfl rfl (Up.of [] [] rfl rfl rfl 16 rfl (by decide +kernel)) rfl rfl (Nat.le_of_ble_eq_true rfl) ?_
      cases h
      exact x_iret (pc := 35) X hR d_Mod_settle_35
    · skip
      refine x_aload_n (pc := 21) X d_Mod_settle_21 0 rfl rfl ?_
      refine x_iload_n (pc := 22) X d_Mod_settle_22 1 rfl rfl ?_
      obtain ⟨r7, h8, h⟩ := bnd_e h
      refine x_callV (pc := 23) (As := [.int (zi x1)]) (rest := []) (w2 := (w_Mod cI cB a0 a1 a2 a3 a4 a5 a6 a7 a8 a9 a10 a11 a12 a13 a14 a15 m_stepsMade m_stepsMost m_taped m_reading m_statements m_telling m_hasImage m_isKeeping m_cursor m_rowMany m_lots m_refused r7.2.1 r7.2.2.1 r7.2.2.2 m_written m_waits m_kinds m_tape m_sort m_sortAt m_told m_kept m_was m_ends m_row)) X d_Mod_settle_23 lk_Mod_224 mv_Mod_settles (c_Mod_settles l D cI cB a0 a1 a2 a3 a4 a5 a6 a7 a8 a9 a10 a11 a12 a13 a14 a15 m_stepsMade m_stepsMost m_taped m_reading m_statements m_telling m_hasImage m_isKeeping m_cursor m_rowMany m_lots m_refused m_bytes m_owner m_block m_written m_waits m_kinds m_tape m_sort m_sortAt m_told m_kept m_was m_ends m_row x1 h8) ⟨(Nat.le_of_ble_eq_true rfl), (Nat.le_of_ble_eq_true rfl), (Nat.le_of_ble_eq_true rfl), (Nat.le_of_ble_eq_true rfl)⟩ 0 rfl rfl [0, 1, 2, 3, 4, 5, 6, 7, 8, 9, 10, 11, 12, 13, 14, 15] rfl rfl rfl (Up.of [] [] rfl rfl rfl 16 rfl (by decide +kernel)) rfl rfl (Nat.le_of_ble_eq_true rfl) ?_
      refine x_goto (pc := 26) (tgt := 35) X d_Mod_settle_26 rfl ?_
      cases h
      exact x_iret (pc := 35) X hR d_Mod_settle_35
  · skip
    refine x_aload_n (pc := 7) X d_Mod_settle_7 0 rfl rfl ?_
    refine x_iconst (pc := 8) X d_Mod_settle_8  ?_
    obtain ⟨r9, h10, h⟩ := bnd_e h
    refine x_callV (pc := 9) (As := [.int (zi (-1))]) (rest := []) (w2 := (w_Mod cI cB a0 a1 a2 a3 a4 a5 a6 a7 a8 a9 a10 a11 a12 a13 a14 a15 m_stepsMade m_stepsMost m_taped m_reading m_statements m_telling m_hasImage m_isKeeping m_cursor m_rowMany m_lots r9.2 m_bytes m_owner m_block m_written m_waits m_kinds m_tape m_sort m_sortAt m_told m_kept m_was m_ends m_row)) X d_Mod_settle_9 lk_Mod_172 mv_Mod_no (c_Mod_no l D cI cB a0 a1 a2 a3 a4 a5 a6 a7 a8 a9 a10 a11 a12 a13 a14 a15 m_stepsMade m_stepsMost m_taped m_reading m_statements m_telling m_hasImage m_isKeeping m_cursor m_rowMany m_lots m_refused m_bytes m_owner m_block m_written m_waits m_kinds m_tape m_sort m_sortAt m_told m_kept m_was m_ends m_row (-1) h10) ⟨(Nat.le_of_ble_eq_true rfl), (Nat.le_of_ble_eq_true rfl), (Nat.le_of_ble_eq_true rfl), (Nat.le_of_ble_eq_true rfl)⟩ 0 rfl rfl [0, 1, 2, 3, 4, 5, 6, 7, 8, 9, 10, 11, 12, 13, 14, 15] rfl rfl rfl (Up.of [] [] rfl rfl rfl 16 rfl (by decide +kernel)) rfl rfl (Nat.le_of_ble_eq_true rfl) ?_
    cases h
    exact x_iret (pc := 12) X hR d_Mod_settle_12
theorem d_Mod_crash_0 : decode b_Mod_crash 0 = .ok (.iload_n 1, 1) := by decide +kernel
theorem d_Mod_crash_1 : decode b_Mod_crash 1 = .ok (.invokestatic 230, 3) := by decide +kernel
theorem d_Mod_crash_4 : decode b_Mod_crash 4 = .ok (.ifCond .ne 7, 3) := by decide +kernel
theorem d_Mod_crash_7 : decode b_Mod_crash 7 = .ok (.iconst (-1), 1) := by decide +kernel
theorem d_Mod_crash_8 : decode b_Mod_crash 8 = .ok (.goto 10, 3) := by decide +kernel
theorem d_Mod_crash_11 : decode b_Mod_crash 11 = .ok (.iload_n 2, 1) := by decide +kernel
theorem d_Mod_crash_12 : decode b_Mod_crash 12 = .ok (.iconst 0, 1) := by decide +kernel
theorem d_Mod_crash_13 : decode b_Mod_crash 13 = .ok (.bipush 99, 2) := by decide +kernel
theorem d_Mod_crash_15 : decode b_Mod_crash 15 = .ok (.invokestatic 166, 3) := by decide +kernel
theorem d_Mod_crash_18 : decode b_Mod_crash 18 = .ok (.istore_n 3, 1) := by decide +kernel
theorem d_Mod_crash_19 : decode b_Mod_crash 19 = .ok (.iload_n 3, 1) := by decide +kernel
theorem d_Mod_crash_20 : decode b_Mod_crash 20 = .ok (.ifCond .eq 11, 3) := by decide +kernel
theorem d_Mod_crash_23 : decode b_Mod_crash 23 = .ok (.aload_n 0, 1) := by decide +kernel
theorem d_Mod_crash_24 : decode b_Mod_crash 24 = .ok (.iload_n 3, 1) := by decide +kernel
theorem d_Mod_crash_25 : decode b_Mod_crash 25 = .ok (.invokevirtual 172, 3) := by decide +kernel
theorem d_Mod_crash_28 : decode b_Mod_crash 28 = .ok (.goto 9, 3) := by decide +kernel
theorem d_Mod_crash_31 : decode b_Mod_crash 31 = .ok (.aload_n 0, 1) := by decide +kernel
theorem d_Mod_crash_32 : decode b_Mod_crash 32 = .ok (.iload_n 1, 1) := by decide +kernel
theorem d_Mod_crash_33 : decode b_Mod_crash 33 = .ok (.iload_n 2, 1) := by decide +kernel
theorem d_Mod_crash_34 : decode b_Mod_crash 34 = .ok (.invokevirtual 227, 3) := by decide +kernel
theorem d_Mod_crash_37 : decode b_Mod_crash 37 = .ok (.ireturn, 1) := by decide +kernel
def m_Mod_crash (x1 : Int) (x2 : Int) (m_stepsMade : Int) (m_stepsMost : Int) (m_refused : Int → Int) (m_bytes : Int → Int) (m_owner : Int → Int) (m_block : Int → Int) (m_written : Int → Int) (m_waits : Int → Int) (m_kinds : Int → Int) : Option (Int × Int × Int × (Int → Int) × (Int → Int) × (Int → Int) × (Int → Int) × (Int → Int) × (Int → Int)) :=
  bnd (m_Mod_isFile x1) (fun r1 => jn (fun (z4 : Int) (z5 : Int) (z6 : Int) (c7 : Int) (c8 : Int) (c9 : Int → Int) (c10 : Int → Int) (c11 : Int → Int) (c12 : Int → Int) (c13 : Int → Int) (c14 : Int → Int) => ceq z6 0 (bnd (m_Mod_crashes z4 z5 c7 c8 c10 c11 c12 c13 c14 m_kinds) (fun r15 => some (r15.1, r15.2.1, r15.2.2.1, c9, r15.2.2.2.1, r15.2.2.2.2.1, r15.2.2.2.2.2.1, r15.2.2.2.2.2.2.1, r15.2.2.2.2.2.2.2))) (bnd (m_Mod_no z6 c9) (fun r17 => some (r17.1, c7, c8, r17.2, c10, c11, c12, c13, c14)))) (fun j3 => ceq r1 0 (j3 x1 x2 (-1) m_stepsMade m_stepsMost m_refused m_bytes m_owner m_block m_written m_waits) (bnd (m_Mod_bound x2 0 99) (fun r21 => j3 x1 x2 r21 m_stepsMade m_stepsMost m_refused m_bytes m_owner m_block m_written m_waits))))
set_option maxHeartbeats 4000000 in
set_option maxRecDepth 100000 in
theorem c_Mod_crash (l : Launch) (D : va_G) (cI cB : ClassId) (a0 a1 a2 a3 a4 a5 a6 a7 a8 a9 a10 a11 a12 a13 a14 a15 : Nat) (m_stepsMade : Int) (m_stepsMost : Int) (m_taped : Int) (m_reading : Int) (m_statements : Int) (m_telling : Int) (m_hasImage : Int) (m_isKeeping : Int) (m_cursor : Int) (m_rowMany : Int) (m_lots : Int) (m_refused : Int → Int) (m_bytes : Int → Int) (m_owner : Int → Int) (m_block : Int → Int) (m_written : Int → Int) (m_waits : Int → Int) (m_kinds : Int → Int) (m_tape : Int → Int) (m_sort : Int → Int) (m_sortAt : Int → Int) (m_told : Int → Int) (m_kept : Int → Int) (m_was : Int → Int) (m_ends : Int → Int) (m_row : Int → Int) (x1 : Int) (x2 : Int) {o : Int × Int × Int × (Int → Int) × (Int → Int) × (Int → Int) × (Int → Int) × (Int → Int) × (Int → Int)} (h : m_Mod_crash x1 x2 m_stepsMade m_stepsMost m_refused m_bytes m_owner m_block m_written m_waits m_kinds = some o) : Ct l D cI cB y_Mod_crash b_Mod_crash 4 (some .int) { frames := 7, cells := 0, slots := 0, locals := 166 } [.ref a0, .int (zi x1), .int (zi x2)] (w_Mod cI cB a0 a1 a2 a3 a4 a5 a6 a7 a8 a9 a10 a11 a12 a13 a14 a15 m_stepsMade m_stepsMost m_taped m_reading m_statements m_telling m_hasImage m_isKeeping m_cursor m_rowMany m_lots m_refused m_bytes m_owner m_block m_written m_waits m_kinds m_tape m_sort m_sortAt m_told m_kept m_was m_ends m_row) (w_Mod cI cB a0 a1 a2 a3 a4 a5 a6 a7 a8 a9 a10 a11 a12 a13 a14 a15 o.2.1 o.2.2.1 m_taped m_reading m_statements m_telling m_hasImage m_isKeeping m_cursor m_rowMany m_lots o.2.2.2.1 o.2.2.2.2.1 o.2.2.2.2.2.1 o.2.2.2.2.2.2.1 o.2.2.2.2.2.2.2.1 o.2.2.2.2.2.2.2.2 m_kinds m_tape m_sort m_sortAt m_told m_kept m_was m_ends m_row) (some (.int (zi o.1))) := by
  refine Ct.start (by decide) (Nat.le_of_ble_eq_true rfl) (fun G X hR => ?_)
  refine x_ls (ls2 := [(0, .ref a0), (1, .int (zi x1)), (2, .int (zi x2))]) [0, 1, 2] rfl ?_
  unfold m_Mod_crash at h
  refine x_iload_n (pc := 0) X d_Mod_crash_0 1 rfl rfl ?_
  obtain ⟨r1, h2, h⟩ := bnd_e h
  refine x_callS (pc := 1) (As := [.int (zi x1)]) (rest := []) (w2 := (w_Mod cI cB a0 a1 a2 a3 a4 a5 a6 a7 a8 a9 a10 a11 a12 a13 a14 a15 m_stepsMade m_stepsMost m_taped m_reading m_statements m_telling m_hasImage m_isKeeping m_cursor m_rowMany m_lots m_refused m_bytes m_owner m_block m_written m_waits m_kinds m_tape m_sort m_sortAt m_told m_kept m_was m_ends m_row)) X d_Mod_crash_1 lk_Mod_230 mv_Mod_isFile (c_Mod_isFile l D cI cB x1 h2) ⟨(Nat.le_of_ble_eq_true rfl), (Nat.le_of_ble_eq_true rfl), (Nat.le_of_ble_eq_true rfl), (Nat.le_of_ble_eq_true rfl)⟩ [] rfl rfl rfl (Up.same rfl) rfl rfl (Nat.le_of_ble_eq_true rfl) ?_
  obtain ⟨j3, hj19, h⟩ := jn_e h
  have J20 : ∀ (z4 : Int) (z5 : Int) (z6 : Int) (c7 : Int) (c8 : Int) (c9 : Int → Int) (c10 : Int → Int) (c11 : Int → Int) (c12 : Int → Int) (c13 : Int → Int) (c14 : Int → Int), j3 z4 z5 z6 c7 c8 c9 c10 c11 c12 c13 c14 = some o → Wx G 0 0 18 [(0, .ref a0), (1, .int (zi z4)), (2, .int (zi z5))] [.int (zi z6)] (w_Mod cI cB a0 a1 a2 a3 a4 a5 a6 a7 a8 a9 a10 a11 a12 a13 a14 a15 c7 c8 m_taped m_reading m_statements m_telling m_hasImage m_isKeeping m_cursor m_rowMany m_lots c9 c10 c11 c12 c13 c14 m_kinds m_tape m_sort m_sortAt m_told m_kept m_was m_ends m_row) := by
    intro z4 z5 z6 c7 c8 c9 c10 c11 c12 c13 c14 h
    rw [hj19] at h
    (try dsimp only at h)
    refine x_istore_n (pc := 18) (ls2 := [(3, .int (zi z6)), (0, .ref a0), (1, .int (zi z4)), (2, .int (zi z5))]) X d_Mod_crash_18 rfl (Nat.le_of_ble_eq_true rfl) rfl ?_
    refine x_iload_n (pc := 19) X d_Mod_crash_19 0 rfl rfl ?_
    refine x_ifeq (pc := 20) (tgt := 31) X d_Mod_crash_20 rfl h (fun h => ?_) (fun h => ?_)
    · skip
      refine x_aload_n (pc := 31) X d_Mod_crash_31 1 rfl rfl ?_
      refine x_iload_n (pc := 32) X d_Mod_crash_32 2 rfl rfl ?_
      refine x_iload_n (pc := 33) X d_Mod_crash_33 3 rfl rfl ?_
      obtain ⟨r15, h16, h⟩ := bnd_e h
      refine x_callV (pc := 34) (As := [.int (zi z4), .int (zi z5)]) (rest := []) (w2 := (w_Mod cI cB a0 a1 a2 a3 a4 a5 a6 a7 a8 a9 a10 a11 a12 a13 a14 a15 r15.2.1 r15.2.2.1 m_taped m_reading m_statements m_telling m_hasImage m_isKeeping m_cursor m_rowMany m_lots c9 r15.2.2.2.1 r15.2.2.2.2.1 r15.2.2.2.2.2.1 r15.2.2.2.2.2.2.1 r15.2.2.2.2.2.2.2 m_kinds m_tape m_sort m_sortAt m_told m_kept m_was m_ends m_row)) X d_Mod_crash_34 lk_Mod_227 mv_Mod_crashes (c_Mod_crashes l D cI cB a0 a1 a2 a3 a4 a5 a6 a7 a8 a9 a10 a11 a12 a13 a14 a15 c7 c8 m_taped m_reading m_statements m_telling m_hasImage m_isKeeping m_cursor m_rowMany m_lots c9 c10 c11 c12 c13 c14 m_kinds m_tape m_sort m_sortAt m_told m_kept m_was m_ends m_row z4 z5 h16) ⟨(Nat.le_of_ble_eq_true rfl), (Nat.le_of_ble_eq_true rfl), (Nat.le_of_ble_eq_true rfl), (Nat.le_of_ble_eq_true rfl)⟩ 0 rfl rfl [0, 1, 2, 3, 4, 5, 6, 7, 8, 9, 10, 11, 12, 13, 14, 15] rfl rfl rfl (Up.of [] [] rfl rfl rfl 16 rfl (by decide +kernel)) rfl rfl (Nat.le_of_ble_eq_true rfl) ?_
      cases h
      exact x_iret (pc := 37) X hR d_Mod_crash_37
    · skip
      refine x_aload_n (pc := 23) X d_Mod_crash_23 1 rfl rfl ?_
      refine x_iload_n (pc := 24) X d_Mod_crash_24 0 rfl rfl ?_
      obtain ⟨r17, h18, h⟩ := bnd_e h
      refine x_callV (pc := 25) (As := [.int (zi z6)]) (rest := []) (w2 := (w_Mod cI cB a0 a1 a2 a3 a4 a5 a6 a7 a8 a9 a10 a11 a12 a13 a14 a15 c7 c8 m_taped m_reading m_statements m_telling m_hasImage m_isKeeping m_cursor m_rowMany m_lots r17.2 c10 c11 c12 c13 c14 m_kinds m_tape m_sort m_sortAt m_told m_kept m_was m_ends m_row)) X d_Mod_crash_25 lk_Mod_172 mv_Mod_no (c_Mod_no l D cI cB a0 a1 a2 a3 a4 a5 a6 a7 a8 a9 a10 a11 a12 a13 a14 a15 c7 c8 m_taped m_reading m_statements m_telling m_hasImage m_isKeeping m_cursor m_rowMany m_lots c9 c10 c11 c12 c13 c14 m_kinds m_tape m_sort m_sortAt m_told m_kept m_was m_ends m_row z6 h18) ⟨(Nat.le_of_ble_eq_true rfl), (Nat.le_of_ble_eq_true rfl), (Nat.le_of_ble_eq_true rfl), (Nat.le_of_ble_eq_true rfl)⟩ 0 rfl rfl [0, 1, 2, 3, 4, 5, 6, 7, 8, 9, 10, 11, 12, 13, 14, 15] rfl rfl rfl (Up.of [] [] rfl rfl rfl 16 rfl (by decide +kernel)) rfl rfl (Nat.le_of_ble_eq_true rfl) ?_
      refine x_goto (pc := 28) (tgt := 37) X d_Mod_crash_28 rfl ?_
      cases h
      exact x_iret (pc := 37) X hR d_Mod_crash_37
  clear hj19
  refine x_ifne (pc := 4) (tgt := 11) X d_Mod_crash_4 rfl h (fun h => ?_) (fun h => ?_)
  · skip
    refine x_iload_n (pc := 11) X d_Mod_crash_11 2 rfl rfl ?_
    refine x_iconst (pc := 12) X d_Mod_crash_12  ?_
    refine x_bipush (pc := 13) (v := 99) X d_Mod_crash_13 rfl ?_
    obtain ⟨r21, h22, h⟩ := bnd_e h
    refine x_callS (pc := 15) (As := [.int (zi x2), .int (zi 0), .int (zi 99)]) (rest := []) (w2 := (w_Mod cI cB a0 a1 a2 a3 a4 a5 a6 a7 a8 a9 a10 a11 a12 a13 a14 a15 m_stepsMade m_stepsMost m_taped m_reading m_statements m_telling m_hasImage m_isKeeping m_cursor m_rowMany m_lots m_refused m_bytes m_owner m_block m_written m_waits m_kinds m_tape m_sort m_sortAt m_told m_kept m_was m_ends m_row)) X d_Mod_crash_15 lk_Mod_166 mv_Mod_bound (c_Mod_bound l D cI cB x2 0 99 h22) ⟨(Nat.le_of_ble_eq_true rfl), (Nat.le_of_ble_eq_true rfl), (Nat.le_of_ble_eq_true rfl), (Nat.le_of_ble_eq_true rfl)⟩ [] rfl rfl rfl (Up.same rfl) rfl rfl (Nat.le_of_ble_eq_true rfl) ?_
    exact J20 x1 x2 r21 m_stepsMade m_stepsMost m_refused m_bytes m_owner m_block m_written m_waits h
  · skip
    refine x_iconst (pc := 7) X d_Mod_crash_7  ?_
    refine x_goto (pc := 8) (tgt := 18) X d_Mod_crash_8 rfl ?_
    exact J20 x1 x2 (-1) m_stepsMade m_stepsMost m_refused m_bytes m_owner m_block m_written m_waits h
