noncomputable abbrev w_Mind (cI cB : ClassId) (a0 a1 a2 a3 a4 a5 a6 a7 a8 a9 a10 a11 a12 a13 a14 a15 a16 a17 a18 a19 a20 : Nat) (seed : Int) (now : Int → Int) (nbt : Int → Int) (nki : Int → Int) (npl : Int → Int) (nva : Int → Int) (nwr : Int → Int) (nrm : Int) (nrs : Int → Int) (nrz : Int → Int) (tow : Int → Int) (tbt : Int → Int) (tki : Int → Int) (tpl : Int → Int) (tva : Int → Int) (twr : Int → Int) (trm : Int) (trs : Int → Int) (trz : Int → Int) : va_W := [(a0, .inr (1, [.ref a1, .ref a11, .int (zi seed)])), (a1, .inr (0, [.ref a2, .ref a3, .ref a4, .ref a5, .ref a6, .ref a7, .ref a8])), (a2, zA cI 64 now), (a3, zA cI 64 nbt), (a4, zA cI 4 nki), (a5, zA cI 96 npl), (a6, zA cI 96 nva), (a7, zA cB 96 nwr), (a8, .inr (3, [.ref a9, .ref a10, .int (zi nrm)])), (a9, zA cI 32 nrs), (a10, zA cI 32 nrz), (a11, .inr (0, [.ref a12, .ref a13, .ref a14, .ref a15, .ref a16, .ref a17, .ref a18])), (a12, zA cI 64 tow), (a13, zA cI 64 tbt), (a14, zA cI 4 tki), (a15, zA cI 96 tpl), (a16, zA cI 96 tva), (a17, zA cB 96 twr), (a18, .inr (3, [.ref a19, .ref a20, .int (zi trm)])), (a19, zA cI 32 trs), (a20, zA cI 32 trz)]
theorem d_Mind_flushByKind_0 : decode b_Mind_flushByKind 0 = .ok (.aload_n 0, 1) := by decide +kernel
theorem d_Mind_flushByKind_1 : decode b_Mind_flushByKind 1 = .ok (.getfield 15, 3) := by decide +kernel
theorem d_Mind_flushByKind_4 : decode b_Mind_flushByKind 4 = .ok (.aload_n 0, 1) := by decide +kernel
theorem d_Mind_flushByKind_5 : decode b_Mind_flushByKind 5 = .ok (.getfield 9, 3) := by decide +kernel
theorem d_Mind_flushByKind_8 : decode b_Mind_flushByKind 8 = .ok (.invokevirtual 22, 3) := by decide +kernel
theorem d_Mind_flushByKind_11 : decode b_Mind_flushByKind 11 = .ok (.aload_n 0, 1) := by decide +kernel
theorem d_Mind_flushByKind_12 : decode b_Mind_flushByKind 12 = .ok (.getfield 15, 3) := by decide +kernel
theorem d_Mind_flushByKind_15 : decode b_Mind_flushByKind 15 = .ok (.iload_n 1, 1) := by decide +kernel
theorem d_Mind_flushByKind_16 : decode b_Mind_flushByKind 16 = .ok (.iload_n 2, 1) := by decide +kernel
theorem d_Mind_flushByKind_17 : decode b_Mind_flushByKind 17 = .ok (.invokevirtual 28, 3) := by decide +kernel
theorem d_Mind_flushByKind_20 : decode b_Mind_flushByKind 20 = .ok (.aload_n 0, 1) := by decide +kernel
theorem d_Mind_flushByKind_21 : decode b_Mind_flushByKind 21 = .ok (.getfield 15, 3) := by decide +kernel
theorem d_Mind_flushByKind_24 : decode b_Mind_flushByKind 24 = .ok (.iload_n 1, 1) := by decide +kernel
theorem d_Mind_flushByKind_25 : decode b_Mind_flushByKind 25 = .ok (.sipush 1000, 3) := by decide +kernel
theorem d_Mind_flushByKind_28 : decode b_Mind_flushByKind 28 = .ok (.invokevirtual 32, 3) := by decide +kernel
theorem d_Mind_flushByKind_31 : decode b_Mind_flushByKind 31 = .ok (.pop, 1) := by decide +kernel
theorem d_Mind_flushByKind_32 : decode b_Mind_flushByKind 32 = .ok (.return_, 1) := by decide +kernel
def m_Mind_flushByKind (x1 : Int) (x2 : Int) (now : Int → Int) (nbt : Int → Int) (nki : Int → Int) (npl : Int → Int) (nva : Int → Int) (nwr : Int → Int) (tow : Int → Int) (tbt : Int → Int) (tki : Int → Int) (tpl : Int → Int) (tva : Int → Int) (twr : Int → Int) (trm : Int) (trs : Int → Int) (trz : Int → Int) : Option ((Int → Int) × (Int → Int) × (Int → Int) × (Int → Int) × (Int → Int) × (Int → Int) × Int × (Int → Int) × (Int → Int)) :=
  bnd (m_Disk_copyFrom tow tbt tki tpl tva twr now nbt nki npl nva nwr) (fun r1 => bnd (m_Disk_turnKind x1 x2 r1.2.2.1) (fun r3 => bnd (m_Disk_flushUpTo x1 1000 r1.1 r1.2.1 r3 r1.2.2.2.1 r1.2.2.2.2.1 r1.2.2.2.2.2 trm trs trz) (fun r5 => some (r5.2.1, r5.2.2.1, r3, r5.2.2.2.1, r5.2.2.2.2.1, r5.2.2.2.2.2.1, r5.2.2.2.2.2.2.1, r5.2.2.2.2.2.2.2.1, r5.2.2.2.2.2.2.2.2))))
set_option maxHeartbeats 4000000 in
set_option maxRecDepth 100000 in
theorem c_Mind_flushByKind (l : Launch) (D : va_G) (cI cB : ClassId) (a0 a1 a2 a3 a4 a5 a6 a7 a8 a9 a10 a11 a12 a13 a14 a15 a16 a17 a18 a19 a20 : Nat) (seed : Int) (now : Int → Int) (nbt : Int → Int) (nki : Int → Int) (npl : Int → Int) (nva : Int → Int) (nwr : Int → Int) (nrm : Int) (nrs : Int → Int) (nrz : Int → Int) (tow : Int → Int) (tbt : Int → Int) (tki : Int → Int) (tpl : Int → Int) (tva : Int → Int) (twr : Int → Int) (trm : Int) (trs : Int → Int) (trz : Int → Int) (x1 : Int) (x2 : Int) {o : (Int → Int) × (Int → Int) × (Int → Int) × (Int → Int) × (Int → Int) × (Int → Int) × Int × (Int → Int) × (Int → Int)} (h : m_Mind_flushByKind x1 x2 now nbt nki npl nva nwr tow tbt tki tpl tva twr trm trs trz = some o) : Ct l D cI cB y_Mind_flushByKind b_Mind_flushByKind 3 none { frames := 4, cells := 0, slots := 0, locals := 103 } [.ref a0, .int (zi x1), .int (zi x2)] (w_Mind cI cB a0 a1 a2 a3 a4 a5 a6 a7 a8 a9 a10 a11 a12 a13 a14 a15 a16 a17 a18 a19 a20 seed now nbt nki npl nva nwr nrm nrs nrz tow tbt tki tpl tva twr trm trs trz) (w_Mind cI cB a0 a1 a2 a3 a4 a5 a6 a7 a8 a9 a10 a11 a12 a13 a14 a15 a16 a17 a18 a19 a20 seed now nbt nki npl nva nwr nrm nrs nrz o.1 o.2.1 o.2.2.1 o.2.2.2.1 o.2.2.2.2.1 o.2.2.2.2.2.1 o.2.2.2.2.2.2.1 o.2.2.2.2.2.2.2.1 o.2.2.2.2.2.2.2.2) none := by
  refine Ct.start (by decide) (Nat.le_of_ble_eq_true rfl) (fun G X hR => ?_)
  refine x_ls (ls2 := [(0, .ref a0), (1, .int (zi x1)), (2, .int (zi x2))]) [0, 1, 2] rfl ?_
  unfold m_Mind_flushByKind at h
  refine x_aload_n (pc := 0) X d_Mind_flushByKind_0 0 rfl rfl ?_
  refine x_get (pc := 1) X d_Mind_flushByKind_1 0 rfl fl_Mind_15 rfl ?_
  refine x_aload_n (pc := 4) X d_Mind_flushByKind_4 0 rfl rfl ?_
  refine x_get (pc := 5) X d_Mind_flushByKind_5 0 rfl fl_Mind_9 rfl ?_
  obtain ⟨r1, h2, h⟩ := bnd_e h
  refine x_callV (pc := 8) (As := [.ref a1]) (rest := []) (w2 := (w_Mind cI cB a0 a1 a2 a3 a4 a5 a6 a7 a8 a9 a10 a11 a12 a13 a14 a15 a16 a17 a18 a19 a20 seed now nbt nki npl nva nwr nrm nrs nrz r1.1 r1.2.1 r1.2.2.1 r1.2.2.2.1 r1.2.2.2.2.1 r1.2.2.2.2.2 trm trs trz)) X d_Mind_flushByKind_8 lk_Mind_22 mv_Disk_copyFrom (c_Disk_copyFrom l D cI cB a11 a12 a13 a14 a15 a16 a17 a18 a19 a20 a1 a2 a3 a4 a5 a6 a7 a8 a9 a10 tow tbt tki tpl tva twr trm trs trz now nbt nki npl nva nwr nrm nrs nrz h2) ⟨(Nat.le_of_ble_eq_true rfl), (Nat.le_of_ble_eq_true rfl), (Nat.le_of_ble_eq_true rfl), (Nat.le_of_ble_eq_true rfl)⟩ 11 rfl rfl [11, 12, 13, 14, 15, 16, 17, 18, 19, 20, 1, 2, 3, 4, 5, 6, 7, 8, 9, 10] rfl rfl rfl (Up.of [0] [(a0, .inr (1, [.ref a1, .ref a11, .int (zi seed)]))] rfl rfl rfl 21 rfl (by decide +kernel)) rfl rfl (Nat.le_of_ble_eq_true rfl) ?_
  refine x_aload_n (pc := 11) X d_Mind_flushByKind_11 0 rfl rfl ?_
  refine x_get (pc := 12) X d_Mind_flushByKind_12 0 rfl fl_Mind_15 rfl ?_
  refine x_iload_n (pc := 15) X d_Mind_flushByKind_15 1 rfl rfl ?_
  refine x_iload_n (pc := 16) X d_Mind_flushByKind_16 2 rfl rfl ?_
  obtain ⟨r3, h4, h⟩ := bnd_e h
  refine x_callV (pc := 17) (As := [.int (zi x1), .int (zi x2)]) (rest := []) (w2 := (w_Mind cI cB a0 a1 a2 a3 a4 a5 a6 a7 a8 a9 a10 a11 a12 a13 a14 a15 a16 a17 a18 a19 a20 seed now nbt nki npl nva nwr nrm nrs nrz r1.1 r1.2.1 r3 r1.2.2.2.1 r1.2.2.2.2.1 r1.2.2.2.2.2 trm trs trz)) X d_Mind_flushByKind_17 lk_Mind_28 mv_Disk_turnKind (c_Disk_turnKind l D cI cB a11 a12 a13 a14 a15 a16 a17 a18 a19 a20 r1.1 r1.2.1 r1.2.2.1 r1.2.2.2.1 r1.2.2.2.2.1 r1.2.2.2.2.2 trm trs trz x1 x2 h4) ⟨(Nat.le_of_ble_eq_true rfl), (Nat.le_of_ble_eq_true rfl), (Nat.le_of_ble_eq_true rfl), (Nat.le_of_ble_eq_true rfl)⟩ 11 rfl rfl [11, 12, 13, 14, 15, 16, 17, 18, 19, 20] rfl rfl rfl (Up.of [0, 1, 2, 3, 4, 5, 6, 7, 8, 9, 10] [(a0, .inr (1, [.ref a1, .ref a11, .int (zi seed)])), (a1, .inr (0, [.ref a2, .ref a3, .ref a4, .ref a5, .ref a6, .ref a7, .ref a8])), (a2, zA cI 64 now), (a3, zA cI 64 nbt), (a4, zA cI 4 nki), (a5, zA cI 96 npl), (a6, zA cI 96 nva), (a7, zA cB 96 nwr), (a8, .inr (3, [.ref a9, .ref a10, .int (zi nrm)])), (a9, zA cI 32 nrs), (a10, zA cI 32 nrz)] rfl rfl rfl 21 rfl (by decide +kernel)) rfl rfl (Nat.le_of_ble_eq_true rfl) ?_
  refine x_aload_n (pc := 20) X d_Mind_flushByKind_20 0 rfl rfl ?_
  refine x_get (pc := 21) X d_Mind_flushByKind_21 0 rfl fl_Mind_15 rfl ?_
  refine x_iload_n (pc := 24) X d_Mind_flushByKind_24 1 rfl rfl ?_
  refine x_sipush (pc := 25) (v := 1000) X d_Mind_flushByKind_25 (by decide +kernel) ?_
  obtain ⟨r5, h6, h⟩ := bnd_e h
  refine x_callV (pc := 28) (As := [.int (zi x1), .int (zi 1000)]) (rest := []) (w2 := (w_Mind cI cB a0 a1 a2 a3 a4 a5 a6 a7 a8 a9 a10 a11 a12 a13 a14 a15 a16 a17 a18 a19 a20 seed now nbt nki npl nva nwr nrm nrs nrz r5.2.1 r5.2.2.1 r3 r5.2.2.2.1 r5.2.2.2.2.1 r5.2.2.2.2.2.1 r5.2.2.2.2.2.2.1 r5.2.2.2.2.2.2.2.1 r5.2.2.2.2.2.2.2.2)) X d_Mind_flushByKind_28 lk_Mind_32 mv_Disk_flushUpTo (c_Disk_flushUpTo l D cI cB a11 a12 a13 a14 a15 a16 a17 a18 a19 a20 r1.1 r1.2.1 r3 r1.2.2.2.1 r1.2.2.2.2.1 r1.2.2.2.2.2 trm trs trz x1 1000 h6) ⟨(Nat.le_of_ble_eq_true rfl), (Nat.le_of_ble_eq_true rfl), (Nat.le_of_ble_eq_true rfl), (Nat.le_of_ble_eq_true rfl)⟩ 11 rfl rfl [11, 12, 13, 14, 15, 16, 17, 18, 19, 20] rfl rfl rfl (Up.of [0, 1, 2, 3, 4, 5, 6, 7, 8, 9, 10] [(a0, .inr (1, [.ref a1, .ref a11, .int (zi seed)])), (a1, .inr (0, [.ref a2, .ref a3, .ref a4, .ref a5, .ref a6, .ref a7, .ref a8])), (a2, zA cI 64 now), (a3, zA cI 64 nbt), (a4, zA cI 4 nki), (a5, zA cI 96 npl), (a6, zA cI 96 nva), (a7, zA cB 96 nwr), (a8, .inr (3, [.ref a9, .ref a10, .int (zi nrm)])), (a9, zA cI 32 nrs), (a10, zA cI 32 nrz)] rfl rfl rfl 21 rfl (by decide +kernel)) rfl rfl (Nat.le_of_ble_eq_true rfl) ?_
  refine x_pop (pc := 31) X d_Mind_flushByKind_31 rfl ?_
  cases h
  exact x_vret (pc := 32) X hR d_Mind_flushByKind_32
theorem d_Mind_extentsByKind_0 : decode b_Mind_extentsByKind 0 = .ok (.aload_n 0, 1) := by decide +kernel
theorem d_Mind_extentsByKind_1 : decode b_Mind_extentsByKind 1 = .ok (.iload_n 1, 1) := by decide +kernel
theorem d_Mind_extentsByKind_2 : decode b_Mind_extentsByKind 2 = .ok (.iload_n 2, 1) := by decide +kernel
theorem d_Mind_extentsByKind_3 : decode b_Mind_extentsByKind 3 = .ok (.invokevirtual 36, 3) := by decide +kernel
theorem d_Mind_extentsByKind_6 : decode b_Mind_extentsByKind 6 = .ok (.aload_n 0, 1) := by decide +kernel
theorem d_Mind_extentsByKind_7 : decode b_Mind_extentsByKind 7 = .ok (.getfield 15, 3) := by decide +kernel
theorem d_Mind_extentsByKind_10 : decode b_Mind_extentsByKind 10 = .ok (.iload_n 1, 1) := by decide +kernel
theorem d_Mind_extentsByKind_11 : decode b_Mind_extentsByKind 11 = .ok (.invokevirtual 39, 3) := by decide +kernel
theorem d_Mind_extentsByKind_14 : decode b_Mind_extentsByKind 14 = .ok (.ireturn, 1) := by decide +kernel
def m_Mind_extentsByKind (x1 : Int) (x2 : Int) (now : Int → Int) (nbt : Int → Int) (nki : Int → Int) (npl : Int → Int) (nva : Int → Int) (nwr : Int → Int) (tow : Int → Int) (tbt : Int → Int) (tki : Int → Int) (tpl : Int → Int) (tva : Int → Int) (twr : Int → Int) (trm : Int) (trs : Int → Int) (trz : Int → Int) : Option (Int × (Int → Int) × (Int → Int) × (Int → Int) × (Int → Int) × (Int → Int) × (Int → Int) × Int × (Int → Int) × (Int → Int)) :=
  bnd (m_Mind_flushByKind x1 x2 now nbt nki npl nva nwr tow tbt tki tpl tva twr trm trs trz) (fun r1 => bnd (m_Disk_extentsIn x1 r1.2.2.2.1 r1.2.2.2.2.2.1) (fun r3 => some (r3, r1.1, r1.2.1, r1.2.2.1, r1.2.2.2.1, r1.2.2.2.2.1, r1.2.2.2.2.2.1, r1.2.2.2.2.2.2.1, r1.2.2.2.2.2.2.2.1, r1.2.2.2.2.2.2.2.2)))
set_option maxHeartbeats 4000000 in
set_option maxRecDepth 100000 in
theorem c_Mind_extentsByKind (l : Launch) (D : va_G) (cI cB : ClassId) (a0 a1 a2 a3 a4 a5 a6 a7 a8 a9 a10 a11 a12 a13 a14 a15 a16 a17 a18 a19 a20 : Nat) (seed : Int) (now : Int → Int) (nbt : Int → Int) (nki : Int → Int) (npl : Int → Int) (nva : Int → Int) (nwr : Int → Int) (nrm : Int) (nrs : Int → Int) (nrz : Int → Int) (tow : Int → Int) (tbt : Int → Int) (tki : Int → Int) (tpl : Int → Int) (tva : Int → Int) (twr : Int → Int) (trm : Int) (trs : Int → Int) (trz : Int → Int) (x1 : Int) (x2 : Int) {o : Int × (Int → Int) × (Int → Int) × (Int → Int) × (Int → Int) × (Int → Int) × (Int → Int) × Int × (Int → Int) × (Int → Int)} (h : m_Mind_extentsByKind x1 x2 now nbt nki npl nva nwr tow tbt tki tpl tva twr trm trs trz = some o) : Ct l D cI cB y_Mind_extentsByKind b_Mind_extentsByKind 3 (some .int) { frames := 5, cells := 0, slots := 0, locals := 125 } [.ref a0, .int (zi x1), .int (zi x2)] (w_Mind cI cB a0 a1 a2 a3 a4 a5 a6 a7 a8 a9 a10 a11 a12 a13 a14 a15 a16 a17 a18 a19 a20 seed now nbt nki npl nva nwr nrm nrs nrz tow tbt tki tpl tva twr trm trs trz) (w_Mind cI cB a0 a1 a2 a3 a4 a5 a6 a7 a8 a9 a10 a11 a12 a13 a14 a15 a16 a17 a18 a19 a20 seed now nbt nki npl nva nwr nrm nrs nrz o.2.1 o.2.2.1 o.2.2.2.1 o.2.2.2.2.1 o.2.2.2.2.2.1 o.2.2.2.2.2.2.1 o.2.2.2.2.2.2.2.1 o.2.2.2.2.2.2.2.2.1 o.2.2.2.2.2.2.2.2.2) (some (.int (zi o.1))) := by
  refine Ct.start (by decide) (Nat.le_of_ble_eq_true rfl) (fun G X hR => ?_)
  refine x_ls (ls2 := [(0, .ref a0), (1, .int (zi x1)), (2, .int (zi x2))]) [0, 1, 2] rfl ?_
  unfold m_Mind_extentsByKind at h
  refine x_aload_n (pc := 0) X d_Mind_extentsByKind_0 0 rfl rfl ?_
  refine x_iload_n (pc := 1) X d_Mind_extentsByKind_1 1 rfl rfl ?_
  refine x_iload_n (pc := 2) X d_Mind_extentsByKind_2 2 rfl rfl ?_
  obtain ⟨r1, h2, h⟩ := bnd_e h
  refine x_callV (pc := 3) (As := [.int (zi x1), .int (zi x2)]) (rest := []) (w2 := (w_Mind cI cB a0 a1 a2 a3 a4 a5 a6 a7 a8 a9 a10 a11 a12 a13 a14 a15 a16 a17 a18 a19 a20 seed now nbt nki npl nva nwr nrm nrs nrz r1.1 r1.2.1 r1.2.2.1 r1.2.2.2.1 r1.2.2.2.2.1 r1.2.2.2.2.2.1 r1.2.2.2.2.2.2.1 r1.2.2.2.2.2.2.2.1 r1.2.2.2.2.2.2.2.2)) X d_Mind_extentsByKind_3 lk_Mind_36 mv_Mind_flushByKind (c_Mind_flushByKind l D cI cB a0 a1 a2 a3 a4 a5 a6 a7 a8 a9 a10 a11 a12 a13 a14 a15 a16 a17 a18 a19 a20 seed now nbt nki npl nva nwr nrm nrs nrz tow tbt tki tpl tva twr trm trs trz x1 x2 h2) ⟨(Nat.le_of_ble_eq_true rfl), (Nat.le_of_ble_eq_true rfl), (Nat.le_of_ble_eq_true rfl), (Nat.le_of_ble_eq_true rfl)⟩ 0 rfl rfl [0, 1, 2, 3, 4, 5, 6, 7, 8, 9, 10, 11, 12, 13, 14, 15, 16, 17, 18, 19, 20] rfl rfl rfl (Up.of [] [] rfl rfl rfl 21 rfl (by decide +kernel)) rfl rfl (Nat.le_of_ble_eq_true rfl) ?_
  refine x_aload_n (pc := 6) X d_Mind_extentsByKind_6 0 rfl rfl ?_
  refine x_get (pc := 7) X d_Mind_extentsByKind_7 0 rfl fl_Mind_15 rfl ?_
  refine x_iload_n (pc := 10) X d_Mind_extentsByKind_10 1 rfl rfl ?_
  obtain ⟨r3, h4, h⟩ := bnd_e h
  refine x_callV (pc := 11) (As := [.int (zi x1)]) (rest := []) (w2 := (w_Mind cI cB a0 a1 a2 a3 a4 a5 a6 a7 a8 a9 a10 a11 a12 a13 a14 a15 a16 a17 a18 a19 a20 seed now nbt nki npl nva nwr nrm nrs nrz r1.1 r1.2.1 r1.2.2.1 r1.2.2.2.1 r1.2.2.2.2.1 r1.2.2.2.2.2.1 r1.2.2.2.2.2.2.1 r1.2.2.2.2.2.2.2.1 r1.2.2.2.2.2.2.2.2)) X d_Mind_extentsByKind_11 lk_Mind_39 mv_Disk_extentsIn (c_Disk_extentsIn l D cI cB a11 a12 a13 a14 a15 a16 a17 a18 a19 a20 r1.1 r1.2.1 r1.2.2.1 r1.2.2.2.1 r1.2.2.2.2.1 r1.2.2.2.2.2.1 r1.2.2.2.2.2.2.1 r1.2.2.2.2.2.2.2.1 r1.2.2.2.2.2.2.2.2 x1 h4) ⟨(Nat.le_of_ble_eq_true rfl), (Nat.le_of_ble_eq_true rfl), (Nat.le_of_ble_eq_true rfl), (Nat.le_of_ble_eq_true rfl)⟩ 11 rfl rfl [11, 12, 13, 14, 15, 16, 17, 18, 19, 20] rfl rfl rfl (Up.same rfl) rfl rfl (Nat.le_of_ble_eq_true rfl) ?_
  cases h
  exact x_iret (pc := 14) X hR d_Mind_extentsByKind_14
theorem d_Mind_leastKind_0 : decode b_Mind_leastKind 0 = .ok (.iconst (-1), 1) := by decide +kernel
theorem d_Mind_leastKind_1 : decode b_Mind_leastKind 1 = .ok (.istore_n 2, 1) := by decide +kernel
theorem d_Mind_leastKind_2 : decode b_Mind_leastKind 2 = .ok (.bipush 25, 2) := by decide +kernel
theorem d_Mind_leastKind_4 : decode b_Mind_leastKind 4 = .ok (.istore_n 3, 1) := by decide +kernel
theorem d_Mind_leastKind_5 : decode b_Mind_leastKind 5 = .ok (.iconst 0, 1) := by decide +kernel
theorem d_Mind_leastKind_6 : decode b_Mind_leastKind 6 = .ok (.istore 4, 2) := by decide +kernel
theorem d_Mind_leastKind_8 : decode b_Mind_leastKind 8 = .ok (.iload 4, 2) := by decide +kernel
theorem d_Mind_leastKind_10 : decode b_Mind_leastKind 10 = .ok (.bipush 6, 2) := by decide +kernel
theorem d_Mind_leastKind_12 : decode b_Mind_leastKind 12 = .ok (.if_icmp .ge 40, 3) := by decide +kernel
theorem d_Mind_leastKind_15 : decode b_Mind_leastKind 15 = .ok (.aload_n 0, 1) := by decide +kernel
theorem d_Mind_leastKind_16 : decode b_Mind_leastKind 16 = .ok (.iload_n 1, 1) := by decide +kernel
theorem d_Mind_leastKind_17 : decode b_Mind_leastKind 17 = .ok (.iload 4, 2) := by decide +kernel
theorem d_Mind_leastKind_19 : decode b_Mind_leastKind 19 = .ok (.invokevirtual 36, 3) := by decide +kernel
theorem d_Mind_leastKind_22 : decode b_Mind_leastKind 22 = .ok (.aload_n 0, 1) := by decide +kernel
theorem d_Mind_leastKind_23 : decode b_Mind_leastKind 23 = .ok (.getfield 15, 3) := by decide +kernel
theorem d_Mind_leastKind_26 : decode b_Mind_leastKind 26 = .ok (.iload_n 1, 1) := by decide +kernel
theorem d_Mind_leastKind_27 : decode b_Mind_leastKind 27 = .ok (.invokevirtual 39, 3) := by decide +kernel
theorem d_Mind_leastKind_30 : decode b_Mind_leastKind 30 = .ok (.iload_n 3, 1) := by decide +kernel
theorem d_Mind_leastKind_31 : decode b_Mind_leastKind 31 = .ok (.if_icmp .ge 15, 3) := by decide +kernel
theorem d_Mind_leastKind_34 : decode b_Mind_leastKind 34 = .ok (.iload 4, 2) := by decide +kernel
theorem d_Mind_leastKind_36 : decode b_Mind_leastKind 36 = .ok (.istore_n 2, 1) := by decide +kernel
theorem d_Mind_leastKind_37 : decode b_Mind_leastKind 37 = .ok (.aload_n 0, 1) := by decide +kernel
theorem d_Mind_leastKind_38 : decode b_Mind_leastKind 38 = .ok (.getfield 15, 3) := by decide +kernel
theorem d_Mind_leastKind_41 : decode b_Mind_leastKind 41 = .ok (.iload_n 1, 1) := by decide +kernel
theorem d_Mind_leastKind_42 : decode b_Mind_leastKind 42 = .ok (.invokevirtual 39, 3) := by decide +kernel
theorem d_Mind_leastKind_45 : decode b_Mind_leastKind 45 = .ok (.istore_n 3, 1) := by decide +kernel
theorem d_Mind_leastKind_46 : decode b_Mind_leastKind 46 = .ok (.iinc 4 1, 3) := by decide +kernel
theorem d_Mind_leastKind_49 : decode b_Mind_leastKind 49 = .ok (.goto (-41), 3) := by decide +kernel
theorem d_Mind_leastKind_52 : decode b_Mind_leastKind 52 = .ok (.iload_n 2, 1) := by decide +kernel
theorem d_Mind_leastKind_53 : decode b_Mind_leastKind 53 = .ok (.ireturn, 1) := by decide +kernel
def m_Mind_leastKind_8 : Nat → Int → Int → Int → Int → (Int → Int) → (Int → Int) → (Int → Int) → (Int → Int) → (Int → Int) → (Int → Int) → (Int → Int) → (Int → Int) → (Int → Int) → (Int → Int) → (Int → Int) → (Int → Int) → Int → (Int → Int) → (Int → Int) → Option (Int × (Int → Int) × (Int → Int) × (Int → Int) × (Int → Int) × (Int → Int) × (Int → Int) × Int × (Int → Int) × (Int → Int))
  | 0, _, _, _, _, _, _, _, _, _, _, _, _, _, _, _, _, _, _, _ => none
  | fuel + 1, v1, v2, v3, v4, now, nbt, nki, npl, nva, nwr, tow, tbt, tki, tpl, tva, twr, trm, trs, trz =>
  clt v4 6 (bnd (m_Mind_flushByKind v1 v4 now nbt nki npl nva nwr tow tbt tki tpl tva twr trm trs trz) (fun r1 => bnd (m_Disk_extentsIn v1 r1.2.2.2.1 r1.2.2.2.2.2.1) (fun r3 => clt r3 v3 (bnd (m_Disk_extentsIn v1 r1.2.2.2.1 r1.2.2.2.2.2.1) (fun r5 => m_Mind_leastKind_8 fuel v1 v4 r5 (v4 + 1) now nbt nki npl nva nwr r1.1 r1.2.1 r1.2.2.1 r1.2.2.2.1 r1.2.2.2.2.1 r1.2.2.2.2.2.1 r1.2.2.2.2.2.2.1 r1.2.2.2.2.2.2.2.1 r1.2.2.2.2.2.2.2.2)) (m_Mind_leastKind_8 fuel v1 v2 v3 (v4 + 1) now nbt nki npl nva nwr r1.1 r1.2.1 r1.2.2.1 r1.2.2.2.1 r1.2.2.2.2.1 r1.2.2.2.2.2.1 r1.2.2.2.2.2.2.1 r1.2.2.2.2.2.2.2.1 r1.2.2.2.2.2.2.2.2)))) (some (v2, tow, tbt, tki, tpl, tva, twr, trm, trs, trz))
def m_Mind_leastKind (x1 : Int) (now : Int → Int) (nbt : Int → Int) (nki : Int → Int) (npl : Int → Int) (nva : Int → Int) (nwr : Int → Int) (tow : Int → Int) (tbt : Int → Int) (tki : Int → Int) (tpl : Int → Int) (tva : Int → Int) (twr : Int → Int) (trm : Int) (trs : Int → Int) (trz : Int → Int) : Option (Int × (Int → Int) × (Int → Int) × (Int → Int) × (Int → Int) × (Int → Int) × (Int → Int) × Int × (Int → Int) × (Int → Int)) :=
  m_Mind_leastKind_8 5000 x1 (-1) 25 0 now nbt nki npl nva nwr tow tbt tki tpl tva twr trm trs trz
set_option maxHeartbeats 4000000 in
set_option maxRecDepth 100000 in
theorem l_Mind_leastKind_8 {G : GT} {l : Launch} {D : va_G} {cI cB : ClassId} {a0 a1 a2 a3 a4 a5 a6 a7 a8 a9 a10 a11 a12 a13 a14 a15 a16 a17 a18 a19 a20 : Nat} {seed : Int} {nrm : Int} {nrs : Int → Int} {nrz : Int → Int} (X : Cx G l D cI cB b_Mind_leastKind y_Mind_leastKind.cls 5 { frames := 5, cells := 0, slots := 0, locals := 125 }) : ∀ (fuel : Nat) (v1 : Int) (v2 : Int) (v3 : Int) (v4 : Int) (now : Int → Int) (nbt : Int → Int) (nki : Int → Int) (npl : Int → Int) (nva : Int → Int) (nwr : Int → Int) (tow : Int → Int) (tbt : Int → Int) (tki : Int → Int) (tpl : Int → Int) (tva : Int → Int) (twr : Int → Int) (trm : Int) (trs : Int → Int) (trz : Int → Int) (o : Int × (Int → Int) × (Int → Int) × (Int → Int) × (Int → Int) × (Int → Int) × (Int → Int) × Int × (Int → Int) × (Int → Int)), m_Mind_leastKind_8 fuel v1 v2 v3 v4 now nbt nki npl nva nwr tow tbt tki tpl tva twr trm trs trz = some o → Rt G (some .int) (some (.int (zi o.1))) (w_Mind cI cB a0 a1 a2 a3 a4 a5 a6 a7 a8 a9 a10 a11 a12 a13 a14 a15 a16 a17 a18 a19 a20 seed now nbt nki npl nva nwr nrm nrs nrz o.2.1 o.2.2.1 o.2.2.2.1 o.2.2.2.2.1 o.2.2.2.2.2.1 o.2.2.2.2.2.2.1 o.2.2.2.2.2.2.2.1 o.2.2.2.2.2.2.2.2.1 o.2.2.2.2.2.2.2.2.2) → Wx G 0 0 8 [(0, .ref a0), (1, .int (zi v1)), (2, .int (zi v2)), (3, .int (zi v3)), (4, .int (zi v4))] [] (w_Mind cI cB a0 a1 a2 a3 a4 a5 a6 a7 a8 a9 a10 a11 a12 a13 a14 a15 a16 a17 a18 a19 a20 seed now nbt nki npl nva nwr nrm nrs nrz tow tbt tki tpl tva twr trm trs trz) := by
  intro fuel
  induction fuel with
  | zero =>
    intro v1 v2 v3 v4 now nbt nki npl nva nwr tow tbt tki tpl tva twr trm trs trz o h
    exact absurd h (by simp [m_Mind_leastKind_8])
  | succ fuel ih =>
    intro v1 v2 v3 v4 now nbt nki npl nva nwr tow tbt tki tpl tva twr trm trs trz o h hR
    rw [m_Mind_leastKind_8] at h
    refine x_iload (pc := 8) X d_Mind_leastKind_8 4 rfl ?_
    refine x_bipush (pc := 10) (v := 6) X d_Mind_leastKind_10 rfl ?_
    refine x_icmpge (pc := 12) (tgt := 52) X d_Mind_leastKind_12 rfl h (fun h => ?_) (fun h => ?_)
    · skip
      refine x_iload_n (pc := 52) X d_Mind_leastKind_52 2 rfl rfl ?_
      cases h
      exact x_iret (pc := 53) X hR d_Mind_leastKind_53
    · skip
      refine x_aload_n (pc := 15) X d_Mind_leastKind_15 0 rfl rfl ?_
      refine x_iload_n (pc := 16) X d_Mind_leastKind_16 1 rfl rfl ?_
      refine x_iload (pc := 17) X d_Mind_leastKind_17 4 rfl ?_
      obtain ⟨r1, h2, h⟩ := bnd_e h
      refine x_callV (pc := 19) (As := [.int (zi v1), .int (zi v4)]) (rest := []) (w2 := (w_Mind cI cB a0 a1 a2 a3 a4 a5 a6 a7 a8 a9 a10 a11 a12 a13 a14 a15 a16 a17 a18 a19 a20 seed now nbt nki npl nva nwr nrm nrs nrz r1.1 r1.2.1 r1.2.2.1 r1.2.2.2.1 r1.2.2.2.2.1 r1.2.2.2.2.2.1 r1.2.2.2.2.2.2.1 r1.2.2.2.2.2.2.2.1 r1.2.2.2.2.2.2.2.2)) X d_Mind_leastKind_19 lk_Mind_36 mv_Mind_flushByKind (c_Mind_flushByKind l D cI cB a0 a1 a2 a3 a4 a5 a6 a7 a8 a9 a10 a11 a12 a13 a14 a15 a16 a17 a18 a19 a20 seed now nbt nki npl nva nwr nrm nrs nrz tow tbt tki tpl tva twr trm trs trz v1 v4 h2) ⟨(Nat.le_of_ble_eq_true rfl), (Nat.le_of_ble_eq_true rfl), (Nat.le_of_ble_eq_true rfl), (Nat.le_of_ble_eq_true rfl)⟩ 0 rfl rfl [0, 1, 2, 3, 4, 5, 6, 7, 8, 9, 10, 11, 12, 13, 14, 15, 16, 17, 18, 19, 20] rfl rfl rfl (Up.of [] [] rfl rfl rfl 21 rfl (by decide +kernel)) rfl rfl (Nat.le_of_ble_eq_true rfl) ?_
      refine x_aload_n (pc := 22) X d_Mind_leastKind_22 0 rfl rfl ?_
      refine x_get (pc := 23) X d_Mind_leastKind_23 0 rfl fl_Mind_15 rfl ?_
      refine x_iload_n (pc := 26) X d_Mind_leastKind_26 1 rfl rfl ?_
      obtain ⟨r3, h4, h⟩ := bnd_e h
      refine x_callV (pc := 27) (As := [.int (zi v1)]) (rest := []) (w2 := (w_Mind cI cB a0 a1 a2 a3 a4 a5 a6 a7 a8 a9 a10 a11 a12 a13 a14 a15 a16 a17 a18 a19 a20 seed now nbt nki npl nva nwr nrm nrs nrz r1.1 r1.2.1 r1.2.2.1 r1.2.2.2.1 r1.2.2.2.2.1 r1.2.2.2.2.2.1 r1.2.2.2.2.2.2.1 r1.2.2.2.2.2.2.2.1 r1.2.2.2.2.2.2.2.2)) X d_Mind_leastKind_27 lk_Mind_39 mv_Disk_extentsIn (c_Disk_extentsIn l D cI cB a11 a12 a13 a14 a15 a16 a17 a18 a19 a20 r1.1 r1.2.1 r1.2.2.1 r1.2.2.2.1 r1.2.2.2.2.1 r1.2.2.2.2.2.1 r1.2.2.2.2.2.2.1 r1.2.2.2.2.2.2.2.1 r1.2.2.2.2.2.2.2.2 v1 h4) ⟨(Nat.le_of_ble_eq_true rfl), (Nat.le_of_ble_eq_true rfl), (Nat.le_of_ble_eq_true rfl), (Nat.le_of_ble_eq_true rfl)⟩ 11 rfl rfl [11, 12, 13, 14, 15, 16, 17, 18, 19, 20] rfl rfl rfl (Up.same rfl) rfl rfl (Nat.le_of_ble_eq_true rfl) ?_
      refine x_iload_n (pc := 30) X d_Mind_leastKind_30 3 rfl rfl ?_
      refine x_icmpge (pc := 31) (tgt := 46) X d_Mind_leastKind_31 rfl h (fun h => ?_) (fun h => ?_)
      · skip
        refine x_iinc (pc := 46) (ls2 := [(4, .int (zi (v4 + 1))), (0, .ref a0), (1, .int (zi v1)), (2, .int (zi v2)), (3, .int (zi v3))]) X d_Mind_leastKind_46 4 (Nat.le_of_ble_eq_true rfl) rfl rfl ?_
        refine x_goto (pc := 49) (tgt := 8) X d_Mind_leastKind_49 rfl ?_
        refine x_ls (ls2 := [(0, .ref a0), (1, .int (zi v1)), (2, .int (zi v2)), (3, .int (zi v3)), (4, .int (zi (v4 + 1)))]) [1, 2, 3, 4, 0] rfl ?_
        exact ih v1 v2 v3 (v4 + 1) now nbt nki npl nva nwr r1.1 r1.2.1 r1.2.2.1 r1.2.2.2.1 r1.2.2.2.2.1 r1.2.2.2.2.2.1 r1.2.2.2.2.2.2.1 r1.2.2.2.2.2.2.2.1 r1.2.2.2.2.2.2.2.2 o h hR
      · skip
        refine x_iload (pc := 34) X d_Mind_leastKind_34 4 rfl ?_
        refine x_istore_n (pc := 36) (ls2 := [(2, .int (zi v4)), (0, .ref a0), (1, .int (zi v1)), (3, .int (zi v3)), (4, .int (zi v4))]) X d_Mind_leastKind_36 rfl (Nat.le_of_ble_eq_true rfl) rfl ?_
        refine x_aload_n (pc := 37) X d_Mind_leastKind_37 1 rfl rfl ?_
        refine x_get (pc := 38) X d_Mind_leastKind_38 0 rfl fl_Mind_15 rfl ?_
        refine x_iload_n (pc := 41) X d_Mind_leastKind_41 2 rfl rfl ?_
        obtain ⟨r5, h6, h⟩ := bnd_e h
        refine x_callV (pc := 42) (As := [.int (zi v1)]) (rest := []) (w2 := (w_Mind cI cB a0 a1 a2 a3 a4 a5 a6 a7 a8 a9 a10 a11 a12 a13 a14 a15 a16 a17 a18 a19 a20 seed now nbt nki npl nva nwr nrm nrs nrz r1.1 r1.2.1 r1.2.2.1 r1.2.2.2.1 r1.2.2.2.2.1 r1.2.2.2.2.2.1 r1.2.2.2.2.2.2.1 r1.2.2.2.2.2.2.2.1 r1.2.2.2.2.2.2.2.2)) X d_Mind_leastKind_42 lk_Mind_39 mv_Disk_extentsIn (c_Disk_extentsIn l D cI cB a11 a12 a13 a14 a15 a16 a17 a18 a19 a20 r1.1 r1.2.1 r1.2.2.1 r1.2.2.2.1 r1.2.2.2.2.1 r1.2.2.2.2.2.1 r1.2.2.2.2.2.2.1 r1.2.2.2.2.2.2.2.1 r1.2.2.2.2.2.2.2.2 v1 h6) ⟨(Nat.le_of_ble_eq_true rfl), (Nat.le_of_ble_eq_true rfl), (Nat.le_of_ble_eq_true rfl), (Nat.le_of_ble_eq_true rfl)⟩ 11 rfl rfl [11, 12, 13, 14, 15, 16, 17, 18, 19, 20] rfl rfl rfl (Up.same rfl) rfl rfl (Nat.le_of_ble_eq_true rfl) ?_
        refine x_istore_n (pc := 45) (ls2 := [(3, .int (zi r5)), (2, .int (zi v4)), (0, .ref a0), (1, .int (zi v1)), (4, .int (zi v4))]) X d_Mind_leastKind_45 rfl (Nat.le_of_ble_eq_true rfl) rfl ?_
        refine x_iinc (pc := 46) (ls2 := [(4, .int (zi (v4 + 1))), (3, .int (zi r5)), (2, .int (zi v4)), (0, .ref a0), (1, .int (zi v1))]) X d_Mind_leastKind_46 4 (Nat.le_of_ble_eq_true rfl) rfl rfl ?_
        refine x_goto (pc := 49) (tgt := 8) X d_Mind_leastKind_49 rfl ?_
        refine x_ls (ls2 := [(0, .ref a0), (1, .int (zi v1)), (2, .int (zi v4)), (3, .int (zi r5)), (4, .int (zi (v4 + 1)))]) [3, 4, 2, 1, 0] rfl ?_
        exact ih v1 v4 r5 (v4 + 1) now nbt nki npl nva nwr r1.1 r1.2.1 r1.2.2.1 r1.2.2.2.1 r1.2.2.2.2.1 r1.2.2.2.2.2.1 r1.2.2.2.2.2.2.1 r1.2.2.2.2.2.2.2.1 r1.2.2.2.2.2.2.2.2 o h hR
set_option maxHeartbeats 4000000 in
set_option maxRecDepth 100000 in
theorem c_Mind_leastKind (l : Launch) (D : va_G) (cI cB : ClassId) (a0 a1 a2 a3 a4 a5 a6 a7 a8 a9 a10 a11 a12 a13 a14 a15 a16 a17 a18 a19 a20 : Nat) (seed : Int) (now : Int → Int) (nbt : Int → Int) (nki : Int → Int) (npl : Int → Int) (nva : Int → Int) (nwr : Int → Int) (nrm : Int) (nrs : Int → Int) (nrz : Int → Int) (tow : Int → Int) (tbt : Int → Int) (tki : Int → Int) (tpl : Int → Int) (tva : Int → Int) (twr : Int → Int) (trm : Int) (trs : Int → Int) (trz : Int → Int) (x1 : Int) {o : Int × (Int → Int) × (Int → Int) × (Int → Int) × (Int → Int) × (Int → Int) × (Int → Int) × Int × (Int → Int) × (Int → Int)} (h : m_Mind_leastKind x1 now nbt nki npl nva nwr tow tbt tki tpl tva twr trm trs trz = some o) : Ct l D cI cB y_Mind_leastKind b_Mind_leastKind 5 (some .int) { frames := 5, cells := 0, slots := 0, locals := 125 } [.ref a0, .int (zi x1)] (w_Mind cI cB a0 a1 a2 a3 a4 a5 a6 a7 a8 a9 a10 a11 a12 a13 a14 a15 a16 a17 a18 a19 a20 seed now nbt nki npl nva nwr nrm nrs nrz tow tbt tki tpl tva twr trm trs trz) (w_Mind cI cB a0 a1 a2 a3 a4 a5 a6 a7 a8 a9 a10 a11 a12 a13 a14 a15 a16 a17 a18 a19 a20 seed now nbt nki npl nva nwr nrm nrs nrz o.2.1 o.2.2.1 o.2.2.2.1 o.2.2.2.2.1 o.2.2.2.2.2.1 o.2.2.2.2.2.2.1 o.2.2.2.2.2.2.2.1 o.2.2.2.2.2.2.2.2.1 o.2.2.2.2.2.2.2.2.2) (some (.int (zi o.1))) := by
  refine Ct.start (by decide) (Nat.le_of_ble_eq_true rfl) (fun G X hR => ?_)
  refine x_ls (ls2 := [(0, .ref a0), (1, .int (zi x1))]) [0, 1] rfl ?_
  unfold m_Mind_leastKind at h
  refine x_iconst (pc := 0) X d_Mind_leastKind_0  ?_
  refine x_istore_n (pc := 1) (ls2 := [(2, .int (zi (-1))), (0, .ref a0), (1, .int (zi x1))]) X d_Mind_leastKind_1 rfl (Nat.le_of_ble_eq_true rfl) rfl ?_
  refine x_bipush (pc := 2) (v := 25) X d_Mind_leastKind_2 rfl ?_
  refine x_istore_n (pc := 4) (ls2 := [(3, .int (zi 25)), (2, .int (zi (-1))), (0, .ref a0), (1, .int (zi x1))]) X d_Mind_leastKind_4 rfl (Nat.le_of_ble_eq_true rfl) rfl ?_
  refine x_iconst (pc := 5) X d_Mind_leastKind_5  ?_
  refine x_istore (pc := 6) (ls2 := [(4, .int (zi 0)), (3, .int (zi 25)), (2, .int (zi (-1))), (0, .ref a0), (1, .int (zi x1))]) X d_Mind_leastKind_6 (Nat.le_of_ble_eq_true rfl) rfl ?_
  refine x_ls (ls2 := [(0, .ref a0), (1, .int (zi x1)), (2, .int (zi (-1))), (3, .int (zi 25)), (4, .int (zi 0))]) [3, 4, 2, 1, 0] rfl ?_
  exact l_Mind_leastKind_8 X 5000 x1 (-1) 25 0 now nbt nki npl nva nwr tow tbt tki tpl tva twr trm trs trz o h hR
theorem d_Mind_extentsByOrder_0 : decode b_Mind_extentsByOrder 0 = .ok (.aload_n 0, 1) := by decide +kernel
theorem d_Mind_extentsByOrder_1 : decode b_Mind_extentsByOrder 1 = .ok (.getfield 15, 3) := by decide +kernel
theorem d_Mind_extentsByOrder_4 : decode b_Mind_extentsByOrder 4 = .ok (.aload_n 0, 1) := by decide +kernel
theorem d_Mind_extentsByOrder_5 : decode b_Mind_extentsByOrder 5 = .ok (.getfield 9, 3) := by decide +kernel
theorem d_Mind_extentsByOrder_8 : decode b_Mind_extentsByOrder 8 = .ok (.invokevirtual 22, 3) := by decide +kernel
theorem d_Mind_extentsByOrder_11 : decode b_Mind_extentsByOrder 11 = .ok (.iconst 0, 1) := by decide +kernel
theorem d_Mind_extentsByOrder_12 : decode b_Mind_extentsByOrder 12 = .ok (.istore_n 2, 1) := by decide +kernel
theorem d_Mind_extentsByOrder_13 : decode b_Mind_extentsByOrder 13 = .ok (.iload_n 2, 1) := by decide +kernel
theorem d_Mind_extentsByOrder_14 : decode b_Mind_extentsByOrder 14 = .ok (.iconst 4, 1) := by decide +kernel
theorem d_Mind_extentsByOrder_15 : decode b_Mind_extentsByOrder 15 = .ok (.if_icmp .ge 25, 3) := by decide +kernel
theorem d_Mind_extentsByOrder_18 : decode b_Mind_extentsByOrder 18 = .ok (.aload_n 0, 1) := by decide +kernel
theorem d_Mind_extentsByOrder_19 : decode b_Mind_extentsByOrder 19 = .ok (.getfield 15, 3) := by decide +kernel
theorem d_Mind_extentsByOrder_22 : decode b_Mind_extentsByOrder 22 = .ok (.iload_n 1, 1) := by decide +kernel
theorem d_Mind_extentsByOrder_23 : decode b_Mind_extentsByOrder 23 = .ok (.iload_n 2, 1) := by decide +kernel
theorem d_Mind_extentsByOrder_24 : decode b_Mind_extentsByOrder 24 = .ok (.invokestatic 50, 3) := by decide +kernel
theorem d_Mind_extentsByOrder_27 : decode b_Mind_extentsByOrder 27 = .ok (.sipush 1000, 3) := by decide +kernel
theorem d_Mind_extentsByOrder_30 : decode b_Mind_extentsByOrder 30 = .ok (.invokevirtual 32, 3) := by decide +kernel
theorem d_Mind_extentsByOrder_33 : decode b_Mind_extentsByOrder 33 = .ok (.pop, 1) := by decide +kernel
theorem d_Mind_extentsByOrder_34 : decode b_Mind_extentsByOrder 34 = .ok (.iinc 2 1, 3) := by decide +kernel
theorem d_Mind_extentsByOrder_37 : decode b_Mind_extentsByOrder 37 = .ok (.goto (-24), 3) := by decide +kernel
theorem d_Mind_extentsByOrder_40 : decode b_Mind_extentsByOrder 40 = .ok (.aload_n 0, 1) := by decide +kernel
theorem d_Mind_extentsByOrder_41 : decode b_Mind_extentsByOrder 41 = .ok (.getfield 15, 3) := by decide +kernel
theorem d_Mind_extentsByOrder_44 : decode b_Mind_extentsByOrder 44 = .ok (.invokevirtual 53, 3) := by decide +kernel
theorem d_Mind_extentsByOrder_47 : decode b_Mind_extentsByOrder 47 = .ok (.ireturn, 1) := by decide +kernel
def m_Mind_extentsByOrder_13 : Nat → Int → Int → (Int → Int) → (Int → Int) → (Int → Int) → (Int → Int) → (Int → Int) → (Int → Int) → (Int → Int) → (Int → Int) → (Int → Int) → (Int → Int) → (Int → Int) → (Int → Int) → Int → (Int → Int) → (Int → Int) → Option (Int × (Int → Int) × (Int → Int) × (Int → Int) × (Int → Int) × (Int → Int) × (Int → Int) × Int × (Int → Int) × (Int → Int))
  | 0, _, _, _, _, _, _, _, _, _, _, _, _, _, _, _, _, _ => none
  | fuel + 1, v1, v2, now, nbt, nki, npl, nva, nwr, tow, tbt, tki, tpl, tva, twr, trm, trs, trz =>
  clt v2 4 (bnd (m_Vol_fileOfOrder v1 v2) (fun r5 => bnd (m_Disk_flushUpTo r5 1000 tow tbt tki tpl tva twr trm trs trz) (fun r7 => m_Mind_extentsByOrder_13 fuel v1 (v2 + 1) now nbt nki npl nva nwr r7.2.1 r7.2.2.1 tki r7.2.2.2.1 r7.2.2.2.2.1 r7.2.2.2.2.2.1 r7.2.2.2.2.2.2.1 r7.2.2.2.2.2.2.2.1 r7.2.2.2.2.2.2.2.2))) (bnd (m_Disk_extentsInAll tpl twr) (fun r3 => some (r3, tow, tbt, tki, tpl, tva, twr, trm, trs, trz)))
def m_Mind_extentsByOrder (x1 : Int) (now : Int → Int) (nbt : Int → Int) (nki : Int → Int) (npl : Int → Int) (nva : Int → Int) (nwr : Int → Int) (tow : Int → Int) (tbt : Int → Int) (tki : Int → Int) (tpl : Int → Int) (tva : Int → Int) (twr : Int → Int) (trm : Int) (trs : Int → Int) (trz : Int → Int) : Option (Int × (Int → Int) × (Int → Int) × (Int → Int) × (Int → Int) × (Int → Int) × (Int → Int) × Int × (Int → Int) × (Int → Int)) :=
  bnd (m_Disk_copyFrom tow tbt tki tpl tva twr now nbt nki npl nva nwr) (fun r1 => m_Mind_extentsByOrder_13 5000 x1 0 now nbt nki npl nva nwr r1.1 r1.2.1 r1.2.2.1 r1.2.2.2.1 r1.2.2.2.2.1 r1.2.2.2.2.2 trm trs trz)
set_option maxHeartbeats 4000000 in
set_option maxRecDepth 100000 in
theorem l_Mind_extentsByOrder_13 {G : GT} {l : Launch} {D : va_G} {cI cB : ClassId} {a0 a1 a2 a3 a4 a5 a6 a7 a8 a9 a10 a11 a12 a13 a14 a15 a16 a17 a18 a19 a20 : Nat} {seed : Int} {nrm : Int} {nrs : Int → Int} {nrz : Int → Int} (X : Cx G l D cI cB b_Mind_extentsByOrder y_Mind_extentsByOrder.cls 3 { frames := 4, cells := 0, slots := 0, locals := 103 }) : ∀ (fuel : Nat) (v1 : Int) (v2 : Int) (now : Int → Int) (nbt : Int → Int) (nki : Int → Int) (npl : Int → Int) (nva : Int → Int) (nwr : Int → Int) (tow : Int → Int) (tbt : Int → Int) (tki : Int → Int) (tpl : Int → Int) (tva : Int → Int) (twr : Int → Int) (trm : Int) (trs : Int → Int) (trz : Int → Int) (o : Int × (Int → Int) × (Int → Int) × (Int → Int) × (Int → Int) × (Int → Int) × (Int → Int) × Int × (Int → Int) × (Int → Int)), m_Mind_extentsByOrder_13 fuel v1 v2 now nbt nki npl nva nwr tow tbt tki tpl tva twr trm trs trz = some o → Rt G (some .int) (some (.int (zi o.1))) (w_Mind cI cB a0 a1 a2 a3 a4 a5 a6 a7 a8 a9 a10 a11 a12 a13 a14 a15 a16 a17 a18 a19 a20 seed now nbt nki npl nva nwr nrm nrs nrz o.2.1 o.2.2.1 o.2.2.2.1 o.2.2.2.2.1 o.2.2.2.2.2.1 o.2.2.2.2.2.2.1 o.2.2.2.2.2.2.2.1 o.2.2.2.2.2.2.2.2.1 o.2.2.2.2.2.2.2.2.2) → Wx G 0 0 13 [(0, .ref a0), (1, .int (zi v1)), (2, .int (zi v2))] [] (w_Mind cI cB a0 a1 a2 a3 a4 a5 a6 a7 a8 a9 a10 a11 a12 a13 a14 a15 a16 a17 a18 a19 a20 seed now nbt nki npl nva nwr nrm nrs nrz tow tbt tki tpl tva twr trm trs trz) := by
  intro fuel
  induction fuel with
  | zero =>
    intro v1 v2 now nbt nki npl nva nwr tow tbt tki tpl tva twr trm trs trz o h
    exact absurd h (by simp [m_Mind_extentsByOrder_13])
  | succ fuel ih =>
    intro v1 v2 now nbt nki npl nva nwr tow tbt tki tpl tva twr trm trs trz o h hR
    rw [m_Mind_extentsByOrder_13] at h
    refine x_iload_n (pc := 13) X d_Mind_extentsByOrder_13 2 rfl rfl ?_
    refine x_iconst (pc := 14) X d_Mind_extentsByOrder_14  ?_
    refine x_icmpge (pc := 15) (tgt := 40) X d_Mind_extentsByOrder_15 rfl h (fun h => ?_) (fun h => ?_)
    · skip
      refine x_aload_n (pc := 40) X d_Mind_extentsByOrder_40 0 rfl rfl ?_
      refine x_get (pc := 41) X d_Mind_extentsByOrder_41 0 rfl fl_Mind_15 rfl ?_
      obtain ⟨r3, h4, h⟩ := bnd_e h
      refine x_callV (pc := 44) (As := []) (rest := []) (w2 := (w_Mind cI cB a0 a1 a2 a3 a4 a5 a6 a7 a8 a9 a10 a11 a12 a13 a14 a15 a16 a17 a18 a19 a20 seed now nbt nki npl nva nwr nrm nrs nrz tow tbt tki tpl tva twr trm trs trz)) X d_Mind_extentsByOrder_44 lk_Mind_53 mv_Disk_extentsInAll (c_Disk_extentsInAll l D cI cB a11 a12 a13 a14 a15 a16 a17 a18 a19 a20 tow tbt tki tpl tva twr trm trs trz h4) ⟨(Nat.le_of_ble_eq_true rfl), (Nat.le_of_ble_eq_true rfl), (Nat.le_of_ble_eq_true rfl), (Nat.le_of_ble_eq_true rfl)⟩ 11 rfl rfl [11, 12, 13, 14, 15, 16, 17, 18, 19, 20] rfl rfl rfl (Up.same rfl) rfl rfl (Nat.le_of_ble_eq_true rfl) ?_
      cases h
      exact x_iret (pc := 47) X hR d_Mind_extentsByOrder_47
    · skip
      refine x_aload_n (pc := 18) X d_Mind_extentsByOrder_18 0 rfl rfl ?_
      refine x_get (pc := 19) X d_Mind_extentsByOrder_19 0 rfl fl_Mind_15 rfl ?_
      refine x_iload_n (pc := 22) X d_Mind_extentsByOrder_22 1 rfl rfl ?_
      refine x_iload_n (pc := 23) X d_Mind_extentsByOrder_23 2 rfl rfl ?_
      obtain ⟨r5, h6, h⟩ := bnd_e h
      refine x_callS (pc := 24) (As := [.int (zi v1), .int (zi v2)]) (rest := [.ref a11]) (w2 := (w_Mind cI cB a0 a1 a2 a3 a4 a5 a6 a7 a8 a9 a10 a11 a12 a13 a14 a15 a16 a17 a18 a19 a20 seed now nbt nki npl nva nwr nrm nrs nrz tow tbt tki tpl tva twr trm trs trz)) X d_Mind_extentsByOrder_24 lk_Mind_50 mv_Vol_fileOfOrder (c_Vol_fileOfOrder l D cI cB v1 v2 h6) ⟨(Nat.le_of_ble_eq_true rfl), (Nat.le_of_ble_eq_true rfl), (Nat.le_of_ble_eq_true rfl), (Nat.le_of_ble_eq_true rfl)⟩ [] rfl rfl rfl (Up.same rfl) rfl rfl (Nat.le_of_ble_eq_true rfl) ?_
      refine x_sipush (pc := 27) (v := 1000) X d_Mind_extentsByOrder_27 (by decide +kernel) ?_
      obtain ⟨r7, h8, h⟩ := bnd_e h
      refine x_callV (pc := 30) (As := [.int (zi r5), .int (zi 1000)]) (rest := []) (w2 := (w_Mind cI cB a0 a1 a2 a3 a4 a5 a6 a7 a8 a9 a10 a11 a12 a13 a14 a15 a16 a17 a18 a19 a20 seed now nbt nki npl nva nwr nrm nrs nrz r7.2.1 r7.2.2.1 tki r7.2.2.2.1 r7.2.2.2.2.1 r7.2.2.2.2.2.1 r7.2.2.2.2.2.2.1 r7.2.2.2.2.2.2.2.1 r7.2.2.2.2.2.2.2.2)) X d_Mind_extentsByOrder_30 lk_Mind_32 mv_Disk_flushUpTo (c_Disk_flushUpTo l D cI cB a11 a12 a13 a14 a15 a16 a17 a18 a19 a20 tow tbt tki tpl tva twr trm trs trz r5 1000 h8) ⟨(Nat.le_of_ble_eq_true rfl), (Nat.le_of_ble_eq_true rfl), (Nat.le_of_ble_eq_true rfl), (Nat.le_of_ble_eq_true rfl)⟩ 11 rfl rfl [11, 12, 13, 14, 15, 16, 17, 18, 19, 20] rfl rfl rfl (Up.of [0, 1, 2, 3, 4, 5, 6, 7, 8, 9, 10] [(a0, .inr (1, [.ref a1, .ref a11, .int (zi seed)])), (a1, .inr (0, [.ref a2, .ref a3, .ref a4, .ref a5, .ref a6, .ref a7, .ref a8])), (a2, zA cI 64 now), (a3, zA cI 64 nbt), (a4, zA cI 4 nki), (a5, zA cI 96 npl), (a6, zA cI 96 nva), (a7, zA cB 96 nwr), (a8, .inr (3, [.ref a9, .ref a10, .int (zi nrm)])), (a9, zA cI 32 nrs), (a10, zA cI 32 nrz)] rfl rfl rfl 21 rfl (by decide +kernel)) rfl rfl (Nat.le_of_ble_eq_true rfl) ?_
      refine x_pop (pc := 33) X d_Mind_extentsByOrder_33 rfl ?_
      refine x_iinc (pc := 34) (ls2 := [(2, .int (zi (v2 + 1))), (0, .ref a0), (1, .int (zi v1))]) X d_Mind_extentsByOrder_34 2 (Nat.le_of_ble_eq_true rfl) rfl rfl ?_
      refine x_goto (pc := 37) (tgt := 13) X d_Mind_extentsByOrder_37 rfl ?_
      refine x_ls (ls2 := [(0, .ref a0), (1, .int (zi v1)), (2, .int (zi (v2 + 1)))]) [1, 2, 0] rfl ?_
      exact ih v1 (v2 + 1) now nbt nki npl nva nwr r7.2.1 r7.2.2.1 tki r7.2.2.2.1 r7.2.2.2.2.1 r7.2.2.2.2.2.1 r7.2.2.2.2.2.2.1 r7.2.2.2.2.2.2.2.1 r7.2.2.2.2.2.2.2.2 o h hR
set_option maxHeartbeats 4000000 in
set_option maxRecDepth 100000 in
theorem c_Mind_extentsByOrder (l : Launch) (D : va_G) (cI cB : ClassId) (a0 a1 a2 a3 a4 a5 a6 a7 a8 a9 a10 a11 a12 a13 a14 a15 a16 a17 a18 a19 a20 : Nat) (seed : Int) (now : Int → Int) (nbt : Int → Int) (nki : Int → Int) (npl : Int → Int) (nva : Int → Int) (nwr : Int → Int) (nrm : Int) (nrs : Int → Int) (nrz : Int → Int) (tow : Int → Int) (tbt : Int → Int) (tki : Int → Int) (tpl : Int → Int) (tva : Int → Int) (twr : Int → Int) (trm : Int) (trs : Int → Int) (trz : Int → Int) (x1 : Int) {o : Int × (Int → Int) × (Int → Int) × (Int → Int) × (Int → Int) × (Int → Int) × (Int → Int) × Int × (Int → Int) × (Int → Int)} (h : m_Mind_extentsByOrder x1 now nbt nki npl nva nwr tow tbt tki tpl tva twr trm trs trz = some o) : Ct l D cI cB y_Mind_extentsByOrder b_Mind_extentsByOrder 3 (some .int) { frames := 4, cells := 0, slots := 0, locals := 103 } [.ref a0, .int (zi x1)] (w_Mind cI cB a0 a1 a2 a3 a4 a5 a6 a7 a8 a9 a10 a11 a12 a13 a14 a15 a16 a17 a18 a19 a20 seed now nbt nki npl nva nwr nrm nrs nrz tow tbt tki tpl tva twr trm trs trz) (w_Mind cI cB a0 a1 a2 a3 a4 a5 a6 a7 a8 a9 a10 a11 a12 a13 a14 a15 a16 a17 a18 a19 a20 seed now nbt nki npl nva nwr nrm nrs nrz o.2.1 o.2.2.1 o.2.2.2.1 o.2.2.2.2.1 o.2.2.2.2.2.1 o.2.2.2.2.2.2.1 o.2.2.2.2.2.2.2.1 o.2.2.2.2.2.2.2.2.1 o.2.2.2.2.2.2.2.2.2) (some (.int (zi o.1))) := by
  refine Ct.start (by decide) (Nat.le_of_ble_eq_true rfl) (fun G X hR => ?_)
  refine x_ls (ls2 := [(0, .ref a0), (1, .int (zi x1))]) [0, 1] rfl ?_
  unfold m_Mind_extentsByOrder at h
  refine x_aload_n (pc := 0) X d_Mind_extentsByOrder_0 0 rfl rfl ?_
  refine x_get (pc := 1) X d_Mind_extentsByOrder_1 0 rfl fl_Mind_15 rfl ?_
  refine x_aload_n (pc := 4) X d_Mind_extentsByOrder_4 0 rfl rfl ?_
  refine x_get (pc := 5) X d_Mind_extentsByOrder_5 0 rfl fl_Mind_9 rfl ?_
  obtain ⟨r1, h2, h⟩ := bnd_e h
  refine x_callV (pc := 8) (As := [.ref a1]) (rest := []) (w2 := (w_Mind cI cB a0 a1 a2 a3 a4 a5 a6 a7 a8 a9 a10 a11 a12 a13 a14 a15 a16 a17 a18 a19 a20 seed now nbt nki npl nva nwr nrm nrs nrz r1.1 r1.2.1 r1.2.2.1 r1.2.2.2.1 r1.2.2.2.2.1 r1.2.2.2.2.2 trm trs trz)) X d_Mind_extentsByOrder_8 lk_Mind_22 mv_Disk_copyFrom (c_Disk_copyFrom l D cI cB a11 a12 a13 a14 a15 a16 a17 a18 a19 a20 a1 a2 a3 a4 a5 a6 a7 a8 a9 a10 tow tbt tki tpl tva twr trm trs trz now nbt nki npl nva nwr nrm nrs nrz h2) ⟨(Nat.le_of_ble_eq_true rfl), (Nat.le_of_ble_eq_true rfl), (Nat.le_of_ble_eq_true rfl), (Nat.le_of_ble_eq_true rfl)⟩ 11 rfl rfl [11, 12, 13, 14, 15, 16, 17, 18, 19, 20, 1, 2, 3, 4, 5, 6, 7, 8, 9, 10] rfl rfl rfl (Up.of [0] [(a0, .inr (1, [.ref a1, .ref a11, .int (zi seed)]))] rfl rfl rfl 21 rfl (by decide +kernel)) rfl rfl (Nat.le_of_ble_eq_true rfl) ?_
  refine x_iconst (pc := 11) X d_Mind_extentsByOrder_11  ?_
  refine x_istore_n (pc := 12) (ls2 := [(2, .int (zi 0)), (0, .ref a0), (1, .int (zi x1))]) X d_Mind_extentsByOrder_12 rfl (Nat.le_of_ble_eq_true rfl) rfl ?_
  refine x_ls (ls2 := [(0, .ref a0), (1, .int (zi x1)), (2, .int (zi 0))]) [1, 2, 0] rfl ?_
  exact l_Mind_extentsByOrder_13 X 5000 x1 0 now nbt nki npl nva nwr r1.1 r1.2.1 r1.2.2.1 r1.2.2.2.1 r1.2.2.2.2.1 r1.2.2.2.2.2 trm trs trz o h hR
theorem d_Mind_leastOrder_0 : decode b_Mind_leastOrder 0 = .ok (.iconst (-1), 1) := by decide +kernel
theorem d_Mind_leastOrder_1 : decode b_Mind_leastOrder 1 = .ok (.istore_n 1, 1) := by decide +kernel
theorem d_Mind_leastOrder_2 : decode b_Mind_leastOrder 2 = .ok (.iconst 0, 1) := by decide +kernel
theorem d_Mind_leastOrder_3 : decode b_Mind_leastOrder 3 = .ok (.istore_n 2, 1) := by decide +kernel
theorem d_Mind_leastOrder_4 : decode b_Mind_leastOrder 4 = .ok (.iconst 0, 1) := by decide +kernel
theorem d_Mind_leastOrder_5 : decode b_Mind_leastOrder 5 = .ok (.istore_n 3, 1) := by decide +kernel
theorem d_Mind_leastOrder_6 : decode b_Mind_leastOrder 6 = .ok (.iload_n 3, 1) := by decide +kernel
theorem d_Mind_leastOrder_7 : decode b_Mind_leastOrder 7 = .ok (.sipush 256, 3) := by decide +kernel
theorem d_Mind_leastOrder_10 : decode b_Mind_leastOrder 10 = .ok (.if_icmp .ge 47, 3) := by decide +kernel
theorem d_Mind_leastOrder_13 : decode b_Mind_leastOrder 13 = .ok (.iload_n 3, 1) := by decide +kernel
theorem d_Mind_leastOrder_14 : decode b_Mind_leastOrder 14 = .ok (.invokestatic 43, 3) := by decide +kernel
theorem d_Mind_leastOrder_17 : decode b_Mind_leastOrder 17 = .ok (.ifCond .eq 11, 3) := by decide +kernel
theorem d_Mind_leastOrder_20 : decode b_Mind_leastOrder 20 = .ok (.aload_n 0, 1) := by decide +kernel
theorem d_Mind_leastOrder_21 : decode b_Mind_leastOrder 21 = .ok (.iload_n 3, 1) := by decide +kernel
theorem d_Mind_leastOrder_22 : decode b_Mind_leastOrder 22 = .ok (.invokevirtual 47, 3) := by decide +kernel
theorem d_Mind_leastOrder_25 : decode b_Mind_leastOrder 25 = .ok (.goto 4, 3) := by decide +kernel
theorem d_Mind_leastOrder_28 : decode b_Mind_leastOrder 28 = .ok (.iconst (-1), 1) := by decide +kernel
theorem d_Mind_leastOrder_29 : decode b_Mind_leastOrder 29 = .ok (.istore 4, 2) := by decide +kernel
theorem d_Mind_leastOrder_31 : decode b_Mind_leastOrder 31 = .ok (.iload 4, 2) := by decide +kernel
theorem d_Mind_leastOrder_33 : decode b_Mind_leastOrder 33 = .ok (.ifCond .lt 18, 3) := by decide +kernel
theorem d_Mind_leastOrder_36 : decode b_Mind_leastOrder 36 = .ok (.iload_n 1, 1) := by decide +kernel
theorem d_Mind_leastOrder_37 : decode b_Mind_leastOrder 37 = .ok (.ifCond .lt 9, 3) := by decide +kernel
theorem d_Mind_leastOrder_40 : decode b_Mind_leastOrder 40 = .ok (.iload 4, 2) := by decide +kernel
theorem d_Mind_leastOrder_42 : decode b_Mind_leastOrder 42 = .ok (.iload_n 2, 1) := by decide +kernel
theorem d_Mind_leastOrder_43 : decode b_Mind_leastOrder 43 = .ok (.if_icmp .ge 8, 3) := by decide +kernel
theorem d_Mind_leastOrder_46 : decode b_Mind_leastOrder 46 = .ok (.iload_n 3, 1) := by decide +kernel
theorem d_Mind_leastOrder_47 : decode b_Mind_leastOrder 47 = .ok (.istore_n 1, 1) := by decide +kernel
theorem d_Mind_leastOrder_48 : decode b_Mind_leastOrder 48 = .ok (.iload 4, 2) := by decide +kernel
theorem d_Mind_leastOrder_50 : decode b_Mind_leastOrder 50 = .ok (.istore_n 2, 1) := by decide +kernel
theorem d_Mind_leastOrder_51 : decode b_Mind_leastOrder 51 = .ok (.iinc 3 1, 3) := by decide +kernel
theorem d_Mind_leastOrder_54 : decode b_Mind_leastOrder 54 = .ok (.goto (-48), 3) := by decide +kernel
theorem d_Mind_leastOrder_57 : decode b_Mind_leastOrder 57 = .ok (.iload_n 1, 1) := by decide +kernel
theorem d_Mind_leastOrder_58 : decode b_Mind_leastOrder 58 = .ok (.ireturn, 1) := by decide +kernel
def m_Mind_leastOrder_6 : Nat → Int → Int → Int → (Int → Int) → (Int → Int) → (Int → Int) → (Int → Int) → (Int → Int) → (Int → Int) → (Int → Int) → (Int → Int) → (Int → Int) → (Int → Int) → (Int → Int) → (Int → Int) → Int → (Int → Int) → (Int → Int) → Option (Int × (Int → Int) × (Int → Int) × (Int → Int) × (Int → Int) × (Int → Int) × (Int → Int) × Int × (Int → Int) × (Int → Int))
  | 0, _, _, _, _, _, _, _, _, _, _, _, _, _, _, _, _, _, _ => none
  | fuel + 1, v1, v2, v3, now, nbt, nki, npl, nva, nwr, tow, tbt, tki, tpl, tva, twr, trm, trs, trz =>
  clt v3 256 (bnd (m_Mind_isOrder v3) (fun r1 => jn (fun (z4 : Int) (z5 : Int) (z6 : Int) (z7 : Int) (c8 : Int → Int) (c9 : Int → Int) (c10 : Int → Int) (c11 : Int → Int) (c12 : Int → Int) (c13 : Int → Int) (c14 : Int) (c15 : Int → Int) (c16 : Int → Int) => clt z7 0 (m_Mind_leastOrder_6 fuel z4 z5 (z6 + 1) now nbt nki npl nva nwr c8 c9 c10 c11 c12 c13 c14 c15 c16) (clt z4 0 (m_Mind_leastOrder_6 fuel z6 z7 (z6 + 1) now nbt nki npl nva nwr c8 c9 c10 c11 c12 c13 c14 c15 c16) (clt z7 z5 (m_Mind_leastOrder_6 fuel z6 z7 (z6 + 1) now nbt nki npl nva nwr c8 c9 c10 c11 c12 c13 c14 c15 c16) (m_Mind_leastOrder_6 fuel z4 z5 (z6 + 1) now nbt nki npl nva nwr c8 c9 c10 c11 c12 c13 c14 c15 c16)))) (fun j3 => ceq r1 0 (j3 v1 v2 v3 (-1) tow tbt tki tpl tva twr trm trs trz) (bnd (m_Mind_extentsByOrder v3 now nbt nki npl nva nwr tow tbt tki tpl tva twr trm trs trz) (fun r19 => j3 v1 v2 v3 r19.1 r19.2.1 r19.2.2.1 r19.2.2.2.1 r19.2.2.2.2.1 r19.2.2.2.2.2.1 r19.2.2.2.2.2.2.1 r19.2.2.2.2.2.2.2.1 r19.2.2.2.2.2.2.2.2.1 r19.2.2.2.2.2.2.2.2.2))))) (some (v1, tow, tbt, tki, tpl, tva, twr, trm, trs, trz))
def m_Mind_leastOrder  (now : Int → Int) (nbt : Int → Int) (nki : Int → Int) (npl : Int → Int) (nva : Int → Int) (nwr : Int → Int) (tow : Int → Int) (tbt : Int → Int) (tki : Int → Int) (tpl : Int → Int) (tva : Int → Int) (twr : Int → Int) (trm : Int) (trs : Int → Int) (trz : Int → Int) : Option (Int × (Int → Int) × (Int → Int) × (Int → Int) × (Int → Int) × (Int → Int) × (Int → Int) × Int × (Int → Int) × (Int → Int)) :=
  m_Mind_leastOrder_6 5000 (-1) 0 0 now nbt nki npl nva nwr tow tbt tki tpl tva twr trm trs trz
set_option maxHeartbeats 4000000 in
set_option maxRecDepth 100000 in
theorem l_Mind_leastOrder_6 {G : GT} {l : Launch} {D : va_G} {cI cB : ClassId} {a0 a1 a2 a3 a4 a5 a6 a7 a8 a9 a10 a11 a12 a13 a14 a15 a16 a17 a18 a19 a20 : Nat} {seed : Int} {nrm : Int} {nrs : Int → Int} {nrz : Int → Int} (X : Cx G l D cI cB b_Mind_leastOrder y_Mind_leastOrder.cls 5 { frames := 5, cells := 0, slots := 0, locals := 125 }) : ∀ (fuel : Nat) (v1 : Int) (v2 : Int) (v3 : Int) (now : Int → Int) (nbt : Int → Int) (nki : Int → Int) (npl : Int → Int) (nva : Int → Int) (nwr : Int → Int) (tow : Int → Int) (tbt : Int → Int) (tki : Int → Int) (tpl : Int → Int) (tva : Int → Int) (twr : Int → Int) (trm : Int) (trs : Int → Int) (trz : Int → Int) (o : Int × (Int → Int) × (Int → Int) × (Int → Int) × (Int → Int) × (Int → Int) × (Int → Int) × Int × (Int → Int) × (Int → Int)), m_Mind_leastOrder_6 fuel v1 v2 v3 now nbt nki npl nva nwr tow tbt tki tpl tva twr trm trs trz = some o → Rt G (some .int) (some (.int (zi o.1))) (w_Mind cI cB a0 a1 a2 a3 a4 a5 a6 a7 a8 a9 a10 a11 a12 a13 a14 a15 a16 a17 a18 a19 a20 seed now nbt nki npl nva nwr nrm nrs nrz o.2.1 o.2.2.1 o.2.2.2.1 o.2.2.2.2.1 o.2.2.2.2.2.1 o.2.2.2.2.2.2.1 o.2.2.2.2.2.2.2.1 o.2.2.2.2.2.2.2.2.1 o.2.2.2.2.2.2.2.2.2) → Wx G 0 0 6 [(0, .ref a0), (1, .int (zi v1)), (2, .int (zi v2)), (3, .int (zi v3))] [] (w_Mind cI cB a0 a1 a2 a3 a4 a5 a6 a7 a8 a9 a10 a11 a12 a13 a14 a15 a16 a17 a18 a19 a20 seed now nbt nki npl nva nwr nrm nrs nrz tow tbt tki tpl tva twr trm trs trz) := by
  intro fuel
  induction fuel with
  | zero =>
    intro v1 v2 v3 now nbt nki npl nva nwr tow tbt tki tpl tva twr trm trs trz o h
    exact absurd h (by simp [m_Mind_leastOrder_6])
  | succ fuel ih =>
    intro v1 v2 v3 now nbt nki npl nva nwr tow tbt tki tpl tva twr trm trs trz o h hR
    rw [m_Mind_leastOrder_6] at h
    refine x_iload_n (pc := 6) X d_Mind_leastOrder_6 3 rfl rfl ?_
    refine x_sipush (pc := 7) (v := 256) X d_Mind_leastOrder_7 (by decide +kernel) ?_
    refine x_icmpge (pc := 10) (tgt := 57) X d_Mind_leastOrder_10 rfl h (fun h => ?_) (fun h => ?_)
    · skip
      refine x_iload_n (pc := 57) X d_Mind_leastOrder_57 1 rfl rfl ?_
      cases h
      exact x_iret (pc := 58) X hR d_Mind_leastOrder_58
    · skip
      refine x_iload_n (pc := 13) X d_Mind_leastOrder_13 3 rfl rfl ?_
      obtain ⟨r1, h2, h⟩ := bnd_e h
      refine x_callS (pc := 14) (As := [.int (zi v3)]) (rest := []) (w2 := (w_Mind cI cB a0 a1 a2 a3 a4 a5 a6 a7 a8 a9 a10 a11 a12 a13 a14 a15 a16 a17 a18 a19 a20 seed now nbt nki npl nva nwr nrm nrs nrz tow tbt tki tpl tva twr trm trs trz)) X d_Mind_leastOrder_14 lk_Mind_43 mv_Mind_isOrder (c_Mind_isOrder l D cI cB v3 h2) ⟨(Nat.le_of_ble_eq_true rfl), (Nat.le_of_ble_eq_true rfl), (Nat.le_of_ble_eq_true rfl), (Nat.le_of_ble_eq_true rfl)⟩ [] rfl rfl rfl (Up.same rfl) rfl rfl (Nat.le_of_ble_eq_true rfl) ?_
      obtain ⟨j3, hj17, h⟩ := jn_e h
      have J18 : ∀ (z4 : Int) (z5 : Int) (z6 : Int) (z7 : Int) (c8 : Int → Int) (c9 : Int → Int) (c10 : Int → Int) (c11 : Int → Int) (c12 : Int → Int) (c13 : Int → Int) (c14 : Int) (c15 : Int → Int) (c16 : Int → Int), j3 z4 z5 z6 z7 c8 c9 c10 c11 c12 c13 c14 c15 c16 = some o → Wx G 0 0 29 [(0, .ref a0), (1, .int (zi z4)), (2, .int (zi z5)), (3, .int (zi z6))] [.int (zi z7)] (w_Mind cI cB a0 a1 a2 a3 a4 a5 a6 a7 a8 a9 a10 a11 a12 a13 a14 a15 a16 a17 a18 a19 a20 seed now nbt nki npl nva nwr nrm nrs nrz c8 c9 c10 c11 c12 c13 c14 c15 c16) := by
        intro z4 z5 z6 z7 c8 c9 c10 c11 c12 c13 c14 c15 c16 h
        rw [hj17] at h
        (try dsimp only at h)
        refine x_istore (pc := 29) (ls2 := [(4, .int (zi z7)), (0, .ref a0), (1, .int (zi z4)), (2, .int (zi z5)), (3, .int (zi z6))]) X d_Mind_leastOrder_29 (Nat.le_of_ble_eq_true rfl) rfl ?_
        refine x_iload (pc := 31) X d_Mind_leastOrder_31 0 rfl ?_
        refine x_iflt (pc := 33) (tgt := 51) X d_Mind_leastOrder_33 rfl h (fun h => ?_) (fun h => ?_)
        · skip
          refine x_iinc (pc := 51) (ls2 := [(3, .int (zi (z6 + 1))), (4, .int (zi z7)), (0, .ref a0), (1, .int (zi z4)), (2, .int (zi z5))]) X d_Mind_leastOrder_51 4 (Nat.le_of_ble_eq_true rfl) rfl rfl ?_
          refine x_goto (pc := 54) (tgt := 6) X d_Mind_leastOrder_54 rfl ?_
          refine x_ls (ls2 := [(0, .ref a0), (1, .int (zi z4)), (2, .int (zi z5)), (3, .int (zi (z6 + 1)))]) [2, 3, 4, 0] rfl ?_
          exact ih z4 z5 (z6 + 1) now nbt nki npl nva nwr c8 c9 c10 c11 c12 c13 c14 c15 c16 o h hR
        · skip
          refine x_iload_n (pc := 36) X d_Mind_leastOrder_36 2 rfl rfl ?_
          refine x_iflt (pc := 37) (tgt := 46) X d_Mind_leastOrder_37 rfl h (fun h => ?_) (fun h => ?_)
          · skip
            refine x_iload_n (pc := 46) X d_Mind_leastOrder_46 4 rfl rfl ?_
            refine x_istore_n (pc := 47) (ls2 := [(1, .int (zi z6)), (4, .int (zi z7)), (0, .ref a0), (2, .int (zi z5)), (3, .int (zi z6))]) X d_Mind_leastOrder_47 rfl (Nat.le_of_ble_eq_true rfl) rfl ?_
            refine x_iload (pc := 48) X d_Mind_leastOrder_48 1 rfl ?_
            refine x_istore_n (pc := 50) (ls2 := [(2, .int (zi z7)), (1, .int (zi z6)), (4, .int (zi z7)), (0, .ref a0), (3, .int (zi z6))]) X d_Mind_leastOrder_50 rfl (Nat.le_of_ble_eq_true rfl) rfl ?_
            refine x_iinc (pc := 51) (ls2 := [(3, .int (zi (z6 + 1))), (2, .int (zi z7)), (1, .int (zi z6)), (4, .int (zi z7)), (0, .ref a0)]) X d_Mind_leastOrder_51 4 (Nat.le_of_ble_eq_true rfl) rfl rfl ?_
            refine x_goto (pc := 54) (tgt := 6) X d_Mind_leastOrder_54 rfl ?_
            refine x_ls (ls2 := [(0, .ref a0), (1, .int (zi z6)), (2, .int (zi z7)), (3, .int (zi (z6 + 1)))]) [4, 2, 1, 0] rfl ?_
            exact ih z6 z7 (z6 + 1) now nbt nki npl nva nwr c8 c9 c10 c11 c12 c13 c14 c15 c16 o h hR
          · skip
            refine x_iload (pc := 40) X d_Mind_leastOrder_40 0 rfl ?_
            refine x_iload_n (pc := 42) X d_Mind_leastOrder_42 3 rfl rfl ?_
            refine x_icmpge (pc := 43) (tgt := 51) X d_Mind_leastOrder_43 rfl h (fun h => ?_) (fun h => ?_)
            · skip
              refine x_iinc (pc := 51) (ls2 := [(3, .int (zi (z6 + 1))), (4, .int (zi z7)), (0, .ref a0), (1, .int (zi z4)), (2, .int (zi z5))]) X d_Mind_leastOrder_51 4 (Nat.le_of_ble_eq_true rfl) rfl rfl ?_
              refine x_goto (pc := 54) (tgt := 6) X d_Mind_leastOrder_54 rfl ?_
              refine x_ls (ls2 := [(0, .ref a0), (1, .int (zi z4)), (2, .int (zi z5)), (3, .int (zi (z6 + 1)))]) [2, 3, 4, 0] rfl ?_
              exact ih z4 z5 (z6 + 1) now nbt nki npl nva nwr c8 c9 c10 c11 c12 c13 c14 c15 c16 o h hR
            · skip
              refine x_iload_n (pc := 46) X d_Mind_leastOrder_46 4 rfl rfl ?_
              refine x_istore_n (pc := 47) (ls2 := [(1, .int (zi z6)), (4, .int (zi z7)), (0, .ref a0), (2, .int (zi z5)), (3, .int (zi z6))]) X d_Mind_leastOrder_47 rfl (Nat.le_of_ble_eq_true rfl) rfl ?_
              refine x_iload (pc := 48) X d_Mind_leastOrder_48 1 rfl ?_
              refine x_istore_n (pc := 50) (ls2 := [(2, .int (zi z7)), (1, .int (zi z6)), (4, .int (zi z7)), (0, .ref a0), (3, .int (zi z6))]) X d_Mind_leastOrder_50 rfl (Nat.le_of_ble_eq_true rfl) rfl ?_
              refine x_iinc (pc := 51) (ls2 := [(3, .int (zi (z6 + 1))), (2, .int (zi z7)), (1, .int (zi z6)), (4, .int (zi z7)), (0, .ref a0)]) X d_Mind_leastOrder_51 4 (Nat.le_of_ble_eq_true rfl) rfl rfl ?_
              refine x_goto (pc := 54) (tgt := 6) X d_Mind_leastOrder_54 rfl ?_
              refine x_ls (ls2 := [(0, .ref a0), (1, .int (zi z6)), (2, .int (zi z7)), (3, .int (zi (z6 + 1)))]) [4, 2, 1, 0] rfl ?_
              exact ih z6 z7 (z6 + 1) now nbt nki npl nva nwr c8 c9 c10 c11 c12 c13 c14 c15 c16 o h hR
      clear hj17
      refine x_ifeq (pc := 17) (tgt := 28) X d_Mind_leastOrder_17 rfl h (fun h => ?_) (fun h => ?_)
      · skip
        refine x_iconst (pc := 28) X d_Mind_leastOrder_28  ?_
        exact J18 v1 v2 v3 (-1) tow tbt tki tpl tva twr trm trs trz h
      · skip
        refine x_aload_n (pc := 20) X d_Mind_leastOrder_20 0 rfl rfl ?_
        refine x_iload_n (pc := 21) X d_Mind_leastOrder_21 3 rfl rfl ?_
        obtain ⟨r19, h20, h⟩ := bnd_e h
        refine x_callV (pc := 22) (As := [.int (zi v3)]) (rest := []) (w2 := (w_Mind cI cB a0 a1 a2 a3 a4 a5 a6 a7 a8 a9 a10 a11 a12 a13 a14 a15 a16 a17 a18 a19 a20 seed now nbt nki npl nva nwr nrm nrs nrz r19.2.1 r19.2.2.1 r19.2.2.2.1 r19.2.2.2.2.1 r19.2.2.2.2.2.1 r19.2.2.2.2.2.2.1 r19.2.2.2.2.2.2.2.1 r19.2.2.2.2.2.2.2.2.1 r19.2.2.2.2.2.2.2.2.2)) X d_Mind_leastOrder_22 lk_Mind_47 mv_Mind_extentsByOrder (c_Mind_extentsByOrder l D cI cB a0 a1 a2 a3 a4 a5 a6 a7 a8 a9 a10 a11 a12 a13 a14 a15 a16 a17 a18 a19 a20 seed now nbt nki npl nva nwr nrm nrs nrz tow tbt tki tpl tva twr trm trs trz v3 h20) ⟨(Nat.le_of_ble_eq_true rfl), (Nat.le_of_ble_eq_true rfl), (Nat.le_of_ble_eq_true rfl), (Nat.le_of_ble_eq_true rfl)⟩ 0 rfl rfl [0, 1, 2, 3, 4, 5, 6, 7, 8, 9, 10, 11, 12, 13, 14, 15, 16, 17, 18, 19, 20] rfl rfl rfl (Up.of [] [] rfl rfl rfl 21 rfl (by decide +kernel)) rfl rfl (Nat.le_of_ble_eq_true rfl) ?_
        refine x_goto (pc := 25) (tgt := 29) X d_Mind_leastOrder_25 rfl ?_
        exact J18 v1 v2 v3 r19.1 r19.2.1 r19.2.2.1 r19.2.2.2.1 r19.2.2.2.2.1 r19.2.2.2.2.2.1 r19.2.2.2.2.2.2.1 r19.2.2.2.2.2.2.2.1 r19.2.2.2.2.2.2.2.2.1 r19.2.2.2.2.2.2.2.2.2 h
set_option maxHeartbeats 4000000 in
set_option maxRecDepth 100000 in
theorem c_Mind_leastOrder (l : Launch) (D : va_G) (cI cB : ClassId) (a0 a1 a2 a3 a4 a5 a6 a7 a8 a9 a10 a11 a12 a13 a14 a15 a16 a17 a18 a19 a20 : Nat) (seed : Int) (now : Int → Int) (nbt : Int → Int) (nki : Int → Int) (npl : Int → Int) (nva : Int → Int) (nwr : Int → Int) (nrm : Int) (nrs : Int → Int) (nrz : Int → Int) (tow : Int → Int) (tbt : Int → Int) (tki : Int → Int) (tpl : Int → Int) (tva : Int → Int) (twr : Int → Int) (trm : Int) (trs : Int → Int) (trz : Int → Int)  {o : Int × (Int → Int) × (Int → Int) × (Int → Int) × (Int → Int) × (Int → Int) × (Int → Int) × Int × (Int → Int) × (Int → Int)} (h : m_Mind_leastOrder now nbt nki npl nva nwr tow tbt tki tpl tva twr trm trs trz = some o) : Ct l D cI cB y_Mind_leastOrder b_Mind_leastOrder 5 (some .int) { frames := 5, cells := 0, slots := 0, locals := 125 } [.ref a0] (w_Mind cI cB a0 a1 a2 a3 a4 a5 a6 a7 a8 a9 a10 a11 a12 a13 a14 a15 a16 a17 a18 a19 a20 seed now nbt nki npl nva nwr nrm nrs nrz tow tbt tki tpl tva twr trm trs trz) (w_Mind cI cB a0 a1 a2 a3 a4 a5 a6 a7 a8 a9 a10 a11 a12 a13 a14 a15 a16 a17 a18 a19 a20 seed now nbt nki npl nva nwr nrm nrs nrz o.2.1 o.2.2.1 o.2.2.2.1 o.2.2.2.2.1 o.2.2.2.2.2.1 o.2.2.2.2.2.2.1 o.2.2.2.2.2.2.2.1 o.2.2.2.2.2.2.2.2.1 o.2.2.2.2.2.2.2.2.2) (some (.int (zi o.1))) := by
  refine Ct.start (by decide) (Nat.le_of_ble_eq_true rfl) (fun G X hR => ?_)
  refine x_ls (ls2 := [(0, .ref a0)]) [0] rfl ?_
  unfold m_Mind_leastOrder at h
  refine x_iconst (pc := 0) X d_Mind_leastOrder_0  ?_
  refine x_istore_n (pc := 1) (ls2 := [(1, .int (zi (-1))), (0, .ref a0)]) X d_Mind_leastOrder_1 rfl (Nat.le_of_ble_eq_true rfl) rfl ?_
  refine x_iconst (pc := 2) X d_Mind_leastOrder_2  ?_
  refine x_istore_n (pc := 3) (ls2 := [(2, .int (zi 0)), (1, .int (zi (-1))), (0, .ref a0)]) X d_Mind_leastOrder_3 rfl (Nat.le_of_ble_eq_true rfl) rfl ?_
  refine x_iconst (pc := 4) X d_Mind_leastOrder_4  ?_
  refine x_istore_n (pc := 5) (ls2 := [(3, .int (zi 0)), (2, .int (zi 0)), (1, .int (zi (-1))), (0, .ref a0)]) X d_Mind_leastOrder_5 rfl (Nat.le_of_ble_eq_true rfl) rfl ?_
  refine x_ls (ls2 := [(0, .ref a0), (1, .int (zi (-1))), (2, .int (zi 0)), (3, .int (zi 0))]) [3, 2, 1, 0] rfl ?_
  exact l_Mind_leastOrder_6 X 5000 (-1) 0 0 now nbt nki npl nva nwr tow tbt tki tpl tva twr trm trs trz o h hR
theorem d_Mind_stepsOf_0 : decode b_Mind_stepsOf 0 = .ok (.aload_n 0, 1) := by decide +kernel
theorem d_Mind_stepsOf_1 : decode b_Mind_stepsOf 1 = .ok (.getfield 15, 3) := by decide +kernel
theorem d_Mind_stepsOf_4 : decode b_Mind_stepsOf 4 = .ok (.aload_n 0, 1) := by decide +kernel
theorem d_Mind_stepsOf_5 : decode b_Mind_stepsOf 5 = .ok (.getfield 9, 3) := by decide +kernel
theorem d_Mind_stepsOf_8 : decode b_Mind_stepsOf 8 = .ok (.invokevirtual 22, 3) := by decide +kernel
theorem d_Mind_stepsOf_11 : decode b_Mind_stepsOf 11 = .ok (.aload_n 0, 1) := by decide +kernel
theorem d_Mind_stepsOf_12 : decode b_Mind_stepsOf 12 = .ok (.getfield 15, 3) := by decide +kernel
theorem d_Mind_stepsOf_15 : decode b_Mind_stepsOf 15 = .ok (.iload_n 1, 1) := by decide +kernel
theorem d_Mind_stepsOf_16 : decode b_Mind_stepsOf 16 = .ok (.sipush 1000, 3) := by decide +kernel
theorem d_Mind_stepsOf_19 : decode b_Mind_stepsOf 19 = .ok (.invokevirtual 32, 3) := by decide +kernel
theorem d_Mind_stepsOf_22 : decode b_Mind_stepsOf 22 = .ok (.ireturn, 1) := by decide +kernel
def m_Mind_stepsOf (x1 : Int) (now : Int → Int) (nbt : Int → Int) (nki : Int → Int) (npl : Int → Int) (nva : Int → Int) (nwr : Int → Int) (tow : Int → Int) (tbt : Int → Int) (tki : Int → Int) (tpl : Int → Int) (tva : Int → Int) (twr : Int → Int) (trm : Int) (trs : Int → Int) (trz : Int → Int) : Option (Int × (Int → Int) × (Int → Int) × (Int → Int) × (Int → Int) × (Int → Int) × (Int → Int) × Int × (Int → Int) × (Int → Int)) :=
  bnd (m_Disk_copyFrom tow tbt tki tpl tva twr now nbt nki npl nva nwr) (fun r1 => bnd (m_Disk_flushUpTo x1 1000 r1.1 r1.2.1 r1.2.2.1 r1.2.2.2.1 r1.2.2.2.2.1 r1.2.2.2.2.2 trm trs trz) (fun r3 => some (r3.1, r3.2.1, r3.2.2.1, r1.2.2.1, r3.2.2.2.1, r3.2.2.2.2.1, r3.2.2.2.2.2.1, r3.2.2.2.2.2.2.1, r3.2.2.2.2.2.2.2.1, r3.2.2.2.2.2.2.2.2)))
set_option maxHeartbeats 4000000 in
set_option maxRecDepth 100000 in
theorem c_Mind_stepsOf (l : Launch) (D : va_G) (cI cB : ClassId) (a0 a1 a2 a3 a4 a5 a6 a7 a8 a9 a10 a11 a12 a13 a14 a15 a16 a17 a18 a19 a20 : Nat) (seed : Int) (now : Int → Int) (nbt : Int → Int) (nki : Int → Int) (npl : Int → Int) (nva : Int → Int) (nwr : Int → Int) (nrm : Int) (nrs : Int → Int) (nrz : Int → Int) (tow : Int → Int) (tbt : Int → Int) (tki : Int → Int) (tpl : Int → Int) (tva : Int → Int) (twr : Int → Int) (trm : Int) (trs : Int → Int) (trz : Int → Int) (x1 : Int) {o : Int × (Int → Int) × (Int → Int) × (Int → Int) × (Int → Int) × (Int → Int) × (Int → Int) × Int × (Int → Int) × (Int → Int)} (h : m_Mind_stepsOf x1 now nbt nki npl nva nwr tow tbt tki tpl tva twr trm trs trz = some o) : Ct l D cI cB y_Mind_stepsOf b_Mind_stepsOf 2 (some .int) { frames := 4, cells := 0, slots := 0, locals := 103 } [.ref a0, .int (zi x1)] (w_Mind cI cB a0 a1 a2 a3 a4 a5 a6 a7 a8 a9 a10 a11 a12 a13 a14 a15 a16 a17 a18 a19 a20 seed now nbt nki npl nva nwr nrm nrs nrz tow tbt tki tpl tva twr trm trs trz) (w_Mind cI cB a0 a1 a2 a3 a4 a5 a6 a7 a8 a9 a10 a11 a12 a13 a14 a15 a16 a17 a18 a19 a20 seed now nbt nki npl nva nwr nrm nrs nrz o.2.1 o.2.2.1 o.2.2.2.1 o.2.2.2.2.1 o.2.2.2.2.2.1 o.2.2.2.2.2.2.1 o.2.2.2.2.2.2.2.1 o.2.2.2.2.2.2.2.2.1 o.2.2.2.2.2.2.2.2.2) (some (.int (zi o.1))) := by
  refine Ct.start (by decide) (Nat.le_of_ble_eq_true rfl) (fun G X hR => ?_)
  refine x_ls (ls2 := [(0, .ref a0), (1, .int (zi x1))]) [0, 1] rfl ?_
  unfold m_Mind_stepsOf at h
  refine x_aload_n (pc := 0) X d_Mind_stepsOf_0 0 rfl rfl ?_
  refine x_get (pc := 1) X d_Mind_stepsOf_1 0 rfl fl_Mind_15 rfl ?_
  refine x_aload_n (pc := 4) X d_Mind_stepsOf_4 0 rfl rfl ?_
  refine x_get (pc := 5) X d_Mind_stepsOf_5 0 rfl fl_Mind_9 rfl ?_
  obtain ⟨r1, h2, h⟩ := bnd_e h
  refine x_callV (pc := 8) (As := [.ref a1]) (rest := []) (w2 := (w_Mind cI cB a0 a1 a2 a3 a4 a5 a6 a7 a8 a9 a10 a11 a12 a13 a14 a15 a16 a17 a18 a19 a20 seed now nbt nki npl nva nwr nrm nrs nrz r1.1 r1.2.1 r1.2.2.1 r1.2.2.2.1 r1.2.2.2.2.1 r1.2.2.2.2.2 trm trs trz)) X d_Mind_stepsOf_8 lk_Mind_22 mv_Disk_copyFrom (c_Disk_copyFrom l D cI cB a11 a12 a13 a14 a15 a16 a17 a18 a19 a20 a1 a2 a3 a4 a5 a6 a7 a8 a9 a10 tow tbt tki tpl tva twr trm trs trz now nbt nki npl nva nwr nrm nrs nrz h2) ⟨(Nat.le_of_ble_eq_true rfl), (Nat.le_of_ble_eq_true rfl), (Nat.le_of_ble_eq_true rfl), (Nat.le_of_ble_eq_true rfl)⟩ 11 rfl rfl [11, 12, 13, 14, 15, 16, 17, 18, 19, 20, 1, 2, 3, 4, 5, 6, 7, 8, 9, 10] rfl rfl rfl (Up.of [0] [(a0, .inr (1, [.ref a1, .ref a11, .int (zi seed)]))] rfl rfl rfl 21 rfl (by decide +kernel)) rfl rfl (Nat.le_of_ble_eq_true rfl) ?_
  refine x_aload_n (pc := 11) X d_Mind_stepsOf_11 0 rfl rfl ?_
  refine x_get (pc := 12) X d_Mind_stepsOf_12 0 rfl fl_Mind_15 rfl ?_
  refine x_iload_n (pc := 15) X d_Mind_stepsOf_15 1 rfl rfl ?_
  refine x_sipush (pc := 16) (v := 1000) X d_Mind_stepsOf_16 (by decide +kernel) ?_
  obtain ⟨r3, h4, h⟩ := bnd_e h
  refine x_callV (pc := 19) (As := [.int (zi x1), .int (zi 1000)]) (rest := []) (w2 := (w_Mind cI cB a0 a1 a2 a3 a4 a5 a6 a7 a8 a9 a10 a11 a12 a13 a14 a15 a16 a17 a18 a19 a20 seed now nbt nki npl nva nwr nrm nrs nrz r3.2.1 r3.2.2.1 r1.2.2.1 r3.2.2.2.1 r3.2.2.2.2.1 r3.2.2.2.2.2.1 r3.2.2.2.2.2.2.1 r3.2.2.2.2.2.2.2.1 r3.2.2.2.2.2.2.2.2)) X d_Mind_stepsOf_19 lk_Mind_32 mv_Disk_flushUpTo (c_Disk_flushUpTo l D cI cB a11 a12 a13 a14 a15 a16 a17 a18 a19 a20 r1.1 r1.2.1 r1.2.2.1 r1.2.2.2.1 r1.2.2.2.2.1 r1.2.2.2.2.2 trm trs trz x1 1000 h4) ⟨(Nat.le_of_ble_eq_true rfl), (Nat.le_of_ble_eq_true rfl), (Nat.le_of_ble_eq_true rfl), (Nat.le_of_ble_eq_true rfl)⟩ 11 rfl rfl [11, 12, 13, 14, 15, 16, 17, 18, 19, 20] rfl rfl rfl (Up.of [0, 1, 2, 3, 4, 5, 6, 7, 8, 9, 10] [(a0, .inr (1, [.ref a1, .ref a11, .int (zi seed)])), (a1, .inr (0, [.ref a2, .ref a3, .ref a4, .ref a5, .ref a6, .ref a7, .ref a8])), (a2, zA cI 64 now), (a3, zA cI 64 nbt), (a4, zA cI 4 nki), (a5, zA cI 96 npl), (a6, zA cI 96 nva), (a7, zA cB 96 nwr), (a8, .inr (3, [.ref a9, .ref a10, .int (zi nrm)])), (a9, zA cI 32 nrs), (a10, zA cI 32 nrz)] rfl rfl rfl 21 rfl (by decide +kernel)) rfl rfl (Nat.le_of_ble_eq_true rfl) ?_
  cases h
  exact x_iret (pc := 22) X hR d_Mind_stepsOf_22
theorem d_Mind_crashBehind_0 : decode b_Mind_crashBehind 0 = .ok (.aload_n 0, 1) := by decide +kernel
theorem d_Mind_crashBehind_1 : decode b_Mind_crashBehind 1 = .ok (.getfield 15, 3) := by decide +kernel
theorem d_Mind_crashBehind_4 : decode b_Mind_crashBehind 4 = .ok (.aload_n 0, 1) := by decide +kernel
theorem d_Mind_crashBehind_5 : decode b_Mind_crashBehind 5 = .ok (.getfield 9, 3) := by decide +kernel
theorem d_Mind_crashBehind_8 : decode b_Mind_crashBehind 8 = .ok (.invokevirtual 22, 3) := by decide +kernel
theorem d_Mind_crashBehind_11 : decode b_Mind_crashBehind 11 = .ok (.aload_n 0, 1) := by decide +kernel
theorem d_Mind_crashBehind_12 : decode b_Mind_crashBehind 12 = .ok (.getfield 15, 3) := by decide +kernel
theorem d_Mind_crashBehind_15 : decode b_Mind_crashBehind 15 = .ok (.iload_n 1, 1) := by decide +kernel
theorem d_Mind_crashBehind_16 : decode b_Mind_crashBehind 16 = .ok (.iload_n 2, 1) := by decide +kernel
theorem d_Mind_crashBehind_17 : decode b_Mind_crashBehind 17 = .ok (.invokevirtual 32, 3) := by decide +kernel
theorem d_Mind_crashBehind_20 : decode b_Mind_crashBehind 20 = .ok (.pop, 1) := by decide +kernel
theorem d_Mind_crashBehind_21 : decode b_Mind_crashBehind 21 = .ok (.aload_n 0, 1) := by decide +kernel
theorem d_Mind_crashBehind_22 : decode b_Mind_crashBehind 22 = .ok (.getfield 15, 3) := by decide +kernel
theorem d_Mind_crashBehind_25 : decode b_Mind_crashBehind 25 = .ok (.invokevirtual 57, 3) := by decide +kernel
theorem d_Mind_crashBehind_28 : decode b_Mind_crashBehind 28 = .ok (.pop, 1) := by decide +kernel
theorem d_Mind_crashBehind_29 : decode b_Mind_crashBehind 29 = .ok (.return_, 1) := by decide +kernel
def m_Mind_crashBehind (x1 : Int) (x2 : Int) (now : Int → Int) (nbt : Int → Int) (nki : Int → Int) (npl : Int → Int) (nva : Int → Int) (nwr : Int → Int) (tow : Int → Int) (tbt : Int → Int) (tki : Int → Int) (tpl : Int → Int) (tva : Int → Int) (twr : Int → Int) (trm : Int) (trs : Int → Int) (trz : Int → Int) : Option ((Int → Int) × (Int → Int) × (Int → Int) × (Int → Int) × (Int → Int) × (Int → Int) × Int × (Int → Int) × (Int → Int)) :=
  bnd (m_Disk_copyFrom tow tbt tki tpl tva twr now nbt nki npl nva nwr) (fun r1 => bnd (m_Disk_flushUpTo x1 x2 r1.1 r1.2.1 r1.2.2.1 r1.2.2.2.1 r1.2.2.2.2.1 r1.2.2.2.2.2 trm trs trz) (fun r3 => bnd (m_Disk_dropWaiting r3.2.2.2.2.1) (fun r5 => some (r3.2.1, r3.2.2.1, r1.2.2.1, r3.2.2.2.1, r5.2, r3.2.2.2.2.2.1, r3.2.2.2.2.2.2.1, r3.2.2.2.2.2.2.2.1, r3.2.2.2.2.2.2.2.2))))
set_option maxHeartbeats 4000000 in
set_option maxRecDepth 100000 in
theorem c_Mind_crashBehind (l : Launch) (D : va_G) (cI cB : ClassId) (a0 a1 a2 a3 a4 a5 a6 a7 a8 a9 a10 a11 a12 a13 a14 a15 a16 a17 a18 a19 a20 : Nat) (seed : Int) (now : Int → Int) (nbt : Int → Int) (nki : Int → Int) (npl : Int → Int) (nva : Int → Int) (nwr : Int → Int) (nrm : Int) (nrs : Int → Int) (nrz : Int → Int) (tow : Int → Int) (tbt : Int → Int) (tki : Int → Int) (tpl : Int → Int) (tva : Int → Int) (twr : Int → Int) (trm : Int) (trs : Int → Int) (trz : Int → Int) (x1 : Int) (x2 : Int) {o : (Int → Int) × (Int → Int) × (Int → Int) × (Int → Int) × (Int → Int) × (Int → Int) × Int × (Int → Int) × (Int → Int)} (h : m_Mind_crashBehind x1 x2 now nbt nki npl nva nwr tow tbt tki tpl tva twr trm trs trz = some o) : Ct l D cI cB y_Mind_crashBehind b_Mind_crashBehind 3 none { frames := 4, cells := 0, slots := 0, locals := 103 } [.ref a0, .int (zi x1), .int (zi x2)] (w_Mind cI cB a0 a1 a2 a3 a4 a5 a6 a7 a8 a9 a10 a11 a12 a13 a14 a15 a16 a17 a18 a19 a20 seed now nbt nki npl nva nwr nrm nrs nrz tow tbt tki tpl tva twr trm trs trz) (w_Mind cI cB a0 a1 a2 a3 a4 a5 a6 a7 a8 a9 a10 a11 a12 a13 a14 a15 a16 a17 a18 a19 a20 seed now nbt nki npl nva nwr nrm nrs nrz o.1 o.2.1 o.2.2.1 o.2.2.2.1 o.2.2.2.2.1 o.2.2.2.2.2.1 o.2.2.2.2.2.2.1 o.2.2.2.2.2.2.2.1 o.2.2.2.2.2.2.2.2) none := by
  refine Ct.start (by decide) (Nat.le_of_ble_eq_true rfl) (fun G X hR => ?_)
  refine x_ls (ls2 := [(0, .ref a0), (1, .int (zi x1)), (2, .int (zi x2))]) [0, 1, 2] rfl ?_
  unfold m_Mind_crashBehind at h
  refine x_aload_n (pc := 0) X d_Mind_crashBehind_0 0 rfl rfl ?_
  refine x_get (pc := 1) X d_Mind_crashBehind_1 0 rfl fl_Mind_15 rfl ?_
  refine x_aload_n (pc := 4) X d_Mind_crashBehind_4 0 rfl rfl ?_
  refine x_get (pc := 5) X d_Mind_crashBehind_5 0 rfl fl_Mind_9 rfl ?_
  obtain ⟨r1, h2, h⟩ := bnd_e h
  refine x_callV (pc := 8) (As := [.ref a1]) (rest := []) (w2 := (w_Mind cI cB a0 a1 a2 a3 a4 a5 a6 a7 a8 a9 a10 a11 a12 a13 a14 a15 a16 a17 a18 a19 a20 seed now nbt nki npl nva nwr nrm nrs nrz r1.1 r1.2.1 r1.2.2.1 r1.2.2.2.1 r1.2.2.2.2.1 r1.2.2.2.2.2 trm trs trz)) X d_Mind_crashBehind_8 lk_Mind_22 mv_Disk_copyFrom (c_Disk_copyFrom l D cI cB a11 a12 a13 a14 a15 a16 a17 a18 a19 a20 a1 a2 a3 a4 a5 a6 a7 a8 a9 a10 tow tbt tki tpl tva twr trm trs trz now nbt nki npl nva nwr nrm nrs nrz h2) ⟨(Nat.le_of_ble_eq_true rfl), (Nat.le_of_ble_eq_true rfl), (Nat.le_of_ble_eq_true rfl), (Nat.le_of_ble_eq_true rfl)⟩ 11 rfl rfl [11, 12, 13, 14, 15, 16, 17, 18, 19, 20, 1, 2, 3, 4, 5, 6, 7, 8, 9, 10] rfl rfl rfl (Up.of [0] [(a0, .inr (1, [.ref a1, .ref a11, .int (zi seed)]))] rfl rfl rfl 21 rfl (by decide +kernel)) rfl rfl (Nat.le_of_ble_eq_true rfl) ?_
  refine x_aload_n (pc := 11) X d_Mind_crashBehind_11 0 rfl rfl ?_
  refine x_get (pc := 12) X d_Mind_crashBehind_12 0 rfl fl_Mind_15 rfl ?_
  refine x_iload_n (pc := 15) X d_Mind_crashBehind_15 1 rfl rfl ?_
  refine x_iload_n (pc := 16) X d_Mind_crashBehind_16 2 rfl rfl ?_
  obtain ⟨r3, h4, h⟩ := bnd_e h
  refine x_callV (pc := 17) (As := [.int (zi x1), .int (zi x2)]) (rest := []) (w2 := (w_Mind cI cB a0 a1 a2 a3 a4 a5 a6 a7 a8 a9 a10 a11 a12 a13 a14 a15 a16 a17 a18 a19 a20 seed now nbt nki npl nva nwr nrm nrs nrz r3.2.1 r3.2.2.1 r1.2.2.1 r3.2.2.2.1 r3.2.2.2.2.1 r3.2.2.2.2.2.1 r3.2.2.2.2.2.2.1 r3.2.2.2.2.2.2.2.1 r3.2.2.2.2.2.2.2.2)) X d_Mind_crashBehind_17 lk_Mind_32 mv_Disk_flushUpTo (c_Disk_flushUpTo l D cI cB a11 a12 a13 a14 a15 a16 a17 a18 a19 a20 r1.1 r1.2.1 r1.2.2.1 r1.2.2.2.1 r1.2.2.2.2.1 r1.2.2.2.2.2 trm trs trz x1 x2 h4) ⟨(Nat.le_of_ble_eq_true rfl), (Nat.le_of_ble_eq_true rfl), (Nat.le_of_ble_eq_true rfl), (Nat.le_of_ble_eq_true rfl)⟩ 11 rfl rfl [11, 12, 13, 14, 15, 16, 17, 18, 19, 20] rfl rfl rfl (Up.of [0, 1, 2, 3, 4, 5, 6, 7, 8, 9, 10] [(a0, .inr (1, [.ref a1, .ref a11, .int (zi seed)])), (a1, .inr (0, [.ref a2, .ref a3, .ref a4, .ref a5, .ref a6, .ref a7, .ref a8])), (a2, zA cI 64 now), (a3, zA cI 64 nbt), (a4, zA cI 4 nki), (a5, zA cI 96 npl), (a6, zA cI 96 nva), (a7, zA cB 96 nwr), (a8, .inr (3, [.ref a9, .ref a10, .int (zi nrm)])), (a9, zA cI 32 nrs), (a10, zA cI 32 nrz)] rfl rfl rfl 21 rfl (by decide +kernel)) rfl rfl (Nat.le_of_ble_eq_true rfl) ?_
  refine x_pop (pc := 20) X d_Mind_crashBehind_20 rfl ?_
  refine x_aload_n (pc := 21) X d_Mind_crashBehind_21 0 rfl rfl ?_
  refine x_get (pc := 22) X d_Mind_crashBehind_22 0 rfl fl_Mind_15 rfl ?_
  obtain ⟨r5, h6, h⟩ := bnd_e h
  refine x_callV (pc := 25) (As := []) (rest := []) (w2 := (w_Mind cI cB a0 a1 a2 a3 a4 a5 a6 a7 a8 a9 a10 a11 a12 a13 a14 a15 a16 a17 a18 a19 a20 seed now nbt nki npl nva nwr nrm nrs nrz r3.2.1 r3.2.2.1 r1.2.2.1 r3.2.2.2.1 r5.2 r3.2.2.2.2.2.1 r3.2.2.2.2.2.2.1 r3.2.2.2.2.2.2.2.1 r3.2.2.2.2.2.2.2.2)) X d_Mind_crashBehind_25 lk_Mind_57 mv_Disk_dropWaiting (c_Disk_dropWaiting l D cI cB a11 a12 a13 a14 a15 a16 a17 a18 a19 a20 r3.2.1 r3.2.2.1 r1.2.2.1 r3.2.2.2.1 r3.2.2.2.2.1 r3.2.2.2.2.2.1 r3.2.2.2.2.2.2.1 r3.2.2.2.2.2.2.2.1 r3.2.2.2.2.2.2.2.2 h6) ⟨(Nat.le_of_ble_eq_true rfl), (Nat.le_of_ble_eq_true rfl), (Nat.le_of_ble_eq_true rfl), (Nat.le_of_ble_eq_true rfl)⟩ 11 rfl rfl [11, 12, 13, 14, 15, 16, 17, 18, 19, 20] rfl rfl rfl (Up.of [0, 1, 2, 3, 4, 5, 6, 7, 8, 9, 10] [(a0, .inr (1, [.ref a1, .ref a11, .int (zi seed)])), (a1, .inr (0, [.ref a2, .ref a3, .ref a4, .ref a5, .ref a6, .ref a7, .ref a8])), (a2, zA cI 64 now), (a3, zA cI 64 nbt), (a4, zA cI 4 nki), (a5, zA cI 96 npl), (a6, zA cI 96 nva), (a7, zA cB 96 nwr), (a8, .inr (3, [.ref a9, .ref a10, .int (zi nrm)])), (a9, zA cI 32 nrs), (a10, zA cI 32 nrz)] rfl rfl rfl 21 rfl (by decide +kernel)) rfl rfl (Nat.le_of_ble_eq_true rfl) ?_
  refine x_pop (pc := 28) X d_Mind_crashBehind_28 rfl ?_
  cases h
  exact x_vret (pc := 29) X hR d_Mind_crashBehind_29
theorem d_Mind_otherwiseIn_0 : decode b_Mind_otherwiseIn 0 = .ok (.iconst 0, 1) := by decide +kernel
theorem d_Mind_otherwiseIn_1 : decode b_Mind_otherwiseIn 1 = .ok (.istore_n 2, 1) := by decide +kernel
theorem d_Mind_otherwiseIn_2 : decode b_Mind_otherwiseIn 2 = .ok (.iconst 0, 1) := by decide +kernel
theorem d_Mind_otherwiseIn_3 : decode b_Mind_otherwiseIn 3 = .ok (.istore_n 3, 1) := by decide +kernel
theorem d_Mind_otherwiseIn_4 : decode b_Mind_otherwiseIn 4 = .ok (.iload_n 3, 1) := by decide +kernel
theorem d_Mind_otherwiseIn_5 : decode b_Mind_otherwiseIn 5 = .ok (.bipush 24, 2) := by decide +kernel
theorem d_Mind_otherwiseIn_7 : decode b_Mind_otherwiseIn 7 = .ok (.if_icmp .ge 33, 3) := by decide +kernel
theorem d_Mind_otherwiseIn_10 : decode b_Mind_otherwiseIn 10 = .ok (.aload_n 0, 1) := by decide +kernel
theorem d_Mind_otherwiseIn_11 : decode b_Mind_otherwiseIn 11 = .ok (.getfield 9, 3) := by decide +kernel
theorem d_Mind_otherwiseIn_14 : decode b_Mind_otherwiseIn 14 = .ok (.iload_n 1, 1) := by decide +kernel
theorem d_Mind_otherwiseIn_15 : decode b_Mind_otherwiseIn 15 = .ok (.iload_n 3, 1) := by decide +kernel
theorem d_Mind_otherwiseIn_16 : decode b_Mind_otherwiseIn 16 = .ok (.invokevirtual 66, 3) := by decide +kernel
theorem d_Mind_otherwiseIn_19 : decode b_Mind_otherwiseIn 19 = .ok (.aload_n 0, 1) := by decide +kernel
theorem d_Mind_otherwiseIn_20 : decode b_Mind_otherwiseIn 20 = .ok (.getfield 15, 3) := by decide +kernel
theorem d_Mind_otherwiseIn_23 : decode b_Mind_otherwiseIn 23 = .ok (.iload_n 1, 1) := by decide +kernel
theorem d_Mind_otherwiseIn_24 : decode b_Mind_otherwiseIn 24 = .ok (.iload_n 3, 1) := by decide +kernel
theorem d_Mind_otherwiseIn_25 : decode b_Mind_otherwiseIn 25 = .ok (.invokevirtual 66, 3) := by decide +kernel
theorem d_Mind_otherwiseIn_28 : decode b_Mind_otherwiseIn 28 = .ok (.if_icmp .eq 6, 3) := by decide +kernel
theorem d_Mind_otherwiseIn_31 : decode b_Mind_otherwiseIn 31 = .ok (.iinc 2 1, 3) := by decide +kernel
theorem d_Mind_otherwiseIn_34 : decode b_Mind_otherwiseIn 34 = .ok (.iinc 3 1, 3) := by decide +kernel
theorem d_Mind_otherwiseIn_37 : decode b_Mind_otherwiseIn 37 = .ok (.goto (-33), 3) := by decide +kernel
theorem d_Mind_otherwiseIn_40 : decode b_Mind_otherwiseIn 40 = .ok (.iload_n 2, 1) := by decide +kernel
theorem d_Mind_otherwiseIn_41 : decode b_Mind_otherwiseIn 41 = .ok (.ireturn, 1) := by decide +kernel
def m_Mind_otherwiseIn_4 : Nat → Int → Int → Int → (Int → Int) → (Int → Int) → (Int → Int) → (Int → Int) → (Int → Int) → (Int → Int) → (Int → Int) → (Int → Int) → Option (Int)
  | 0, _, _, _, _, _, _, _, _, _, _, _ => none
  | fuel + 1, v1, v2, v3, nbt, npl, nva, nwr, tbt, tpl, tva, twr =>
  clt v3 24 (bnd (m_Disk_readAt v1 v3 nbt npl nva nwr) (fun r1 => bnd (m_Disk_readAt v1 v3 tbt tpl tva twr) (fun r3 => ceq r1 r3 (m_Mind_otherwiseIn_4 fuel v1 v2 (v3 + 1) nbt npl nva nwr tbt tpl tva twr) (m_Mind_otherwiseIn_4 fuel v1 (v2 + 1) (v3 + 1) nbt npl nva nwr tbt tpl tva twr)))) (some (v2))
def m_Mind_otherwiseIn (x1 : Int) (nbt : Int → Int) (npl : Int → Int) (nva : Int → Int) (nwr : Int → Int) (tbt : Int → Int) (tpl : Int → Int) (tva : Int → Int) (twr : Int → Int) : Option (Int) :=
  m_Mind_otherwiseIn_4 5000 x1 0 0 nbt npl nva nwr tbt tpl tva twr
set_option maxHeartbeats 4000000 in
set_option maxRecDepth 100000 in
theorem l_Mind_otherwiseIn_4 {G : GT} {l : Launch} {D : va_G} {cI cB : ClassId} {a0 a1 a2 a3 a4 a5 a6 a7 a8 a9 a10 a11 a12 a13 a14 a15 a16 a17 a18 a19 a20 : Nat} {seed : Int} {now : Int → Int} {nki : Int → Int} {nrm : Int} {nrs : Int → Int} {nrz : Int → Int} {tow : Int → Int} {tki : Int → Int} {trm : Int} {trs : Int → Int} {trz : Int → Int} (X : Cx G l D cI cB b_Mind_otherwiseIn y_Mind_otherwiseIn.cls 4 { frames := 2, cells := 0, slots := 0, locals := 45 }) : ∀ (fuel : Nat) (v1 : Int) (v2 : Int) (v3 : Int) (nbt : Int → Int) (npl : Int → Int) (nva : Int → Int) (nwr : Int → Int) (tbt : Int → Int) (tpl : Int → Int) (tva : Int → Int) (twr : Int → Int) (o : Int), m_Mind_otherwiseIn_4 fuel v1 v2 v3 nbt npl nva nwr tbt tpl tva twr = some o → Rt G (some .int) (some (.int (zi o))) (w_Mind cI cB a0 a1 a2 a3 a4 a5 a6 a7 a8 a9 a10 a11 a12 a13 a14 a15 a16 a17 a18 a19 a20 seed now nbt nki npl nva nwr nrm nrs nrz tow tbt tki tpl tva twr trm trs trz) → Wx G 0 0 4 [(0, .ref a0), (1, .int (zi v1)), (2, .int (zi v2)), (3, .int (zi v3))] [] (w_Mind cI cB a0 a1 a2 a3 a4 a5 a6 a7 a8 a9 a10 a11 a12 a13 a14 a15 a16 a17 a18 a19 a20 seed now nbt nki npl nva nwr nrm nrs nrz tow tbt tki tpl tva twr trm trs trz) := by
  intro fuel
  induction fuel with
  | zero =>
    intro v1 v2 v3 nbt npl nva nwr tbt tpl tva twr o h
    exact absurd h (by simp [m_Mind_otherwiseIn_4])
  | succ fuel ih =>
    intro v1 v2 v3 nbt npl nva nwr tbt tpl tva twr o h hR
    rw [m_Mind_otherwiseIn_4] at h
    refine x_iload_n (pc := 4) X d_Mind_otherwiseIn_4 3 rfl rfl ?_
    refine x_bipush (pc := 5) (v := 24) X d_Mind_otherwiseIn_5 rfl ?_
    refine x_icmpge (pc := 7) (tgt := 40) X d_Mind_otherwiseIn_7 rfl h (fun h => ?_) (fun h => ?_)
    · skip
      refine x_iload_n (pc := 40) X d_Mind_otherwiseIn_40 2 rfl rfl ?_
      cases h
      exact x_iret (pc := 41) X hR d_Mind_otherwiseIn_41
    · skip
      refine x_aload_n (pc := 10) X d_Mind_otherwiseIn_10 0 rfl rfl ?_
      refine x_get (pc := 11) X d_Mind_otherwiseIn_11 0 rfl fl_Mind_9 rfl ?_
      refine x_iload_n (pc := 14) X d_Mind_otherwiseIn_14 1 rfl rfl ?_
      refine x_iload_n (pc := 15) X d_Mind_otherwiseIn_15 3 rfl rfl ?_
      obtain ⟨r1, h2, h⟩ := bnd_e h
      refine x_callV (pc := 16) (As := [.int (zi v1), .int (zi v3)]) (rest := []) (w2 := (w_Mind cI cB a0 a1 a2 a3 a4 a5 a6 a7 a8 a9 a10 a11 a12 a13 a14 a15 a16 a17 a18 a19 a20 seed now nbt nki npl nva nwr nrm nrs nrz tow tbt tki tpl tva twr trm trs trz)) X d_Mind_otherwiseIn_16 lk_Mind_66 mv_Disk_readAt (c_Disk_readAt l D cI cB a1 a2 a3 a4 a5 a6 a7 a8 a9 a10 now nbt nki npl nva nwr nrm nrs nrz v1 v3 h2) ⟨(Nat.le_of_ble_eq_true rfl), (Nat.le_of_ble_eq_true rfl), (Nat.le_of_ble_eq_true rfl), (Nat.le_of_ble_eq_true rfl)⟩ 1 rfl rfl [1, 2, 3, 4, 5, 6, 7, 8, 9, 10] rfl rfl rfl (Up.same rfl) rfl rfl (Nat.le_of_ble_eq_true rfl) ?_
      refine x_aload_n (pc := 19) X d_Mind_otherwiseIn_19 0 rfl rfl ?_
      refine x_get (pc := 20) X d_Mind_otherwiseIn_20 0 rfl fl_Mind_15 rfl ?_
      refine x_iload_n (pc := 23) X d_Mind_otherwiseIn_23 1 rfl rfl ?_
      refine x_iload_n (pc := 24) X d_Mind_otherwiseIn_24 3 rfl rfl ?_
      obtain ⟨r3, h4, h⟩ := bnd_e h
      refine x_callV (pc := 25) (As := [.int (zi v1), .int (zi v3)]) (rest := [.int (zi r1)]) (w2 := (w_Mind cI cB a0 a1 a2 a3 a4 a5 a6 a7 a8 a9 a10 a11 a12 a13 a14 a15 a16 a17 a18 a19 a20 seed now nbt nki npl nva nwr nrm nrs nrz tow tbt tki tpl tva twr trm trs trz)) X d_Mind_otherwiseIn_25 lk_Mind_66 mv_Disk_readAt (c_Disk_readAt l D cI cB a11 a12 a13 a14 a15 a16 a17 a18 a19 a20 tow tbt tki tpl tva twr trm trs trz v1 v3 h4) ⟨(Nat.le_of_ble_eq_true rfl), (Nat.le_of_ble_eq_true rfl), (Nat.le_of_ble_eq_true rfl), (Nat.le_of_ble_eq_true rfl)⟩ 11 rfl rfl [11, 12, 13, 14, 15, 16, 17, 18, 19, 20] rfl rfl rfl (Up.same rfl) rfl rfl (Nat.le_of_ble_eq_true rfl) ?_
      refine x_icmpeq (pc := 28) (tgt := 34) X d_Mind_otherwiseIn_28 rfl h (fun h => ?_) (fun h => ?_)
      · skip
        refine x_iinc (pc := 34) (ls2 := [(3, .int (zi (v3 + 1))), (0, .ref a0), (1, .int (zi v1)), (2, .int (zi v2))]) X d_Mind_otherwiseIn_34 3 (Nat.le_of_ble_eq_true rfl) rfl rfl ?_
        refine x_goto (pc := 37) (tgt := 4) X d_Mind_otherwiseIn_37 rfl ?_
        refine x_ls (ls2 := [(0, .ref a0), (1, .int (zi v1)), (2, .int (zi v2)), (3, .int (zi (v3 + 1)))]) [1, 2, 3, 0] rfl ?_
        exact ih v1 v2 (v3 + 1) nbt npl nva nwr tbt tpl tva twr o h hR
      · skip
        refine x_iinc (pc := 31) (ls2 := [(2, .int (zi (v2 + 1))), (0, .ref a0), (1, .int (zi v1)), (3, .int (zi v3))]) X d_Mind_otherwiseIn_31 2 (Nat.le_of_ble_eq_true rfl) rfl rfl ?_
        refine x_iinc (pc := 34) (ls2 := [(3, .int (zi (v3 + 1))), (2, .int (zi (v2 + 1))), (0, .ref a0), (1, .int (zi v1))]) X d_Mind_otherwiseIn_34 3 (Nat.le_of_ble_eq_true rfl) rfl rfl ?_
        refine x_goto (pc := 37) (tgt := 4) X d_Mind_otherwiseIn_37 rfl ?_
        refine x_ls (ls2 := [(0, .ref a0), (1, .int (zi v1)), (2, .int (zi (v2 + 1))), (3, .int (zi (v3 + 1)))]) [2, 3, 1, 0] rfl ?_
        exact ih v1 (v2 + 1) (v3 + 1) nbt npl nva nwr tbt tpl tva twr o h hR
set_option maxHeartbeats 4000000 in
set_option maxRecDepth 100000 in
theorem c_Mind_otherwiseIn (l : Launch) (D : va_G) (cI cB : ClassId) (a0 a1 a2 a3 a4 a5 a6 a7 a8 a9 a10 a11 a12 a13 a14 a15 a16 a17 a18 a19 a20 : Nat) (seed : Int) (now : Int → Int) (nbt : Int → Int) (nki : Int → Int) (npl : Int → Int) (nva : Int → Int) (nwr : Int → Int) (nrm : Int) (nrs : Int → Int) (nrz : Int → Int) (tow : Int → Int) (tbt : Int → Int) (tki : Int → Int) (tpl : Int → Int) (tva : Int → Int) (twr : Int → Int) (trm : Int) (trs : Int → Int) (trz : Int → Int) (x1 : Int) {o : Int} (h : m_Mind_otherwiseIn x1 nbt npl nva nwr tbt tpl tva twr = some o) : Ct l D cI cB y_Mind_otherwiseIn b_Mind_otherwiseIn 4 (some .int) { frames := 2, cells := 0, slots := 0, locals := 45 } [.ref a0, .int (zi x1)] (w_Mind cI cB a0 a1 a2 a3 a4 a5 a6 a7 a8 a9 a10 a11 a12 a13 a14 a15 a16 a17 a18 a19 a20 seed now nbt nki npl nva nwr nrm nrs nrz tow tbt tki tpl tva twr trm trs trz) (w_Mind cI cB a0 a1 a2 a3 a4 a5 a6 a7 a8 a9 a10 a11 a12 a13 a14 a15 a16 a17 a18 a19 a20 seed now nbt nki npl nva nwr nrm nrs nrz tow tbt tki tpl tva twr trm trs trz) (some (.int (zi o))) := by
  refine Ct.start (by decide) (Nat.le_of_ble_eq_true rfl) (fun G X hR => ?_)
  refine x_ls (ls2 := [(0, .ref a0), (1, .int (zi x1))]) [0, 1] rfl ?_
  unfold m_Mind_otherwiseIn at h
  refine x_iconst (pc := 0) X d_Mind_otherwiseIn_0  ?_
  refine x_istore_n (pc := 1) (ls2 := [(2, .int (zi 0)), (0, .ref a0), (1, .int (zi x1))]) X d_Mind_otherwiseIn_1 rfl (Nat.le_of_ble_eq_true rfl) rfl ?_
  refine x_iconst (pc := 2) X d_Mind_otherwiseIn_2  ?_
  refine x_istore_n (pc := 3) (ls2 := [(3, .int (zi 0)), (2, .int (zi 0)), (0, .ref a0), (1, .int (zi x1))]) X d_Mind_otherwiseIn_3 rfl (Nat.le_of_ble_eq_true rfl) rfl ?_
  refine x_ls (ls2 := [(0, .ref a0), (1, .int (zi x1)), (2, .int (zi 0)), (3, .int (zi 0))]) [2, 3, 1, 0] rfl ?_
  exact l_Mind_otherwiseIn_4 X 5000 x1 0 0 nbt npl nva nwr tbt tpl tva twr o h hR
theorem d_Mind_lossOfOwn_0 : decode b_Mind_lossOfOwn 0 = .ok (.aload_n 0, 1) := by decide +kernel
theorem d_Mind_lossOfOwn_1 : decode b_Mind_lossOfOwn 1 = .ok (.iload_n 1, 1) := by decide +kernel
theorem d_Mind_lossOfOwn_2 : decode b_Mind_lossOfOwn 2 = .ok (.iload_n 2, 1) := by decide +kernel
theorem d_Mind_lossOfOwn_3 : decode b_Mind_lossOfOwn 3 = .ok (.invokevirtual 60, 3) := by decide +kernel
theorem d_Mind_lossOfOwn_6 : decode b_Mind_lossOfOwn 6 = .ok (.aload_n 0, 1) := by decide +kernel
theorem d_Mind_lossOfOwn_7 : decode b_Mind_lossOfOwn 7 = .ok (.iload_n 1, 1) := by decide +kernel
theorem d_Mind_lossOfOwn_8 : decode b_Mind_lossOfOwn 8 = .ok (.invokevirtual 63, 3) := by decide +kernel
theorem d_Mind_lossOfOwn_11 : decode b_Mind_lossOfOwn 11 = .ok (.ireturn, 1) := by decide +kernel
def m_Mind_lossOfOwn (x1 : Int) (x2 : Int) (now : Int → Int) (nbt : Int → Int) (nki : Int → Int) (npl : Int → Int) (nva : Int → Int) (nwr : Int → Int) (tow : Int → Int) (tbt : Int → Int) (tki : Int → Int) (tpl : Int → Int) (tva : Int → Int) (twr : Int → Int) (trm : Int) (trs : Int → Int) (trz : Int → Int) : Option (Int × (Int → Int) × (Int → Int) × (Int → Int) × (Int → Int) × (Int → Int) × (Int → Int) × Int × (Int → Int) × (Int → Int)) :=
  bnd (m_Mind_crashBehind x1 x2 now nbt nki npl nva nwr tow tbt tki tpl tva twr trm trs trz) (fun r1 => bnd (m_Mind_otherwiseIn x1 nbt npl nva nwr r1.2.1 r1.2.2.2.1 r1.2.2.2.2.1 r1.2.2.2.2.2.1) (fun r3 => some (r3, r1.1, r1.2.1, r1.2.2.1, r1.2.2.2.1, r1.2.2.2.2.1, r1.2.2.2.2.2.1, r1.2.2.2.2.2.2.1, r1.2.2.2.2.2.2.2.1, r1.2.2.2.2.2.2.2.2)))
set_option maxHeartbeats 4000000 in
set_option maxRecDepth 100000 in
theorem c_Mind_lossOfOwn (l : Launch) (D : va_G) (cI cB : ClassId) (a0 a1 a2 a3 a4 a5 a6 a7 a8 a9 a10 a11 a12 a13 a14 a15 a16 a17 a18 a19 a20 : Nat) (seed : Int) (now : Int → Int) (nbt : Int → Int) (nki : Int → Int) (npl : Int → Int) (nva : Int → Int) (nwr : Int → Int) (nrm : Int) (nrs : Int → Int) (nrz : Int → Int) (tow : Int → Int) (tbt : Int → Int) (tki : Int → Int) (tpl : Int → Int) (tva : Int → Int) (twr : Int → Int) (trm : Int) (trs : Int → Int) (trz : Int → Int) (x1 : Int) (x2 : Int) {o : Int × (Int → Int) × (Int → Int) × (Int → Int) × (Int → Int) × (Int → Int) × (Int → Int) × Int × (Int → Int) × (Int → Int)} (h : m_Mind_lossOfOwn x1 x2 now nbt nki npl nva nwr tow tbt tki tpl tva twr trm trs trz = some o) : Ct l D cI cB y_Mind_lossOfOwn b_Mind_lossOfOwn 3 (some .int) { frames := 5, cells := 0, slots := 0, locals := 125 } [.ref a0, .int (zi x1), .int (zi x2)] (w_Mind cI cB a0 a1 a2 a3 a4 a5 a6 a7 a8 a9 a10 a11 a12 a13 a14 a15 a16 a17 a18 a19 a20 seed now nbt nki npl nva nwr nrm nrs nrz tow tbt tki tpl tva twr trm trs trz) (w_Mind cI cB a0 a1 a2 a3 a4 a5 a6 a7 a8 a9 a10 a11 a12 a13 a14 a15 a16 a17 a18 a19 a20 seed now nbt nki npl nva nwr nrm nrs nrz o.2.1 o.2.2.1 o.2.2.2.1 o.2.2.2.2.1 o.2.2.2.2.2.1 o.2.2.2.2.2.2.1 o.2.2.2.2.2.2.2.1 o.2.2.2.2.2.2.2.2.1 o.2.2.2.2.2.2.2.2.2) (some (.int (zi o.1))) := by
  refine Ct.start (by decide) (Nat.le_of_ble_eq_true rfl) (fun G X hR => ?_)
  refine x_ls (ls2 := [(0, .ref a0), (1, .int (zi x1)), (2, .int (zi x2))]) [0, 1, 2] rfl ?_
  unfold m_Mind_lossOfOwn at h
  refine x_aload_n (pc := 0) X d_Mind_lossOfOwn_0 0 rfl rfl ?_
  refine x_iload_n (pc := 1) X d_Mind_lossOfOwn_1 1 rfl rfl ?_
  refine x_iload_n (pc := 2) X d_Mind_lossOfOwn_2 2 rfl rfl ?_
  obtain ⟨r1, h2, h⟩ := bnd_e h
  refine x_callV (pc := 3) (As := [.int (zi x1), .int (zi x2)]) (rest := []) (w2 := (w_Mind cI cB a0 a1 a2 a3 a4 a5 a6 a7 a8 a9 a10 a11 a12 a13 a14 a15 a16 a17 a18 a19 a20 seed now nbt nki npl nva nwr nrm nrs nrz r1.1 r1.2.1 r1.2.2.1 r1.2.2.2.1 r1.2.2.2.2.1 r1.2.2.2.2.2.1 r1.2.2.2.2.2.2.1 r1.2.2.2.2.2.2.2.1 r1.2.2.2.2.2.2.2.2)) X d_Mind_lossOfOwn_3 lk_Mind_60 mv_Mind_crashBehind (c_Mind_crashBehind l D cI cB a0 a1 a2 a3 a4 a5 a6 a7 a8 a9 a10 a11 a12 a13 a14 a15 a16 a17 a18 a19 a20 seed now nbt nki npl nva nwr nrm nrs nrz tow tbt tki tpl tva twr trm trs trz x1 x2 h2) ⟨(Nat.le_of_ble_eq_true rfl), (Nat.le_of_ble_eq_true rfl), (Nat.le_of_ble_eq_true rfl), (Nat.le_of_ble_eq_true rfl)⟩ 0 rfl rfl [0, 1, 2, 3, 4, 5, 6, 7, 8, 9, 10, 11, 12, 13, 14, 15, 16, 17, 18, 19, 20] rfl rfl rfl (Up.of [] [] rfl rfl rfl 21 rfl (by decide +kernel)) rfl rfl (Nat.le_of_ble_eq_true rfl) ?_
  refine x_aload_n (pc := 6) X d_Mind_lossOfOwn_6 0 rfl rfl ?_
  refine x_iload_n (pc := 7) X d_Mind_lossOfOwn_7 1 rfl rfl ?_
  obtain ⟨r3, h4, h⟩ := bnd_e h
  refine x_callV (pc := 8) (As := [.int (zi x1)]) (rest := []) (w2 := (w_Mind cI cB a0 a1 a2 a3 a4 a5 a6 a7 a8 a9 a10 a11 a12 a13 a14 a15 a16 a17 a18 a19 a20 seed now nbt nki npl nva nwr nrm nrs nrz r1.1 r1.2.1 r1.2.2.1 r1.2.2.2.1 r1.2.2.2.2.1 r1.2.2.2.2.2.1 r1.2.2.2.2.2.2.1 r1.2.2.2.2.2.2.2.1 r1.2.2.2.2.2.2.2.2)) X d_Mind_lossOfOwn_8 lk_Mind_63 mv_Mind_otherwiseIn (c_Mind_otherwiseIn l D cI cB a0 a1 a2 a3 a4 a5 a6 a7 a8 a9 a10 a11 a12 a13 a14 a15 a16 a17 a18 a19 a20 seed now nbt nki npl nva nwr nrm nrs nrz r1.1 r1.2.1 r1.2.2.1 r1.2.2.2.1 r1.2.2.2.2.1 r1.2.2.2.2.2.1 r1.2.2.2.2.2.2.1 r1.2.2.2.2.2.2.2.1 r1.2.2.2.2.2.2.2.2 x1 h4) ⟨(Nat.le_of_ble_eq_true rfl), (Nat.le_of_ble_eq_true rfl), (Nat.le_of_ble_eq_true rfl), (Nat.le_of_ble_eq_true rfl)⟩ 0 rfl rfl [0, 1, 2, 3, 4, 5, 6, 7, 8, 9, 10, 11, 12, 13, 14, 15, 16, 17, 18, 19, 20] rfl rfl rfl (Up.same rfl) rfl rfl (Nat.le_of_ble_eq_true rfl) ?_
  cases h
  exact x_iret (pc := 11) X hR d_Mind_lossOfOwn_11
theorem d_Mind_lossOfOthers_0 : decode b_Mind_lossOfOthers 0 = .ok (.aload_n 0, 1) := by decide +kernel
theorem d_Mind_lossOfOthers_1 : decode b_Mind_lossOfOthers 1 = .ok (.iload_n 1, 1) := by decide +kernel
theorem d_Mind_lossOfOthers_2 : decode b_Mind_lossOfOthers 2 = .ok (.iload_n 2, 1) := by decide +kernel
theorem d_Mind_lossOfOthers_3 : decode b_Mind_lossOfOthers 3 = .ok (.invokevirtual 60, 3) := by decide +kernel
theorem d_Mind_lossOfOthers_6 : decode b_Mind_lossOfOthers 6 = .ok (.iconst 0, 1) := by decide +kernel
theorem d_Mind_lossOfOthers_7 : decode b_Mind_lossOfOthers 7 = .ok (.istore_n 3, 1) := by decide +kernel
theorem d_Mind_lossOfOthers_8 : decode b_Mind_lossOfOthers 8 = .ok (.iconst 0, 1) := by decide +kernel
theorem d_Mind_lossOfOthers_9 : decode b_Mind_lossOfOthers 9 = .ok (.istore 4, 2) := by decide +kernel
theorem d_Mind_lossOfOthers_11 : decode b_Mind_lossOfOthers 11 = .ok (.iload 4, 2) := by decide +kernel
theorem d_Mind_lossOfOthers_13 : decode b_Mind_lossOfOthers 13 = .ok (.iconst 4, 1) := by decide +kernel
theorem d_Mind_lossOfOthers_14 : decode b_Mind_lossOfOthers 14 = .ok (.if_icmp .ge 24, 3) := by decide +kernel
theorem d_Mind_lossOfOthers_17 : decode b_Mind_lossOfOthers 17 = .ok (.iload 4, 2) := by decide +kernel
theorem d_Mind_lossOfOthers_19 : decode b_Mind_lossOfOthers 19 = .ok (.iload_n 1, 1) := by decide +kernel
theorem d_Mind_lossOfOthers_20 : decode b_Mind_lossOfOthers 20 = .ok (.if_icmp .eq 12, 3) := by decide +kernel
theorem d_Mind_lossOfOthers_23 : decode b_Mind_lossOfOthers 23 = .ok (.iload_n 3, 1) := by decide +kernel
theorem d_Mind_lossOfOthers_24 : decode b_Mind_lossOfOthers 24 = .ok (.aload_n 0, 1) := by decide +kernel
theorem d_Mind_lossOfOthers_25 : decode b_Mind_lossOfOthers 25 = .ok (.iload 4, 2) := by decide +kernel
theorem d_Mind_lossOfOthers_27 : decode b_Mind_lossOfOthers 27 = .ok (.invokevirtual 63, 3) := by decide +kernel
theorem d_Mind_lossOfOthers_30 : decode b_Mind_lossOfOthers 30 = .ok (.iadd, 1) := by decide +kernel
theorem d_Mind_lossOfOthers_31 : decode b_Mind_lossOfOthers 31 = .ok (.istore_n 3, 1) := by decide +kernel
theorem d_Mind_lossOfOthers_32 : decode b_Mind_lossOfOthers 32 = .ok (.iinc 4 1, 3) := by decide +kernel
theorem d_Mind_lossOfOthers_35 : decode b_Mind_lossOfOthers 35 = .ok (.goto (-24), 3) := by decide +kernel
theorem d_Mind_lossOfOthers_38 : decode b_Mind_lossOfOthers 38 = .ok (.iload_n 3, 1) := by decide +kernel
theorem d_Mind_lossOfOthers_39 : decode b_Mind_lossOfOthers 39 = .ok (.ireturn, 1) := by decide +kernel
def m_Mind_lossOfOthers_11 : Nat → Int → Int → Int → (Int → Int) → (Int → Int) → (Int → Int) → (Int → Int) → (Int → Int) → (Int → Int) → (Int → Int) → (Int → Int) → (Int → Int) → (Int → Int) → (Int → Int) → (Int → Int) → Int → (Int → Int) → (Int → Int) → Option (Int × (Int → Int) × (Int → Int) × (Int → Int) × (Int → Int) × (Int → Int) × (Int → Int) × Int × (Int → Int) × (Int → Int))
  | 0, _, _, _, _, _, _, _, _, _, _, _, _, _, _, _, _, _, _ => none
  | fuel + 1, v1, v3, v4, now, nbt, nki, npl, nva, nwr, tow, tbt, tki, tpl, tva, twr, trm, trs, trz =>
  clt v4 4 (ceq v4 v1 (m_Mind_lossOfOthers_11 fuel v1 v3 (v4 + 1) now nbt nki npl nva nwr tow tbt tki tpl tva twr trm trs trz) (bnd (m_Mind_otherwiseIn v4 nbt npl nva nwr tbt tpl tva twr) (fun r3 => m_Mind_lossOfOthers_11 fuel v1 (v3 + r3) (v4 + 1) now nbt nki npl nva nwr tow tbt tki tpl tva twr trm trs trz))) (some (v3, tow, tbt, tki, tpl, tva, twr, trm, trs, trz))
def m_Mind_lossOfOthers (x1 : Int) (x2 : Int) (now : Int → Int) (nbt : Int → Int) (nki : Int → Int) (npl : Int → Int) (nva : Int → Int) (nwr : Int → Int) (tow : Int → Int) (tbt : Int → Int) (tki : Int → Int) (tpl : Int → Int) (tva : Int → Int) (twr : Int → Int) (trm : Int) (trs : Int → Int) (trz : Int → Int) : Option (Int × (Int → Int) × (Int → Int) × (Int → Int) × (Int → Int) × (Int → Int) × (Int → Int) × Int × (Int → Int) × (Int → Int)) :=
  bnd (m_Mind_crashBehind x1 x2 now nbt nki npl nva nwr tow tbt tki tpl tva twr trm trs trz) (fun r1 => m_Mind_lossOfOthers_11 5000 x1 0 0 now nbt nki npl nva nwr r1.1 r1.2.1 r1.2.2.1 r1.2.2.2.1 r1.2.2.2.2.1 r1.2.2.2.2.2.1 r1.2.2.2.2.2.2.1 r1.2.2.2.2.2.2.2.1 r1.2.2.2.2.2.2.2.2)
set_option maxHeartbeats 4000000 in
set_option maxRecDepth 100000 in
theorem l_Mind_lossOfOthers_11 {G : GT} {l : Launch} {D : va_G} {cI cB : ClassId} {a0 a1 a2 a3 a4 a5 a6 a7 a8 a9 a10 a11 a12 a13 a14 a15 a16 a17 a18 a19 a20 : Nat} {seed : Int} {nrm : Int} {nrs : Int → Int} {nrz : Int → Int} (X : Cx G l D cI cB b_Mind_lossOfOthers y_Mind_lossOfOthers.cls 5 { frames := 5, cells := 0, slots := 0, locals := 125 }) : ∀ (fuel : Nat) (v1 : Int) (v3 : Int) (v4 : Int) (now : Int → Int) (nbt : Int → Int) (nki : Int → Int) (npl : Int → Int) (nva : Int → Int) (nwr : Int → Int) (tow : Int → Int) (tbt : Int → Int) (tki : Int → Int) (tpl : Int → Int) (tva : Int → Int) (twr : Int → Int) (trm : Int) (trs : Int → Int) (trz : Int → Int) (o : Int × (Int → Int) × (Int → Int) × (Int → Int) × (Int → Int) × (Int → Int) × (Int → Int) × Int × (Int → Int) × (Int → Int)), m_Mind_lossOfOthers_11 fuel v1 v3 v4 now nbt nki npl nva nwr tow tbt tki tpl tva twr trm trs trz = some o → Rt G (some .int) (some (.int (zi o.1))) (w_Mind cI cB a0 a1 a2 a3 a4 a5 a6 a7 a8 a9 a10 a11 a12 a13 a14 a15 a16 a17 a18 a19 a20 seed now nbt nki npl nva nwr nrm nrs nrz o.2.1 o.2.2.1 o.2.2.2.1 o.2.2.2.2.1 o.2.2.2.2.2.1 o.2.2.2.2.2.2.1 o.2.2.2.2.2.2.2.1 o.2.2.2.2.2.2.2.2.1 o.2.2.2.2.2.2.2.2.2) → Wx G 0 0 11 [(0, .ref a0), (1, .int (zi v1)), (3, .int (zi v3)), (4, .int (zi v4))] [] (w_Mind cI cB a0 a1 a2 a3 a4 a5 a6 a7 a8 a9 a10 a11 a12 a13 a14 a15 a16 a17 a18 a19 a20 seed now nbt nki npl nva nwr nrm nrs nrz tow tbt tki tpl tva twr trm trs trz) := by
  intro fuel
  induction fuel with
  | zero =>
    intro v1 v3 v4 now nbt nki npl nva nwr tow tbt tki tpl tva twr trm trs trz o h
    exact absurd h (by simp [m_Mind_lossOfOthers_11])
  | succ fuel ih =>
    intro v1 v3 v4 now nbt nki npl nva nwr tow tbt tki tpl tva twr trm trs trz o h hR
    rw [m_Mind_lossOfOthers_11] at h
    refine x_iload (pc := 11) X d_Mind_lossOfOthers_11 3 rfl ?_
    refine x_iconst (pc := 13) X d_Mind_lossOfOthers_13  ?_
    refine x_icmpge (pc := 14) (tgt := 38) X d_Mind_lossOfOthers_14 rfl h (fun h => ?_) (fun h => ?_)
    · skip
      refine x_iload_n (pc := 38) X d_Mind_lossOfOthers_38 2 rfl rfl ?_
      cases h
      exact x_iret (pc := 39) X hR d_Mind_lossOfOthers_39
    · skip
      refine x_iload (pc := 17) X d_Mind_lossOfOthers_17 3 rfl ?_
      refine x_iload_n (pc := 19) X d_Mind_lossOfOthers_19 1 rfl rfl ?_
      refine x_icmpeq (pc := 20) (tgt := 32) X d_Mind_lossOfOthers_20 rfl h (fun h => ?_) (fun h => ?_)
      · skip
        refine x_iinc (pc := 32) (ls2 := [(4, .int (zi (v4 + 1))), (0, .ref a0), (1, .int (zi v1)), (3, .int (zi v3))]) X d_Mind_lossOfOthers_32 3 (Nat.le_of_ble_eq_true rfl) rfl rfl ?_
        refine x_goto (pc := 35) (tgt := 11) X d_Mind_lossOfOthers_35 rfl ?_
        refine x_ls (ls2 := [(0, .ref a0), (1, .int (zi v1)), (3, .int (zi v3)), (4, .int (zi (v4 + 1)))]) [1, 2, 3, 0] rfl ?_
        exact ih v1 v3 (v4 + 1) now nbt nki npl nva nwr tow tbt tki tpl tva twr trm trs trz o h hR
      · skip
        refine x_iload_n (pc := 23) X d_Mind_lossOfOthers_23 2 rfl rfl ?_
        refine x_aload_n (pc := 24) X d_Mind_lossOfOthers_24 0 rfl rfl ?_
        refine x_iload (pc := 25) X d_Mind_lossOfOthers_25 3 rfl ?_
        obtain ⟨r3, h4, h⟩ := bnd_e h
        refine x_callV (pc := 27) (As := [.int (zi v4)]) (rest := [.int (zi v3)]) (w2 := (w_Mind cI cB a0 a1 a2 a3 a4 a5 a6 a7 a8 a9 a10 a11 a12 a13 a14 a15 a16 a17 a18 a19 a20 seed now nbt nki npl nva nwr nrm nrs nrz tow tbt tki tpl tva twr trm trs trz)) X d_Mind_lossOfOthers_27 lk_Mind_63 mv_Mind_otherwiseIn (c_Mind_otherwiseIn l D cI cB a0 a1 a2 a3 a4 a5 a6 a7 a8 a9 a10 a11 a12 a13 a14 a15 a16 a17 a18 a19 a20 seed now nbt nki npl nva nwr nrm nrs nrz tow tbt tki tpl tva twr trm trs trz v4 h4) ⟨(Nat.le_of_ble_eq_true rfl), (Nat.le_of_ble_eq_true rfl), (Nat.le_of_ble_eq_true rfl), (Nat.le_of_ble_eq_true rfl)⟩ 0 rfl rfl [0, 1, 2, 3, 4, 5, 6, 7, 8, 9, 10, 11, 12, 13, 14, 15, 16, 17, 18, 19, 20] rfl rfl rfl (Up.same rfl) rfl rfl (Nat.le_of_ble_eq_true rfl) ?_
        refine x_iadd (pc := 30) X d_Mind_lossOfOthers_30  ?_
        refine x_istore_n (pc := 31) (ls2 := [(3, .int (zi (v3 + r3))), (0, .ref a0), (1, .int (zi v1)), (4, .int (zi v4))]) X d_Mind_lossOfOthers_31 rfl (Nat.le_of_ble_eq_true rfl) rfl ?_
        refine x_iinc (pc := 32) (ls2 := [(4, .int (zi (v4 + 1))), (3, .int (zi (v3 + r3))), (0, .ref a0), (1, .int (zi v1))]) X d_Mind_lossOfOthers_32 3 (Nat.le_of_ble_eq_true rfl) rfl rfl ?_
        refine x_goto (pc := 35) (tgt := 11) X d_Mind_lossOfOthers_35 rfl ?_
        refine x_ls (ls2 := [(0, .ref a0), (1, .int (zi v1)), (3, .int (zi (v3 + r3))), (4, .int (zi (v4 + 1)))]) [2, 3, 1, 0] rfl ?_
        exact ih v1 (v3 + r3) (v4 + 1) now nbt nki npl nva nwr tow tbt tki tpl tva twr trm trs trz o h hR
set_option maxHeartbeats 4000000 in
set_option maxRecDepth 100000 in
theorem c_Mind_lossOfOthers (l : Launch) (D : va_G) (cI cB : ClassId) (a0 a1 a2 a3 a4 a5 a6 a7 a8 a9 a10 a11 a12 a13 a14 a15 a16 a17 a18 a19 a20 : Nat) (seed : Int) (now : Int → Int) (nbt : Int → Int) (nki : Int → Int) (npl : Int → Int) (nva : Int → Int) (nwr : Int → Int) (nrm : Int) (nrs : Int → Int) (nrz : Int → Int) (tow : Int → Int) (tbt : Int → Int) (tki : Int → Int) (tpl : Int → Int) (tva : Int → Int) (twr : Int → Int) (trm : Int) (trs : Int → Int) (trz : Int → Int) (x1 : Int) (x2 : Int) {o : Int × (Int → Int) × (Int → Int) × (Int → Int) × (Int → Int) × (Int → Int) × (Int → Int) × Int × (Int → Int) × (Int → Int)} (h : m_Mind_lossOfOthers x1 x2 now nbt nki npl nva nwr tow tbt tki tpl tva twr trm trs trz = some o) : Ct l D cI cB y_Mind_lossOfOthers b_Mind_lossOfOthers 5 (some .int) { frames := 5, cells := 0, slots := 0, locals := 125 } [.ref a0, .int (zi x1), .int (zi x2)] (w_Mind cI cB a0 a1 a2 a3 a4 a5 a6 a7 a8 a9 a10 a11 a12 a13 a14 a15 a16 a17 a18 a19 a20 seed now nbt nki npl nva nwr nrm nrs nrz tow tbt tki tpl tva twr trm trs trz) (w_Mind cI cB a0 a1 a2 a3 a4 a5 a6 a7 a8 a9 a10 a11 a12 a13 a14 a15 a16 a17 a18 a19 a20 seed now nbt nki npl nva nwr nrm nrs nrz o.2.1 o.2.2.1 o.2.2.2.1 o.2.2.2.2.1 o.2.2.2.2.2.1 o.2.2.2.2.2.2.1 o.2.2.2.2.2.2.2.1 o.2.2.2.2.2.2.2.2.1 o.2.2.2.2.2.2.2.2.2) (some (.int (zi o.1))) := by
  refine Ct.start (by decide) (Nat.le_of_ble_eq_true rfl) (fun G X hR => ?_)
  refine x_ls (ls2 := [(0, .ref a0), (1, .int (zi x1)), (2, .int (zi x2))]) [0, 1, 2] rfl ?_
  unfold m_Mind_lossOfOthers at h
  refine x_aload_n (pc := 0) X d_Mind_lossOfOthers_0 0 rfl rfl ?_
  refine x_iload_n (pc := 1) X d_Mind_lossOfOthers_1 1 rfl rfl ?_
  refine x_iload_n (pc := 2) X d_Mind_lossOfOthers_2 2 rfl rfl ?_
  obtain ⟨r1, h2, h⟩ := bnd_e h
  refine x_callV (pc := 3) (As := [.int (zi x1), .int (zi x2)]) (rest := []) (w2 := (w_Mind cI cB a0 a1 a2 a3 a4 a5 a6 a7 a8 a9 a10 a11 a12 a13 a14 a15 a16 a17 a18 a19 a20 seed now nbt nki npl nva nwr nrm nrs nrz r1.1 r1.2.1 r1.2.2.1 r1.2.2.2.1 r1.2.2.2.2.1 r1.2.2.2.2.2.1 r1.2.2.2.2.2.2.1 r1.2.2.2.2.2.2.2.1 r1.2.2.2.2.2.2.2.2)) X d_Mind_lossOfOthers_3 lk_Mind_60 mv_Mind_crashBehind (c_Mind_crashBehind l D cI cB a0 a1 a2 a3 a4 a5 a6 a7 a8 a9 a10 a11 a12 a13 a14 a15 a16 a17 a18 a19 a20 seed now nbt nki npl nva nwr nrm nrs nrz tow tbt tki tpl tva twr trm trs trz x1 x2 h2) ⟨(Nat.le_of_ble_eq_true rfl), (Nat.le_of_ble_eq_true rfl), (Nat.le_of_ble_eq_true rfl), (Nat.le_of_ble_eq_true rfl)⟩ 0 rfl rfl [0, 1, 2, 3, 4, 5, 6, 7, 8, 9, 10, 11, 12, 13, 14, 15, 16, 17, 18, 19, 20] rfl rfl rfl (Up.of [] [] rfl rfl rfl 21 rfl (by decide +kernel)) rfl rfl (Nat.le_of_ble_eq_true rfl) ?_
  refine x_iconst (pc := 6) X d_Mind_lossOfOthers_6  ?_
  refine x_istore_n (pc := 7) (ls2 := [(3, .int (zi 0)), (0, .ref a0), (1, .int (zi x1)), (2, .int (zi x2))]) X d_Mind_lossOfOthers_7 rfl (Nat.le_of_ble_eq_true rfl) rfl ?_
  refine x_iconst (pc := 8) X d_Mind_lossOfOthers_8  ?_
  refine x_istore (pc := 9) (ls2 := [(4, .int (zi 0)), (3, .int (zi 0)), (0, .ref a0), (1, .int (zi x1)), (2, .int (zi x2))]) X d_Mind_lossOfOthers_9 (Nat.le_of_ble_eq_true rfl) rfl ?_
  refine x_ls (ls2 := [(0, .ref a0), (1, .int (zi x1)), (3, .int (zi 0)), (4, .int (zi 0))]) [2, 3, 1, 0] rfl ?_
  exact l_Mind_lossOfOthers_11 X 5000 x1 0 0 now nbt nki npl nva nwr r1.1 r1.2.1 r1.2.2.1 r1.2.2.2.1 r1.2.2.2.2.1 r1.2.2.2.2.2.1 r1.2.2.2.2.2.2.1 r1.2.2.2.2.2.2.2.1 r1.2.2.2.2.2.2.2.2 o h hR
theorem d_Mind_leastSafe_0 : decode b_Mind_leastSafe 0 = .ok (.aload_n 0, 1) := by decide +kernel
theorem d_Mind_leastSafe_1 : decode b_Mind_leastSafe 1 = .ok (.iload_n 1, 1) := by decide +kernel
theorem d_Mind_leastSafe_2 : decode b_Mind_leastSafe 2 = .ok (.invokevirtual 69, 3) := by decide +kernel
theorem d_Mind_leastSafe_5 : decode b_Mind_leastSafe 5 = .ok (.istore_n 2, 1) := by decide +kernel
theorem d_Mind_leastSafe_6 : decode b_Mind_leastSafe 6 = .ok (.iconst 0, 1) := by decide +kernel
theorem d_Mind_leastSafe_7 : decode b_Mind_leastSafe 7 = .ok (.istore_n 3, 1) := by decide +kernel
theorem d_Mind_leastSafe_8 : decode b_Mind_leastSafe 8 = .ok (.iload_n 3, 1) := by decide +kernel
theorem d_Mind_leastSafe_9 : decode b_Mind_leastSafe 9 = .ok (.iload_n 2, 1) := by decide +kernel
theorem d_Mind_leastSafe_10 : decode b_Mind_leastSafe 10 = .ok (.if_icmp .ge 25, 3) := by decide +kernel
theorem d_Mind_leastSafe_13 : decode b_Mind_leastSafe 13 = .ok (.aload_n 0, 1) := by decide +kernel
theorem d_Mind_leastSafe_14 : decode b_Mind_leastSafe 14 = .ok (.iload_n 1, 1) := by decide +kernel
theorem d_Mind_leastSafe_15 : decode b_Mind_leastSafe 15 = .ok (.iload_n 3, 1) := by decide +kernel
theorem d_Mind_leastSafe_16 : decode b_Mind_leastSafe 16 = .ok (.invokevirtual 60, 3) := by decide +kernel
theorem d_Mind_leastSafe_19 : decode b_Mind_leastSafe 19 = .ok (.aload_n 0, 1) := by decide +kernel
theorem d_Mind_leastSafe_20 : decode b_Mind_leastSafe 20 = .ok (.iload_n 1, 1) := by decide +kernel
theorem d_Mind_leastSafe_21 : decode b_Mind_leastSafe 21 = .ok (.invokevirtual 63, 3) := by decide +kernel
theorem d_Mind_leastSafe_24 : decode b_Mind_leastSafe 24 = .ok (.ifCond .ne 5, 3) := by decide +kernel
theorem d_Mind_leastSafe_27 : decode b_Mind_leastSafe 27 = .ok (.iload_n 3, 1) := by decide +kernel
theorem d_Mind_leastSafe_28 : decode b_Mind_leastSafe 28 = .ok (.ireturn, 1) := by decide +kernel
theorem d_Mind_leastSafe_29 : decode b_Mind_leastSafe 29 = .ok (.iinc 3 1, 3) := by decide +kernel
theorem d_Mind_leastSafe_32 : decode b_Mind_leastSafe 32 = .ok (.goto (-24), 3) := by decide +kernel
theorem d_Mind_leastSafe_35 : decode b_Mind_leastSafe 35 = .ok (.iload_n 2, 1) := by decide +kernel
theorem d_Mind_leastSafe_36 : decode b_Mind_leastSafe 36 = .ok (.ireturn, 1) := by decide +kernel
def m_Mind_leastSafe_8 : Nat → Int → Int → Int → (Int → Int) → (Int → Int) → (Int → Int) → (Int → Int) → (Int → Int) → (Int → Int) → (Int → Int) → (Int → Int) → (Int → Int) → (Int → Int) → (Int → Int) → (Int → Int) → Int → (Int → Int) → (Int → Int) → Option (Int × (Int → Int) × (Int → Int) × (Int → Int) × (Int → Int) × (Int → Int) × (Int → Int) × Int × (Int → Int) × (Int → Int))
  | 0, _, _, _, _, _, _, _, _, _, _, _, _, _, _, _, _, _, _ => none
  | fuel + 1, v1, v2, v3, now, nbt, nki, npl, nva, nwr, tow, tbt, tki, tpl, tva, twr, trm, trs, trz =>
  clt v3 v2 (bnd (m_Mind_crashBehind v1 v3 now nbt nki npl nva nwr tow tbt tki tpl tva twr trm trs trz) (fun r3 => bnd (m_Mind_otherwiseIn v1 nbt npl nva nwr r3.2.1 r3.2.2.2.1 r3.2.2.2.2.1 r3.2.2.2.2.2.1) (fun r5 => ceq r5 0 (some (v3, r3.1, r3.2.1, r3.2.2.1, r3.2.2.2.1, r3.2.2.2.2.1, r3.2.2.2.2.2.1, r3.2.2.2.2.2.2.1, r3.2.2.2.2.2.2.2.1, r3.2.2.2.2.2.2.2.2)) (m_Mind_leastSafe_8 fuel v1 v2 (v3 + 1) now nbt nki npl nva nwr r3.1 r3.2.1 r3.2.2.1 r3.2.2.2.1 r3.2.2.2.2.1 r3.2.2.2.2.2.1 r3.2.2.2.2.2.2.1 r3.2.2.2.2.2.2.2.1 r3.2.2.2.2.2.2.2.2)))) (some (v2, tow, tbt, tki, tpl, tva, twr, trm, trs, trz))
def m_Mind_leastSafe (x1 : Int) (now : Int → Int) (nbt : Int → Int) (nki : Int → Int) (npl : Int → Int) (nva : Int → Int) (nwr : Int → Int) (tow : Int → Int) (tbt : Int → Int) (tki : Int → Int) (tpl : Int → Int) (tva : Int → Int) (twr : Int → Int) (trm : Int) (trs : Int → Int) (trz : Int → Int) : Option (Int × (Int → Int) × (Int → Int) × (Int → Int) × (Int → Int) × (Int → Int) × (Int → Int) × Int × (Int → Int) × (Int → Int)) :=
  bnd (m_Mind_stepsOf x1 now nbt nki npl nva nwr tow tbt tki tpl tva twr trm trs trz) (fun r1 => m_Mind_leastSafe_8 5000 x1 r1.1 0 now nbt nki npl nva nwr r1.2.1 r1.2.2.1 r1.2.2.2.1 r1.2.2.2.2.1 r1.2.2.2.2.2.1 r1.2.2.2.2.2.2.1 r1.2.2.2.2.2.2.2.1 r1.2.2.2.2.2.2.2.2.1 r1.2.2.2.2.2.2.2.2.2)
set_option maxHeartbeats 4000000 in
set_option maxRecDepth 100000 in
theorem l_Mind_leastSafe_8 {G : GT} {l : Launch} {D : va_G} {cI cB : ClassId} {a0 a1 a2 a3 a4 a5 a6 a7 a8 a9 a10 a11 a12 a13 a14 a15 a16 a17 a18 a19 a20 : Nat} {seed : Int} {nrm : Int} {nrs : Int → Int} {nrz : Int → Int} (X : Cx G l D cI cB b_Mind_leastSafe y_Mind_leastSafe.cls 4 { frames := 5, cells := 0, slots := 0, locals := 125 }) : ∀ (fuel : Nat) (v1 : Int) (v2 : Int) (v3 : Int) (now : Int → Int) (nbt : Int → Int) (nki : Int → Int) (npl : Int → Int) (nva : Int → Int) (nwr : Int → Int) (tow : Int → Int) (tbt : Int → Int) (tki : Int → Int) (tpl : Int → Int) (tva : Int → Int) (twr : Int → Int) (trm : Int) (trs : Int → Int) (trz : Int → Int) (o : Int × (Int → Int) × (Int → Int) × (Int → Int) × (Int → Int) × (Int → Int) × (Int → Int) × Int × (Int → Int) × (Int → Int)), m_Mind_leastSafe_8 fuel v1 v2 v3 now nbt nki npl nva nwr tow tbt tki tpl tva twr trm trs trz = some o → Rt G (some .int) (some (.int (zi o.1))) (w_Mind cI cB a0 a1 a2 a3 a4 a5 a6 a7 a8 a9 a10 a11 a12 a13 a14 a15 a16 a17 a18 a19 a20 seed now nbt nki npl nva nwr nrm nrs nrz o.2.1 o.2.2.1 o.2.2.2.1 o.2.2.2.2.1 o.2.2.2.2.2.1 o.2.2.2.2.2.2.1 o.2.2.2.2.2.2.2.1 o.2.2.2.2.2.2.2.2.1 o.2.2.2.2.2.2.2.2.2) → Wx G 0 0 8 [(0, .ref a0), (1, .int (zi v1)), (2, .int (zi v2)), (3, .int (zi v3))] [] (w_Mind cI cB a0 a1 a2 a3 a4 a5 a6 a7 a8 a9 a10 a11 a12 a13 a14 a15 a16 a17 a18 a19 a20 seed now nbt nki npl nva nwr nrm nrs nrz tow tbt tki tpl tva twr trm trs trz) := by
  intro fuel
  induction fuel with
  | zero =>
    intro v1 v2 v3 now nbt nki npl nva nwr tow tbt tki tpl tva twr trm trs trz o h
    exact absurd h (by simp [m_Mind_leastSafe_8])
  | succ fuel ih =>
    intro v1 v2 v3 now nbt nki npl nva nwr tow tbt tki tpl tva twr trm trs trz o h hR
    rw [m_Mind_leastSafe_8] at h
    refine x_iload_n (pc := 8) X d_Mind_leastSafe_8 3 rfl rfl ?_
    refine x_iload_n (pc := 9) X d_Mind_leastSafe_9 2 rfl rfl ?_
    refine x_icmpge (pc := 10) (tgt := 35) X d_Mind_leastSafe_10 rfl h (fun h => ?_) (fun h => ?_)
    · skip
      refine x_iload_n (pc := 35) X d_Mind_leastSafe_35 2 rfl rfl ?_
      cases h
      exact x_iret (pc := 36) X hR d_Mind_leastSafe_36
    · skip
      refine x_aload_n (pc := 13) X d_Mind_leastSafe_13 0 rfl rfl ?_
      refine x_iload_n (pc := 14) X d_Mind_leastSafe_14 1 rfl rfl ?_
      refine x_iload_n (pc := 15) X d_Mind_leastSafe_15 3 rfl rfl ?_
      obtain ⟨r3, h4, h⟩ := bnd_e h
      refine x_callV (pc := 16) (As := [.int (zi v1), .int (zi v3)]) (rest := []) (w2 := (w_Mind cI cB a0 a1 a2 a3 a4 a5 a6 a7 a8 a9 a10 a11 a12 a13 a14 a15 a16 a17 a18 a19 a20 seed now nbt nki npl nva nwr nrm nrs nrz r3.1 r3.2.1 r3.2.2.1 r3.2.2.2.1 r3.2.2.2.2.1 r3.2.2.2.2.2.1 r3.2.2.2.2.2.2.1 r3.2.2.2.2.2.2.2.1 r3.2.2.2.2.2.2.2.2)) X d_Mind_leastSafe_16 lk_Mind_60 mv_Mind_crashBehind (c_Mind_crashBehind l D cI cB a0 a1 a2 a3 a4 a5 a6 a7 a8 a9 a10 a11 a12 a13 a14 a15 a16 a17 a18 a19 a20 seed now nbt nki npl nva nwr nrm nrs nrz tow tbt tki tpl tva twr trm trs trz v1 v3 h4) ⟨(Nat.le_of_ble_eq_true rfl), (Nat.le_of_ble_eq_true rfl), (Nat.le_of_ble_eq_true rfl), (Nat.le_of_ble_eq_true rfl)⟩ 0 rfl rfl [0, 1, 2, 3, 4, 5, 6, 7, 8, 9, 10, 11, 12, 13, 14, 15, 16, 17, 18, 19, 20] rfl rfl rfl (Up.of [] [] rfl rfl rfl 21 rfl (by decide +kernel)) rfl rfl (Nat.le_of_ble_eq_true rfl) ?_
      refine x_aload_n (pc := 19) X d_Mind_leastSafe_19 0 rfl rfl ?_
      refine x_iload_n (pc := 20) X d_Mind_leastSafe_20 1 rfl rfl ?_
      obtain ⟨r5, h6, h⟩ := bnd_e h
      refine x_callV (pc := 21) (As := [.int (zi v1)]) (rest := []) (w2 := (w_Mind cI cB a0 a1 a2 a3 a4 a5 a6 a7 a8 a9 a10 a11 a12 a13 a14 a15 a16 a17 a18 a19 a20 seed now nbt nki npl nva nwr nrm nrs nrz r3.1 r3.2.1 r3.2.2.1 r3.2.2.2.1 r3.2.2.2.2.1 r3.2.2.2.2.2.1 r3.2.2.2.2.2.2.1 r3.2.2.2.2.2.2.2.1 r3.2.2.2.2.2.2.2.2)) X d_Mind_leastSafe_21 lk_Mind_63 mv_Mind_otherwiseIn (c_Mind_otherwiseIn l D cI cB a0 a1 a2 a3 a4 a5 a6 a7 a8 a9 a10 a11 a12 a13 a14 a15 a16 a17 a18 a19 a20 seed now nbt nki npl nva nwr nrm nrs nrz r3.1 r3.2.1 r3.2.2.1 r3.2.2.2.1 r3.2.2.2.2.1 r3.2.2.2.2.2.1 r3.2.2.2.2.2.2.1 r3.2.2.2.2.2.2.2.1 r3.2.2.2.2.2.2.2.2 v1 h6) ⟨(Nat.le_of_ble_eq_true rfl), (Nat.le_of_ble_eq_true rfl), (Nat.le_of_ble_eq_true rfl), (Nat.le_of_ble_eq_true rfl)⟩ 0 rfl rfl [0, 1, 2, 3, 4, 5, 6, 7, 8, 9, 10, 11, 12, 13, 14, 15, 16, 17, 18, 19, 20] rfl rfl rfl (Up.same rfl) rfl rfl (Nat.le_of_ble_eq_true rfl) ?_
      refine x_ifne (pc := 24) (tgt := 29) X d_Mind_leastSafe_24 rfl h (fun h => ?_) (fun h => ?_)
      · skip
        refine x_iinc (pc := 29) (ls2 := [(3, .int (zi (v3 + 1))), (0, .ref a0), (1, .int (zi v1)), (2, .int (zi v2))]) X d_Mind_leastSafe_29 3 (Nat.le_of_ble_eq_true rfl) rfl rfl ?_
        refine x_goto (pc := 32) (tgt := 8) X d_Mind_leastSafe_32 rfl ?_
        refine x_ls (ls2 := [(0, .ref a0), (1, .int (zi v1)), (2, .int (zi v2)), (3, .int (zi (v3 + 1)))]) [1, 2, 3, 0] rfl ?_
        exact ih v1 v2 (v3 + 1) now nbt nki npl nva nwr r3.1 r3.2.1 r3.2.2.1 r3.2.2.2.1 r3.2.2.2.2.1 r3.2.2.2.2.2.1 r3.2.2.2.2.2.2.1 r3.2.2.2.2.2.2.2.1 r3.2.2.2.2.2.2.2.2 o h hR
      · skip
        refine x_iload_n (pc := 27) X d_Mind_leastSafe_27 3 rfl rfl ?_
        cases h
        exact x_iret (pc := 28) X hR d_Mind_leastSafe_28
set_option maxHeartbeats 4000000 in
set_option maxRecDepth 100000 in
theorem c_Mind_leastSafe (l : Launch) (D : va_G) (cI cB : ClassId) (a0 a1 a2 a3 a4 a5 a6 a7 a8 a9 a10 a11 a12 a13 a14 a15 a16 a17 a18 a19 a20 : Nat) (seed : Int) (now : Int → Int) (nbt : Int → Int) (nki : Int → Int) (npl : Int → Int) (nva : Int → Int) (nwr : Int → Int) (nrm : Int) (nrs : Int → Int) (nrz : Int → Int) (tow : Int → Int) (tbt : Int → Int) (tki : Int → Int) (tpl : Int → Int) (tva : Int → Int) (twr : Int → Int) (trm : Int) (trs : Int → Int) (trz : Int → Int) (x1 : Int) {o : Int × (Int → Int) × (Int → Int) × (Int → Int) × (Int → Int) × (Int → Int) × (Int → Int) × Int × (Int → Int) × (Int → Int)} (h : m_Mind_leastSafe x1 now nbt nki npl nva nwr tow tbt tki tpl tva twr trm trs trz = some o) : Ct l D cI cB y_Mind_leastSafe b_Mind_leastSafe 4 (some .int) { frames := 5, cells := 0, slots := 0, locals := 125 } [.ref a0, .int (zi x1)] (w_Mind cI cB a0 a1 a2 a3 a4 a5 a6 a7 a8 a9 a10 a11 a12 a13 a14 a15 a16 a17 a18 a19 a20 seed now nbt nki npl nva nwr nrm nrs nrz tow tbt tki tpl tva twr trm trs trz) (w_Mind cI cB a0 a1 a2 a3 a4 a5 a6 a7 a8 a9 a10 a11 a12 a13 a14 a15 a16 a17 a18 a19 a20 seed now nbt nki npl nva nwr nrm nrs nrz o.2.1 o.2.2.1 o.2.2.2.1 o.2.2.2.2.1 o.2.2.2.2.2.1 o.2.2.2.2.2.2.1 o.2.2.2.2.2.2.2.1 o.2.2.2.2.2.2.2.2.1 o.2.2.2.2.2.2.2.2.2) (some (.int (zi o.1))) := by
  refine Ct.start (by decide) (Nat.le_of_ble_eq_true rfl) (fun G X hR => ?_)
  refine x_ls (ls2 := [(0, .ref a0), (1, .int (zi x1))]) [0, 1] rfl ?_
  unfold m_Mind_leastSafe at h
  refine x_aload_n (pc := 0) X d_Mind_leastSafe_0 0 rfl rfl ?_
  refine x_iload_n (pc := 1) X d_Mind_leastSafe_1 1 rfl rfl ?_
  obtain ⟨r1, h2, h⟩ := bnd_e h
  refine x_callV (pc := 2) (As := [.int (zi x1)]) (rest := []) (w2 := (w_Mind cI cB a0 a1 a2 a3 a4 a5 a6 a7 a8 a9 a10 a11 a12 a13 a14 a15 a16 a17 a18 a19 a20 seed now nbt nki npl nva nwr nrm nrs nrz r1.2.1 r1.2.2.1 r1.2.2.2.1 r1.2.2.2.2.1 r1.2.2.2.2.2.1 r1.2.2.2.2.2.2.1 r1.2.2.2.2.2.2.2.1 r1.2.2.2.2.2.2.2.2.1 r1.2.2.2.2.2.2.2.2.2)) X d_Mind_leastSafe_2 lk_Mind_69 mv_Mind_stepsOf (c_Mind_stepsOf l D cI cB a0 a1 a2 a3 a4 a5 a6 a7 a8 a9 a10 a11 a12 a13 a14 a15 a16 a17 a18 a19 a20 seed now nbt nki npl nva nwr nrm nrs nrz tow tbt tki tpl tva twr trm trs trz x1 h2) ⟨(Nat.le_of_ble_eq_true rfl), (Nat.le_of_ble_eq_true rfl), (Nat.le_of_ble_eq_true rfl), (Nat.le_of_ble_eq_true rfl)⟩ 0 rfl rfl [0, 1, 2, 3, 4, 5, 6, 7, 8, 9, 10, 11, 12, 13, 14, 15, 16, 17, 18, 19, 20] rfl rfl rfl (Up.of [] [] rfl rfl rfl 21 rfl (by decide +kernel)) rfl rfl (Nat.le_of_ble_eq_true rfl) ?_
  refine x_istore_n (pc := 5) (ls2 := [(2, .int (zi r1.1)), (0, .ref a0), (1, .int (zi x1))]) X d_Mind_leastSafe_5 rfl (Nat.le_of_ble_eq_true rfl) rfl ?_
  refine x_iconst (pc := 6) X d_Mind_leastSafe_6  ?_
  refine x_istore_n (pc := 7) (ls2 := [(3, .int (zi 0)), (2, .int (zi r1.1)), (0, .ref a0), (1, .int (zi x1))]) X d_Mind_leastSafe_7 rfl (Nat.le_of_ble_eq_true rfl) rfl ?_
  refine x_ls (ls2 := [(0, .ref a0), (1, .int (zi x1)), (2, .int (zi r1.1)), (3, .int (zi 0))]) [2, 3, 1, 0] rfl ?_
  exact l_Mind_leastSafe_8 X 5000 x1 r1.1 0 now nbt nki npl nva nwr r1.2.1 r1.2.2.1 r1.2.2.2.1 r1.2.2.2.2.1 r1.2.2.2.2.2.1 r1.2.2.2.2.2.2.1 r1.2.2.2.2.2.2.2.1 r1.2.2.2.2.2.2.2.2.1 r1.2.2.2.2.2.2.2.2.2 o h hR
theorem d_Mind_extentsOfPair_0 : decode b_Mind_extentsOfPair 0 = .ok (.aload_n 0, 1) := by decide +kernel
theorem d_Mind_extentsOfPair_1 : decode b_Mind_extentsOfPair 1 = .ok (.getfield 15, 3) := by decide +kernel
theorem d_Mind_extentsOfPair_4 : decode b_Mind_extentsOfPair 4 = .ok (.aload_n 0, 1) := by decide +kernel
theorem d_Mind_extentsOfPair_5 : decode b_Mind_extentsOfPair 5 = .ok (.getfield 9, 3) := by decide +kernel
theorem d_Mind_extentsOfPair_8 : decode b_Mind_extentsOfPair 8 = .ok (.invokevirtual 22, 3) := by decide +kernel
theorem d_Mind_extentsOfPair_11 : decode b_Mind_extentsOfPair 11 = .ok (.aload_n 0, 1) := by decide +kernel
theorem d_Mind_extentsOfPair_12 : decode b_Mind_extentsOfPair 12 = .ok (.getfield 15, 3) := by decide +kernel
theorem d_Mind_extentsOfPair_15 : decode b_Mind_extentsOfPair 15 = .ok (.iload_n 1, 1) := by decide +kernel
theorem d_Mind_extentsOfPair_16 : decode b_Mind_extentsOfPair 16 = .ok (.sipush 1000, 3) := by decide +kernel
theorem d_Mind_extentsOfPair_19 : decode b_Mind_extentsOfPair 19 = .ok (.invokevirtual 32, 3) := by decide +kernel
theorem d_Mind_extentsOfPair_22 : decode b_Mind_extentsOfPair 22 = .ok (.pop, 1) := by decide +kernel
theorem d_Mind_extentsOfPair_23 : decode b_Mind_extentsOfPair 23 = .ok (.aload_n 0, 1) := by decide +kernel
theorem d_Mind_extentsOfPair_24 : decode b_Mind_extentsOfPair 24 = .ok (.getfield 15, 3) := by decide +kernel
theorem d_Mind_extentsOfPair_27 : decode b_Mind_extentsOfPair 27 = .ok (.iload_n 2, 1) := by decide +kernel
theorem d_Mind_extentsOfPair_28 : decode b_Mind_extentsOfPair 28 = .ok (.sipush 1000, 3) := by decide +kernel
theorem d_Mind_extentsOfPair_31 : decode b_Mind_extentsOfPair 31 = .ok (.invokevirtual 32, 3) := by decide +kernel
theorem d_Mind_extentsOfPair_34 : decode b_Mind_extentsOfPair 34 = .ok (.pop, 1) := by decide +kernel
theorem d_Mind_extentsOfPair_35 : decode b_Mind_extentsOfPair 35 = .ok (.aload_n 0, 1) := by decide +kernel
theorem d_Mind_extentsOfPair_36 : decode b_Mind_extentsOfPair 36 = .ok (.getfield 15, 3) := by decide +kernel
theorem d_Mind_extentsOfPair_39 : decode b_Mind_extentsOfPair 39 = .ok (.iload_n 1, 1) := by decide +kernel
theorem d_Mind_extentsOfPair_40 : decode b_Mind_extentsOfPair 40 = .ok (.invokevirtual 39, 3) := by decide +kernel
theorem d_Mind_extentsOfPair_43 : decode b_Mind_extentsOfPair 43 = .ok (.aload_n 0, 1) := by decide +kernel
theorem d_Mind_extentsOfPair_44 : decode b_Mind_extentsOfPair 44 = .ok (.getfield 15, 3) := by decide +kernel
theorem d_Mind_extentsOfPair_47 : decode b_Mind_extentsOfPair 47 = .ok (.iload_n 2, 1) := by decide +kernel
theorem d_Mind_extentsOfPair_48 : decode b_Mind_extentsOfPair 48 = .ok (.invokevirtual 39, 3) := by decide +kernel
theorem d_Mind_extentsOfPair_51 : decode b_Mind_extentsOfPair 51 = .ok (.iadd, 1) := by decide +kernel
theorem d_Mind_extentsOfPair_52 : decode b_Mind_extentsOfPair 52 = .ok (.ireturn, 1) := by decide +kernel
def m_Mind_extentsOfPair (x1 : Int) (x2 : Int) (now : Int → Int) (nbt : Int → Int) (nki : Int → Int) (npl : Int → Int) (nva : Int → Int) (nwr : Int → Int) (tow : Int → Int) (tbt : Int → Int) (tki : Int → Int) (tpl : Int → Int) (tva : Int → Int) (twr : Int → Int) (trm : Int) (trs : Int → Int) (trz : Int → Int) : Option (Int × (Int → Int) × (Int → Int) × (Int → Int) × (Int → Int) × (Int → Int) × (Int → Int) × Int × (Int → Int) × (Int → Int)) :=
  bnd (m_Disk_copyFrom tow tbt tki tpl tva twr now nbt nki npl nva nwr) (fun r1 => bnd (m_Disk_flushUpTo x1 1000 r1.1 r1.2.1 r1.2.2.1 r1.2.2.2.1 r1.2.2.2.2.1 r1.2.2.2.2.2 trm trs trz) (fun r3 => bnd (m_Disk_flushUpTo x2 1000 r3.2.1 r3.2.2.1 r1.2.2.1 r3.2.2.2.1 r3.2.2.2.2.1 r3.2.2.2.2.2.1 r3.2.2.2.2.2.2.1 r3.2.2.2.2.2.2.2.1 r3.2.2.2.2.2.2.2.2) (fun r5 => bnd (m_Disk_extentsIn x1 r5.2.2.2.1 r5.2.2.2.2.2.1) (fun r7 => bnd (m_Disk_extentsIn x2 r5.2.2.2.1 r5.2.2.2.2.2.1) (fun r9 => some ((r7 + r9), r5.2.1, r5.2.2.1, r1.2.2.1, r5.2.2.2.1, r5.2.2.2.2.1, r5.2.2.2.2.2.1, r5.2.2.2.2.2.2.1, r5.2.2.2.2.2.2.2.1, r5.2.2.2.2.2.2.2.2))))))
set_option maxHeartbeats 4000000 in
set_option maxRecDepth 100000 in
theorem c_Mind_extentsOfPair (l : Launch) (D : va_G) (cI cB : ClassId) (a0 a1 a2 a3 a4 a5 a6 a7 a8 a9 a10 a11 a12 a13 a14 a15 a16 a17 a18 a19 a20 : Nat) (seed : Int) (now : Int → Int) (nbt : Int → Int) (nki : Int → Int) (npl : Int → Int) (nva : Int → Int) (nwr : Int → Int) (nrm : Int) (nrs : Int → Int) (nrz : Int → Int) (tow : Int → Int) (tbt : Int → Int) (tki : Int → Int) (tpl : Int → Int) (tva : Int → Int) (twr : Int → Int) (trm : Int) (trs : Int → Int) (trz : Int → Int) (x1 : Int) (x2 : Int) {o : Int × (Int → Int) × (Int → Int) × (Int → Int) × (Int → Int) × (Int → Int) × (Int → Int) × Int × (Int → Int) × (Int → Int)} (h : m_Mind_extentsOfPair x1 x2 now nbt nki npl nva nwr tow tbt tki tpl tva twr trm trs trz = some o) : Ct l D cI cB y_Mind_extentsOfPair b_Mind_extentsOfPair 3 (some .int) { frames := 4, cells := 0, slots := 0, locals := 103 } [.ref a0, .int (zi x1), .int (zi x2)] (w_Mind cI cB a0 a1 a2 a3 a4 a5 a6 a7 a8 a9 a10 a11 a12 a13 a14 a15 a16 a17 a18 a19 a20 seed now nbt nki npl nva nwr nrm nrs nrz tow tbt tki tpl tva twr trm trs trz) (w_Mind cI cB a0 a1 a2 a3 a4 a5 a6 a7 a8 a9 a10 a11 a12 a13 a14 a15 a16 a17 a18 a19 a20 seed now nbt nki npl nva nwr nrm nrs nrz o.2.1 o.2.2.1 o.2.2.2.1 o.2.2.2.2.1 o.2.2.2.2.2.1 o.2.2.2.2.2.2.1 o.2.2.2.2.2.2.2.1 o.2.2.2.2.2.2.2.2.1 o.2.2.2.2.2.2.2.2.2) (some (.int (zi o.1))) := by
  refine Ct.start (by decide) (Nat.le_of_ble_eq_true rfl) (fun G X hR => ?_)
  refine x_ls (ls2 := [(0, .ref a0), (1, .int (zi x1)), (2, .int (zi x2))]) [0, 1, 2] rfl ?_
  unfold m_Mind_extentsOfPair at h
  refine x_aload_n (pc := 0) X d_Mind_extentsOfPair_0 0 rfl rfl ?_
  refine x_get (pc := 1) X d_Mind_extentsOfPair_1 0 rfl fl_Mind_15 rfl ?_
  refine x_aload_n (pc := 4) X d_Mind_extentsOfPair_4 0 rfl rfl ?_
  refine x_get (pc := 5) X d_Mind_extentsOfPair_5 0 rfl fl_Mind_9 rfl ?_
  obtain ⟨r1, h2, h⟩ := bnd_e h
  refine x_callV (pc := 8) (As := [.ref a1]) (rest := []) (w2 := (w_Mind cI cB a0 a1 a2 a3 a4 a5 a6 a7 a8 a9 a10 a11 a12 a13 a14 a15 a16 a17 a18 a19 a20 seed now nbt nki npl nva nwr nrm nrs nrz r1.1 r1.2.1 r1.2.2.1 r1.2.2.2.1 r1.2.2.2.2.1 r1.2.2.2.2.2 trm trs trz)) X d_Mind_extentsOfPair_8 lk_Mind_22 mv_Disk_copyFrom (c_Disk_copyFrom l D cI cB a11 a12 a13 a14 a15 a16 a17 a18 a19 a20 a1 a2 a3 a4 a5 a6 a7 a8 a9 a10 tow tbt tki tpl tva twr trm trs trz now nbt nki npl nva nwr nrm nrs nrz h2) ⟨(Nat.le_of_ble_eq_true rfl), (Nat.le_of_ble_eq_true rfl), (Nat.le_of_ble_eq_true rfl), (Nat.le_of_ble_eq_true rfl)⟩ 11 rfl rfl [11, 12, 13, 14, 15, 16, 17, 18, 19, 20, 1, 2, 3, 4, 5, 6, 7, 8, 9, 10] rfl rfl rfl (Up.of [0] [(a0, .inr (1, [.ref a1, .ref a11, .int (zi seed)]))] rfl rfl rfl 21 rfl (by decide +kernel)) rfl rfl (Nat.le_of_ble_eq_true rfl) ?_
  refine x_aload_n (pc := 11) X d_Mind_extentsOfPair_11 0 rfl rfl ?_
  refine x_get (pc := 12) X d_Mind_extentsOfPair_12 0 rfl fl_Mind_15 rfl ?_
  refine x_iload_n (pc := 15) X d_Mind_extentsOfPair_15 1 rfl rfl ?_
  refine x_sipush (pc := 16) (v := 1000) X d_Mind_extentsOfPair_16 (by decide +kernel) ?_
  obtain ⟨r3, h4, h⟩ := bnd_e h
  refine x_callV (pc := 19) (As := [.int (zi x1), .int (zi 1000)]) (rest := []) (w2 := (w_Mind cI cB a0 a1 a2 a3 a4 a5 a6 a7 a8 a9 a10 a11 a12 a13 a14 a15 a16 a17 a18 a19 a20 seed now nbt nki npl nva nwr nrm nrs nrz r3.2.1 r3.2.2.1 r1.2.2.1 r3.2.2.2.1 r3.2.2.2.2.1 r3.2.2.2.2.2.1 r3.2.2.2.2.2.2.1 r3.2.2.2.2.2.2.2.1 r3.2.2.2.2.2.2.2.2)) X d_Mind_extentsOfPair_19 lk_Mind_32 mv_Disk_flushUpTo (c_Disk_flushUpTo l D cI cB a11 a12 a13 a14 a15 a16 a17 a18 a19 a20 r1.1 r1.2.1 r1.2.2.1 r1.2.2.2.1 r1.2.2.2.2.1 r1.2.2.2.2.2 trm trs trz x1 1000 h4) ⟨(Nat.le_of_ble_eq_true rfl), (Nat.le_of_ble_eq_true rfl), (Nat.le_of_ble_eq_true rfl), (Nat.le_of_ble_eq_true rfl)⟩ 11 rfl rfl [11, 12, 13, 14, 15, 16, 17, 18, 19, 20] rfl rfl rfl (Up.of [0, 1, 2, 3, 4, 5, 6, 7, 8, 9, 10] [(a0, .inr (1, [.ref a1, .ref a11, .int (zi seed)])), (a1, .inr (0, [.ref a2, .ref a3, .ref a4, .ref a5, .ref a6, .ref a7, .ref a8])), (a2, zA cI 64 now), (a3, zA cI 64 nbt), (a4, zA cI 4 nki), (a5, zA cI 96 npl), (a6, zA cI 96 nva), (a7, zA cB 96 nwr), (a8, .inr (3, [.ref a9, .ref a10, .int (zi nrm)])), (a9, zA cI 32 nrs), (a10, zA cI 32 nrz)] rfl rfl rfl 21 rfl (by decide +kernel)) rfl rfl (Nat.le_of_ble_eq_true rfl) ?_
  refine x_pop (pc := 22) X d_Mind_extentsOfPair_22 rfl ?_
  refine x_aload_n (pc := 23) X d_Mind_extentsOfPair_23 0 rfl rfl ?_
  refine x_get (pc := 24) X d_Mind_extentsOfPair_24 0 rfl fl_Mind_15 rfl ?_
  refine x_iload_n (pc := 27) X d_Mind_extentsOfPair_27 2 rfl rfl ?_
  refine x_sipush (pc := 28) (v := 1000) X d_Mind_extentsOfPair_28 (by decide +kernel) ?_
  obtain ⟨r5, h6, h⟩ := bnd_e h
  refine x_callV (pc := 31) (As := [.int (zi x2), .int (zi 1000)]) (rest := []) (w2 := (w_Mind cI cB a0 a1 a2 a3 a4 a5 a6 a7 a8 a9 a10 a11 a12 a13 a14 a15 a16 a17 a18 a19 a20 seed now nbt nki npl nva nwr nrm nrs nrz r5.2.1 r5.2.2.1 r1.2.2.1 r5.2.2.2.1 r5.2.2.2.2.1 r5.2.2.2.2.2.1 r5.2.2.2.2.2.2.1 r5.2.2.2.2.2.2.2.1 r5.2.2.2.2.2.2.2.2)) X d_Mind_extentsOfPair_31 lk_Mind_32 mv_Disk_flushUpTo (c_Disk_flushUpTo l D cI cB a11 a12 a13 a14 a15 a16 a17 a18 a19 a20 r3.2.1 r3.2.2.1 r1.2.2.1 r3.2.2.2.1 r3.2.2.2.2.1 r3.2.2.2.2.2.1 r3.2.2.2.2.2.2.1 r3.2.2.2.2.2.2.2.1 r3.2.2.2.2.2.2.2.2 x2 1000 h6) ⟨(Nat.le_of_ble_eq_true rfl), (Nat.le_of_ble_eq_true rfl), (Nat.le_of_ble_eq_true rfl), (Nat.le_of_ble_eq_true rfl)⟩ 11 rfl rfl [11, 12, 13, 14, 15, 16, 17, 18, 19, 20] rfl rfl rfl (Up.of [0, 1, 2, 3, 4, 5, 6, 7, 8, 9, 10] [(a0, .inr (1, [.ref a1, .ref a11, .int (zi seed)])), (a1, .inr (0, [.ref a2, .ref a3, .ref a4, .ref a5, .ref a6, .ref a7, .ref a8])), (a2, zA cI 64 now), (a3, zA cI 64 nbt), (a4, zA cI 4 nki), (a5, zA cI 96 npl), (a6, zA cI 96 nva), (a7, zA cB 96 nwr), (a8, .inr (3, [.ref a9, .ref a10, .int (zi nrm)])), (a9, zA cI 32 nrs), (a10, zA cI 32 nrz)] rfl rfl rfl 21 rfl (by decide +kernel)) rfl rfl (Nat.le_of_ble_eq_true rfl) ?_
  refine x_pop (pc := 34) X d_Mind_extentsOfPair_34 rfl ?_
  refine x_aload_n (pc := 35) X d_Mind_extentsOfPair_35 0 rfl rfl ?_
  refine x_get (pc := 36) X d_Mind_extentsOfPair_36 0 rfl fl_Mind_15 rfl ?_
  refine x_iload_n (pc := 39) X d_Mind_extentsOfPair_39 1 rfl rfl ?_
  obtain ⟨r7, h8, h⟩ := bnd_e h
  refine x_callV (pc := 40) (As := [.int (zi x1)]) (rest := []) (w2 := (w_Mind cI cB a0 a1 a2 a3 a4 a5 a6 a7 a8 a9 a10 a11 a12 a13 a14 a15 a16 a17 a18 a19 a20 seed now nbt nki npl nva nwr nrm nrs nrz r5.2.1 r5.2.2.1 r1.2.2.1 r5.2.2.2.1 r5.2.2.2.2.1 r5.2.2.2.2.2.1 r5.2.2.2.2.2.2.1 r5.2.2.2.2.2.2.2.1 r5.2.2.2.2.2.2.2.2)) X d_Mind_extentsOfPair_40 lk_Mind_39 mv_Disk_extentsIn (c_Disk_extentsIn l D cI cB a11 a12 a13 a14 a15 a16 a17 a18 a19 a20 r5.2.1 r5.2.2.1 r1.2.2.1 r5.2.2.2.1 r5.2.2.2.2.1 r5.2.2.2.2.2.1 r5.2.2.2.2.2.2.1 r5.2.2.2.2.2.2.2.1 r5.2.2.2.2.2.2.2.2 x1 h8) ⟨(Nat.le_of_ble_eq_true rfl), (Nat.le_of_ble_eq_true rfl), (Nat.le_of_ble_eq_true rfl), (Nat.le_of_ble_eq_true rfl)⟩ 11 rfl rfl [11, 12, 13, 14, 15, 16, 17, 18, 19, 20] rfl rfl rfl (Up.same rfl) rfl rfl (Nat.le_of_ble_eq_true rfl) ?_
  refine x_aload_n (pc := 43) X d_Mind_extentsOfPair_43 0 rfl rfl ?_
  refine x_get (pc := 44) X d_Mind_extentsOfPair_44 0 rfl fl_Mind_15 rfl ?_
  refine x_iload_n (pc := 47) X d_Mind_extentsOfPair_47 2 rfl rfl ?_
  obtain ⟨r9, h10, h⟩ := bnd_e h
  refine x_callV (pc := 48) (As := [.int (zi x2)]) (rest := [.int (zi r7)]) (w2 := (w_Mind cI cB a0 a1 a2 a3 a4 a5 a6 a7 a8 a9 a10 a11 a12 a13 a14 a15 a16 a17 a18 a19 a20 seed now nbt nki npl nva nwr nrm nrs nrz r5.2.1 r5.2.2.1 r1.2.2.1 r5.2.2.2.1 r5.2.2.2.2.1 r5.2.2.2.2.2.1 r5.2.2.2.2.2.2.1 r5.2.2.2.2.2.2.2.1 r5.2.2.2.2.2.2.2.2)) X d_Mind_extentsOfPair_48 lk_Mind_39 mv_Disk_extentsIn (c_Disk_extentsIn l D cI cB a11 a12 a13 a14 a15 a16 a17 a18 a19 a20 r5.2.1 r5.2.2.1 r1.2.2.1 r5.2.2.2.1 r5.2.2.2.2.1 r5.2.2.2.2.2.1 r5.2.2.2.2.2.2.1 r5.2.2.2.2.2.2.2.1 r5.2.2.2.2.2.2.2.2 x2 h10) ⟨(Nat.le_of_ble_eq_true rfl), (Nat.le_of_ble_eq_true rfl), (Nat.le_of_ble_eq_true rfl), (Nat.le_of_ble_eq_true rfl)⟩ 11 rfl rfl [11, 12, 13, 14, 15, 16, 17, 18, 19, 20] rfl rfl rfl (Up.same rfl) rfl rfl (Nat.le_of_ble_eq_true rfl) ?_
  refine x_iadd (pc := 51) X d_Mind_extentsOfPair_51  ?_
  cases h
  exact x_iret (pc := 52) X hR d_Mind_extentsOfPair_52
theorem d_Mind_playPair_0 : decode b_Mind_playPair 0 = .ok (.aload_n 0, 1) := by decide +kernel
theorem d_Mind_playPair_1 : decode b_Mind_playPair 1 = .ok (.getfield 15, 3) := by decide +kernel
theorem d_Mind_playPair_4 : decode b_Mind_playPair 4 = .ok (.aload_n 0, 1) := by decide +kernel
theorem d_Mind_playPair_5 : decode b_Mind_playPair 5 = .ok (.getfield 9, 3) := by decide +kernel
theorem d_Mind_playPair_8 : decode b_Mind_playPair 8 = .ok (.invokevirtual 22, 3) := by decide +kernel
theorem d_Mind_playPair_11 : decode b_Mind_playPair 11 = .ok (.iload_n 3, 1) := by decide +kernel
theorem d_Mind_playPair_12 : decode b_Mind_playPair 12 = .ok (.iconst 1, 1) := by decide +kernel
theorem d_Mind_playPair_13 : decode b_Mind_playPair 13 = .ok (.if_icmp .ne 15, 3) := by decide +kernel
theorem d_Mind_playPair_16 : decode b_Mind_playPair 16 = .ok (.aload_n 0, 1) := by decide +kernel
theorem d_Mind_playPair_17 : decode b_Mind_playPair 17 = .ok (.getfield 15, 3) := by decide +kernel
theorem d_Mind_playPair_20 : decode b_Mind_playPair 20 = .ok (.iload_n 1, 1) := by decide +kernel
theorem d_Mind_playPair_21 : decode b_Mind_playPair 21 = .ok (.sipush 1000, 3) := by decide +kernel
theorem d_Mind_playPair_24 : decode b_Mind_playPair 24 = .ok (.invokevirtual 32, 3) := by decide +kernel
theorem d_Mind_playPair_27 : decode b_Mind_playPair 27 = .ok (.pop, 1) := by decide +kernel
theorem d_Mind_playPair_28 : decode b_Mind_playPair 28 = .ok (.iload 4, 2) := by decide +kernel
theorem d_Mind_playPair_30 : decode b_Mind_playPair 30 = .ok (.iconst 1, 1) := by decide +kernel
theorem d_Mind_playPair_31 : decode b_Mind_playPair 31 = .ok (.if_icmp .ne 15, 3) := by decide +kernel
theorem d_Mind_playPair_34 : decode b_Mind_playPair 34 = .ok (.aload_n 0, 1) := by decide +kernel
theorem d_Mind_playPair_35 : decode b_Mind_playPair 35 = .ok (.getfield 15, 3) := by decide +kernel
theorem d_Mind_playPair_38 : decode b_Mind_playPair 38 = .ok (.iload_n 2, 1) := by decide +kernel
theorem d_Mind_playPair_39 : decode b_Mind_playPair 39 = .ok (.sipush 1000, 3) := by decide +kernel
theorem d_Mind_playPair_42 : decode b_Mind_playPair 42 = .ok (.invokevirtual 32, 3) := by decide +kernel
theorem d_Mind_playPair_45 : decode b_Mind_playPair 45 = .ok (.pop, 1) := by decide +kernel
theorem d_Mind_playPair_46 : decode b_Mind_playPair 46 = .ok (.aload_n 0, 1) := by decide +kernel
theorem d_Mind_playPair_47 : decode b_Mind_playPair 47 = .ok (.getfield 15, 3) := by decide +kernel
theorem d_Mind_playPair_50 : decode b_Mind_playPair 50 = .ok (.iload_n 2, 1) := by decide +kernel
theorem d_Mind_playPair_51 : decode b_Mind_playPair 51 = .ok (.sipush 1000, 3) := by decide +kernel
theorem d_Mind_playPair_54 : decode b_Mind_playPair 54 = .ok (.invokevirtual 32, 3) := by decide +kernel
theorem d_Mind_playPair_57 : decode b_Mind_playPair 57 = .ok (.pop, 1) := by decide +kernel
theorem d_Mind_playPair_58 : decode b_Mind_playPair 58 = .ok (.aload_n 0, 1) := by decide +kernel
theorem d_Mind_playPair_59 : decode b_Mind_playPair 59 = .ok (.getfield 15, 3) := by decide +kernel
theorem d_Mind_playPair_62 : decode b_Mind_playPair 62 = .ok (.iload_n 1, 1) := by decide +kernel
theorem d_Mind_playPair_63 : decode b_Mind_playPair 63 = .ok (.sipush 1000, 3) := by decide +kernel
theorem d_Mind_playPair_66 : decode b_Mind_playPair 66 = .ok (.invokevirtual 32, 3) := by decide +kernel
theorem d_Mind_playPair_69 : decode b_Mind_playPair 69 = .ok (.pop, 1) := by decide +kernel
theorem d_Mind_playPair_70 : decode b_Mind_playPair 70 = .ok (.return_, 1) := by decide +kernel
def m_Mind_playPair (x1 : Int) (x2 : Int) (x3 : Int) (x4 : Int) (now : Int → Int) (nbt : Int → Int) (nki : Int → Int) (npl : Int → Int) (nva : Int → Int) (nwr : Int → Int) (tow : Int → Int) (tbt : Int → Int) (tki : Int → Int) (tpl : Int → Int) (tva : Int → Int) (twr : Int → Int) (trm : Int) (trs : Int → Int) (trz : Int → Int) : Option ((Int → Int) × (Int → Int) × (Int → Int) × (Int → Int) × (Int → Int) × (Int → Int) × Int × (Int → Int) × (Int → Int)) :=
  bnd (m_Disk_copyFrom tow tbt tki tpl tva twr now nbt nki npl nva nwr) (fun r1 => jn (fun (z4 : Int) (z5 : Int) (z6 : Int) (c7 : Int → Int) (c8 : Int → Int) (c9 : Int → Int) (c10 : Int → Int) (c11 : Int → Int) (c12 : Int → Int) (c13 : Int) (c14 : Int → Int) (c15 : Int → Int) => jn (fun (z17 : Int) (z18 : Int) (c19 : Int → Int) (c20 : Int → Int) (c21 : Int → Int) (c22 : Int → Int) (c23 : Int → Int) (c24 : Int → Int) (c25 : Int) (c26 : Int → Int) (c27 : Int → Int) => bnd (m_Disk_flushUpTo z18 1000 c19 c20 c21 c22 c23 c24 c25 c26 c27) (fun r28 => bnd (m_Disk_flushUpTo z17 1000 r28.2.1 r28.2.2.1 c21 r28.2.2.2.1 r28.2.2.2.2.1 r28.2.2.2.2.2.1 r28.2.2.2.2.2.2.1 r28.2.2.2.2.2.2.2.1 r28.2.2.2.2.2.2.2.2) (fun r30 => some (r30.2.1, r30.2.2.1, c21, r30.2.2.2.1, r30.2.2.2.2.1, r30.2.2.2.2.2.1, r30.2.2.2.2.2.2.1, r30.2.2.2.2.2.2.2.1, r30.2.2.2.2.2.2.2.2)))) (fun j16 => ceq z6 1 (bnd (m_Disk_flushUpTo z5 1000 c7 c8 c9 c10 c11 c12 c13 c14 c15) (fun r34 => j16 z4 z5 r34.2.1 r34.2.2.1 c9 r34.2.2.2.1 r34.2.2.2.2.1 r34.2.2.2.2.2.1 r34.2.2.2.2.2.2.1 r34.2.2.2.2.2.2.2.1 r34.2.2.2.2.2.2.2.2)) (j16 z4 z5 c7 c8 c9 c10 c11 c12 c13 c14 c15))) (fun j3 => ceq x3 1 (bnd (m_Disk_flushUpTo x1 1000 r1.1 r1.2.1 r1.2.2.1 r1.2.2.2.1 r1.2.2.2.2.1 r1.2.2.2.2.2 trm trs trz) (fun r38 => j3 x1 x2 x4 r38.2.1 r38.2.2.1 r1.2.2.1 r38.2.2.2.1 r38.2.2.2.2.1 r38.2.2.2.2.2.1 r38.2.2.2.2.2.2.1 r38.2.2.2.2.2.2.2.1 r38.2.2.2.2.2.2.2.2)) (j3 x1 x2 x4 r1.1 r1.2.1 r1.2.2.1 r1.2.2.2.1 r1.2.2.2.2.1 r1.2.2.2.2.2 trm trs trz)))
set_option maxHeartbeats 4000000 in
set_option maxRecDepth 100000 in
theorem c_Mind_playPair (l : Launch) (D : va_G) (cI cB : ClassId) (a0 a1 a2 a3 a4 a5 a6 a7 a8 a9 a10 a11 a12 a13 a14 a15 a16 a17 a18 a19 a20 : Nat) (seed : Int) (now : Int → Int) (nbt : Int → Int) (nki : Int → Int) (npl : Int → Int) (nva : Int → Int) (nwr : Int → Int) (nrm : Int) (nrs : Int → Int) (nrz : Int → Int) (tow : Int → Int) (tbt : Int → Int) (tki : Int → Int) (tpl : Int → Int) (tva : Int → Int) (twr : Int → Int) (trm : Int) (trs : Int → Int) (trz : Int → Int) (x1 : Int) (x2 : Int) (x3 : Int) (x4 : Int) {o : (Int → Int) × (Int → Int) × (Int → Int) × (Int → Int) × (Int → Int) × (Int → Int) × Int × (Int → Int) × (Int → Int)} (h : m_Mind_playPair x1 x2 x3 x4 now nbt nki npl nva nwr tow tbt tki tpl tva twr trm trs trz = some o) : Ct l D cI cB y_Mind_playPair b_Mind_playPair 5 none { frames := 4, cells := 0, slots := 0, locals := 103 } [.ref a0, .int (zi x1), .int (zi x2), .int (zi x3), .int (zi x4)] (w_Mind cI cB a0 a1 a2 a3 a4 a5 a6 a7 a8 a9 a10 a11 a12 a13 a14 a15 a16 a17 a18 a19 a20 seed now nbt nki npl nva nwr nrm nrs nrz tow tbt tki tpl tva twr trm trs trz) (w_Mind cI cB a0 a1 a2 a3 a4 a5 a6 a7 a8 a9 a10 a11 a12 a13 a14 a15 a16 a17 a18 a19 a20 seed now nbt nki npl nva nwr nrm nrs nrz o.1 o.2.1 o.2.2.1 o.2.2.2.1 o.2.2.2.2.1 o.2.2.2.2.2.1 o.2.2.2.2.2.2.1 o.2.2.2.2.2.2.2.1 o.2.2.2.2.2.2.2.2) none := by
  refine Ct.start (by decide) (Nat.le_of_ble_eq_true rfl) (fun G X hR => ?_)
  refine x_ls (ls2 := [(0, .ref a0), (1, .int (zi x1)), (2, .int (zi x2)), (3, .int (zi x3)), (4, .int (zi x4))]) [0, 1, 2, 3, 4] rfl ?_
  unfold m_Mind_playPair at h
  refine x_aload_n (pc := 0) X d_Mind_playPair_0 0 rfl rfl ?_
  refine x_get (pc := 1) X d_Mind_playPair_1 0 rfl fl_Mind_15 rfl ?_
  refine x_aload_n (pc := 4) X d_Mind_playPair_4 0 rfl rfl ?_
  refine x_get (pc := 5) X d_Mind_playPair_5 0 rfl fl_Mind_9 rfl ?_
  obtain ⟨r1, h2, h⟩ := bnd_e h
  refine x_callV (pc := 8) (As := [.ref a1]) (rest := []) (w2 := (w_Mind cI cB a0 a1 a2 a3 a4 a5 a6 a7 a8 a9 a10 a11 a12 a13 a14 a15 a16 a17 a18 a19 a20 seed now nbt nki npl nva nwr nrm nrs nrz r1.1 r1.2.1 r1.2.2.1 r1.2.2.2.1 r1.2.2.2.2.1 r1.2.2.2.2.2 trm trs trz)) X d_Mind_playPair_8 lk_Mind_22 mv_Disk_copyFrom (c_Disk_copyFrom l D cI cB a11 a12 a13 a14 a15 a16 a17 a18 a19 a20 a1 a2 a3 a4 a5 a6 a7 a8 a9 a10 tow tbt tki tpl tva twr trm trs trz now nbt nki npl nva nwr nrm nrs nrz h2) ⟨(Nat.le_of_ble_eq_true rfl), (Nat.le_of_ble_eq_true rfl), (Nat.le_of_ble_eq_true rfl), (Nat.le_of_ble_eq_true rfl)⟩ 11 rfl rfl [11, 12, 13, 14, 15, 16, 17, 18, 19, 20, 1, 2, 3, 4, 5, 6, 7, 8, 9, 10] rfl rfl rfl (Up.of [0] [(a0, .inr (1, [.ref a1, .ref a11, .int (zi seed)]))] rfl rfl rfl 21 rfl (by decide +kernel)) rfl rfl (Nat.le_of_ble_eq_true rfl) ?_
  refine x_iload_n (pc := 11) X d_Mind_playPair_11 3 rfl rfl ?_
  refine x_iconst (pc := 12) X d_Mind_playPair_12  ?_
  obtain ⟨j3, hj36, h⟩ := jn_e h
  have J37 : ∀ (z4 : Int) (z5 : Int) (z6 : Int) (c7 : Int → Int) (c8 : Int → Int) (c9 : Int → Int) (c10 : Int → Int) (c11 : Int → Int) (c12 : Int → Int) (c13 : Int) (c14 : Int → Int) (c15 : Int → Int), j3 z4 z5 z6 c7 c8 c9 c10 c11 c12 c13 c14 c15 = some o → Wx G 0 0 28 [(0, .ref a0), (1, .int (zi z4)), (2, .int (zi z5)), (4, .int (zi z6))] [] (w_Mind cI cB a0 a1 a2 a3 a4 a5 a6 a7 a8 a9 a10 a11 a12 a13 a14 a15 a16 a17 a18 a19 a20 seed now nbt nki npl nva nwr nrm nrs nrz c7 c8 c9 c10 c11 c12 c13 c14 c15) := by
    intro z4 z5 z6 c7 c8 c9 c10 c11 c12 c13 c14 c15 h
    rw [hj36] at h
    (try dsimp only at h)
    refine x_iload (pc := 28) X d_Mind_playPair_28 3 rfl ?_
    refine x_iconst (pc := 30) X d_Mind_playPair_30  ?_
    obtain ⟨j16, hj32, h⟩ := jn_e h
    have J33 : ∀ (z17 : Int) (z18 : Int) (c19 : Int → Int) (c20 : Int → Int) (c21 : Int → Int) (c22 : Int → Int) (c23 : Int → Int) (c24 : Int → Int) (c25 : Int) (c26 : Int → Int) (c27 : Int → Int), j16 z17 z18 c19 c20 c21 c22 c23 c24 c25 c26 c27 = some o → Wx G 0 0 46 [(0, .ref a0), (1, .int (zi z17)), (2, .int (zi z18))] [] (w_Mind cI cB a0 a1 a2 a3 a4 a5 a6 a7 a8 a9 a10 a11 a12 a13 a14 a15 a16 a17 a18 a19 a20 seed now nbt nki npl nva nwr nrm nrs nrz c19 c20 c21 c22 c23 c24 c25 c26 c27) := by
      intro z17 z18 c19 c20 c21 c22 c23 c24 c25 c26 c27 h
      rw [hj32] at h
      (try dsimp only at h)
      refine x_aload_n (pc := 46) X d_Mind_playPair_46 0 rfl rfl ?_
      refine x_get (pc := 47) X d_Mind_playPair_47 0 rfl fl_Mind_15 rfl ?_
      refine x_iload_n (pc := 50) X d_Mind_playPair_50 2 rfl rfl ?_
      refine x_sipush (pc := 51) (v := 1000) X d_Mind_playPair_51 (by decide +kernel) ?_
      obtain ⟨r28, h29, h⟩ := bnd_e h
      refine x_callV (pc := 54) (As := [.int (zi z18), .int (zi 1000)]) (rest := []) (w2 := (w_Mind cI cB a0 a1 a2 a3 a4 a5 a6 a7 a8 a9 a10 a11 a12 a13 a14 a15 a16 a17 a18 a19 a20 seed now nbt nki npl nva nwr nrm nrs nrz r28.2.1 r28.2.2.1 c21 r28.2.2.2.1 r28.2.2.2.2.1 r28.2.2.2.2.2.1 r28.2.2.2.2.2.2.1 r28.2.2.2.2.2.2.2.1 r28.2.2.2.2.2.2.2.2)) X d_Mind_playPair_54 lk_Mind_32 mv_Disk_flushUpTo (c_Disk_flushUpTo l D cI cB a11 a12 a13 a14 a15 a16 a17 a18 a19 a20 c19 c20 c21 c22 c23 c24 c25 c26 c27 z18 1000 h29) ⟨(Nat.le_of_ble_eq_true rfl), (Nat.le_of_ble_eq_true rfl), (Nat.le_of_ble_eq_true rfl), (Nat.le_of_ble_eq_true rfl)⟩ 11 rfl rfl [11, 12, 13, 14, 15, 16, 17, 18, 19, 20] rfl rfl rfl (Up.of [0, 1, 2, 3, 4, 5, 6, 7, 8, 9, 10] [(a0, .inr (1, [.ref a1, .ref a11, .int (zi seed)])), (a1, .inr (0, [.ref a2, .ref a3, .ref a4, .ref a5, .ref a6, .ref a7, .ref a8])), (a2, zA cI 64 now), (a3, zA cI 64 nbt), (a4, zA cI 4 nki), (a5, zA cI 96 npl), (a6, zA cI 96 nva), (a7, zA cB 96 nwr), (a8, .inr (3, [.ref a9, .ref a10, .int (zi nrm)])), (a9, zA cI 32 nrs), (a10, zA cI 32 nrz)] rfl rfl rfl 21 rfl (by decide +kernel)) rfl rfl (Nat.le_of_ble_eq_true rfl) ?_
      refine x_pop (pc := 57) X d_Mind_playPair_57 rfl ?_
      refine x_aload_n (pc := 58) X d_Mind_playPair_58 0 rfl rfl ?_
      refine x_get (pc := 59) X d_Mind_playPair_59 0 rfl fl_Mind_15 rfl ?_
      refine x_iload_n (pc := 62) X d_Mind_playPair_62 1 rfl rfl ?_
      refine x_sipush (pc := 63) (v := 1000) X d_Mind_playPair_63 (by decide +kernel) ?_
      obtain ⟨r30, h31, h⟩ := bnd_e h
      refine x_callV (pc := 66) (As := [.int (zi z17), .int (zi 1000)]) (rest := []) (w2 := (w_Mind cI cB a0 a1 a2 a3 a4 a5 a6 a7 a8 a9 a10 a11 a12 a13 a14 a15 a16 a17 a18 a19 a20 seed now nbt nki npl nva nwr nrm nrs nrz r30.2.1 r30.2.2.1 c21 r30.2.2.2.1 r30.2.2.2.2.1 r30.2.2.2.2.2.1 r30.2.2.2.2.2.2.1 r30.2.2.2.2.2.2.2.1 r30.2.2.2.2.2.2.2.2)) X d_Mind_playPair_66 lk_Mind_32 mv_Disk_flushUpTo (c_Disk_flushUpTo l D cI cB a11 a12 a13 a14 a15 a16 a17 a18 a19 a20 r28.2.1 r28.2.2.1 c21 r28.2.2.2.1 r28.2.2.2.2.1 r28.2.2.2.2.2.1 r28.2.2.2.2.2.2.1 r28.2.2.2.2.2.2.2.1 r28.2.2.2.2.2.2.2.2 z17 1000 h31) ⟨(Nat.le_of_ble_eq_true rfl), (Nat.le_of_ble_eq_true rfl), (Nat.le_of_ble_eq_true rfl), (Nat.le_of_ble_eq_true rfl)⟩ 11 rfl rfl [11, 12, 13, 14, 15, 16, 17, 18, 19, 20] rfl rfl rfl (Up.of [0, 1, 2, 3, 4, 5, 6, 7, 8, 9, 10] [(a0, .inr (1, [.ref a1, .ref a11, .int (zi seed)])), (a1, .inr (0, [.ref a2, .ref a3, .ref a4, .ref a5, .ref a6, .ref a7, .ref a8])), (a2, zA cI 64 now), (a3, zA cI 64 nbt), (a4, zA cI 4 nki), (a5, zA cI 96 npl), (a6, zA cI 96 nva), (a7, zA cB 96 nwr), (a8, .inr (3, [.ref a9, .ref a10, .int (zi nrm)])), (a9, zA cI 32 nrs), (a10, zA cI 32 nrz)] rfl rfl rfl 21 rfl (by decide +kernel)) rfl rfl (Nat.le_of_ble_eq_true rfl) ?_
      refine x_pop (pc := 69) X d_Mind_playPair_69 rfl ?_
      cases h
      exact x_vret (pc := 70) X hR d_Mind_playPair_70
    clear hj32
    refine x_icmpne (pc := 31) (tgt := 46) X d_Mind_playPair_31 rfl h (fun h => ?_) (fun h => ?_)
    · skip
      refine x_ls (ls2 := [(0, .ref a0), (1, .int (zi z4)), (2, .int (zi z5))]) [0, 1, 2] rfl ?_
      exact J33 z4 z5 c7 c8 c9 c10 c11 c12 c13 c14 c15 h
    · skip
      refine x_aload_n (pc := 34) X d_Mind_playPair_34 0 rfl rfl ?_
      refine x_get (pc := 35) X d_Mind_playPair_35 0 rfl fl_Mind_15 rfl ?_
      refine x_iload_n (pc := 38) X d_Mind_playPair_38 2 rfl rfl ?_
      refine x_sipush (pc := 39) (v := 1000) X d_Mind_playPair_39 (by decide +kernel) ?_
      obtain ⟨r34, h35, h⟩ := bnd_e h
      refine x_callV (pc := 42) (As := [.int (zi z5), .int (zi 1000)]) (rest := []) (w2 := (w_Mind cI cB a0 a1 a2 a3 a4 a5 a6 a7 a8 a9 a10 a11 a12 a13 a14 a15 a16 a17 a18 a19 a20 seed now nbt nki npl nva nwr nrm nrs nrz r34.2.1 r34.2.2.1 c9 r34.2.2.2.1 r34.2.2.2.2.1 r34.2.2.2.2.2.1 r34.2.2.2.2.2.2.1 r34.2.2.2.2.2.2.2.1 r34.2.2.2.2.2.2.2.2)) X d_Mind_playPair_42 lk_Mind_32 mv_Disk_flushUpTo (c_Disk_flushUpTo l D cI cB a11 a12 a13 a14 a15 a16 a17 a18 a19 a20 c7 c8 c9 c10 c11 c12 c13 c14 c15 z5 1000 h35) ⟨(Nat.le_of_ble_eq_true rfl), (Nat.le_of_ble_eq_true rfl), (Nat.le_of_ble_eq_true rfl), (Nat.le_of_ble_eq_true rfl)⟩ 11 rfl rfl [11, 12, 13, 14, 15, 16, 17, 18, 19, 20] rfl rfl rfl (Up.of [0, 1, 2, 3, 4, 5, 6, 7, 8, 9, 10] [(a0, .inr (1, [.ref a1, .ref a11, .int (zi seed)])), (a1, .inr (0, [.ref a2, .ref a3, .ref a4, .ref a5, .ref a6, .ref a7, .ref a8])), (a2, zA cI 64 now), (a3, zA cI 64 nbt), (a4, zA cI 4 nki), (a5, zA cI 96 npl), (a6, zA cI 96 nva), (a7, zA cB 96 nwr), (a8, .inr (3, [.ref a9, .ref a10, .int (zi nrm)])), (a9, zA cI 32 nrs), (a10, zA cI 32 nrz)] rfl rfl rfl 21 rfl (by decide +kernel)) rfl rfl (Nat.le_of_ble_eq_true rfl) ?_
      refine x_pop (pc := 45) X d_Mind_playPair_45 rfl ?_
      refine x_ls (ls2 := [(0, .ref a0), (1, .int (zi z4)), (2, .int (zi z5))]) [0, 1, 2] rfl ?_
      exact J33 z4 z5 r34.2.1 r34.2.2.1 c9 r34.2.2.2.1 r34.2.2.2.2.1 r34.2.2.2.2.2.1 r34.2.2.2.2.2.2.1 r34.2.2.2.2.2.2.2.1 r34.2.2.2.2.2.2.2.2 h
  clear hj36
  refine x_icmpne (pc := 13) (tgt := 28) X d_Mind_playPair_13 rfl h (fun h => ?_) (fun h => ?_)
  · skip
    refine x_ls (ls2 := [(0, .ref a0), (1, .int (zi x1)), (2, .int (zi x2)), (4, .int (zi x4))]) [0, 1, 2, 4] rfl ?_
    exact J37 x1 x2 x4 r1.1 r1.2.1 r1.2.2.1 r1.2.2.2.1 r1.2.2.2.2.1 r1.2.2.2.2.2 trm trs trz h
  · skip
    refine x_aload_n (pc := 16) X d_Mind_playPair_16 0 rfl rfl ?_
    refine x_get (pc := 17) X d_Mind_playPair_17 0 rfl fl_Mind_15 rfl ?_
    refine x_iload_n (pc := 20) X d_Mind_playPair_20 1 rfl rfl ?_
    refine x_sipush (pc := 21) (v := 1000) X d_Mind_playPair_21 (by decide +kernel) ?_
    obtain ⟨r38, h39, h⟩ := bnd_e h
    refine x_callV (pc := 24) (As := [.int (zi x1), .int (zi 1000)]) (rest := []) (w2 := (w_Mind cI cB a0 a1 a2 a3 a4 a5 a6 a7 a8 a9 a10 a11 a12 a13 a14 a15 a16 a17 a18 a19 a20 seed now nbt nki npl nva nwr nrm nrs nrz r38.2.1 r38.2.2.1 r1.2.2.1 r38.2.2.2.1 r38.2.2.2.2.1 r38.2.2.2.2.2.1 r38.2.2.2.2.2.2.1 r38.2.2.2.2.2.2.2.1 r38.2.2.2.2.2.2.2.2)) X d_Mind_playPair_24 lk_Mind_32 mv_Disk_flushUpTo (c_Disk_flushUpTo l D cI cB a11 a12 a13 a14 a15 a16 a17 a18 a19 a20 r1.1 r1.2.1 r1.2.2.1 r1.2.2.2.1 r1.2.2.2.2.1 r1.2.2.2.2.2 trm trs trz x1 1000 h39) ⟨(Nat.le_of_ble_eq_true rfl), (Nat.le_of_ble_eq_true rfl), (Nat.le_of_ble_eq_true rfl), (Nat.le_of_ble_eq_true rfl)⟩ 11 rfl rfl [11, 12, 13, 14, 15, 16, 17, 18, 19, 20] rfl rfl rfl (Up.of [0, 1, 2, 3, 4, 5, 6, 7, 8, 9, 10] [(a0, .inr (1, [.ref a1, .ref a11, .int (zi seed)])), (a1, .inr (0, [.ref a2, .ref a3, .ref a4, .ref a5, .ref a6, .ref a7, .ref a8])), (a2, zA cI 64 now), (a3, zA cI 64 nbt), (a4, zA cI 4 nki), (a5, zA cI 96 npl), (a6, zA cI 96 nva), (a7, zA cB 96 nwr), (a8, .inr (3, [.ref a9, .ref a10, .int (zi nrm)])), (a9, zA cI 32 nrs), (a10, zA cI 32 nrz)] rfl rfl rfl 21 rfl (by decide +kernel)) rfl rfl (Nat.le_of_ble_eq_true rfl) ?_
    refine x_pop (pc := 27) X d_Mind_playPair_27 rfl ?_
    refine x_ls (ls2 := [(0, .ref a0), (1, .int (zi x1)), (2, .int (zi x2)), (4, .int (zi x4))]) [0, 1, 2, 4] rfl ?_
    exact J37 x1 x2 x4 r38.2.1 r38.2.2.1 r1.2.2.1 r38.2.2.2.1 r38.2.2.2.2.1 r38.2.2.2.2.2.1 r38.2.2.2.2.2.2.1 r38.2.2.2.2.2.2.2.1 r38.2.2.2.2.2.2.2.2 h
theorem d_Mind_isSteady_0 : decode b_Mind_isSteady 0 = .ok (.aload_n 0, 1) := by decide +kernel
theorem d_Mind_isSteady_1 : decode b_Mind_isSteady 1 = .ok (.iload_n 1, 1) := by decide +kernel
theorem d_Mind_isSteady_2 : decode b_Mind_isSteady 2 = .ok (.iload_n 2, 1) := by decide +kernel
theorem d_Mind_isSteady_3 : decode b_Mind_isSteady 3 = .ok (.iload_n 3, 1) := by decide +kernel
theorem d_Mind_isSteady_4 : decode b_Mind_isSteady 4 = .ok (.iload 4, 2) := by decide +kernel
theorem d_Mind_isSteady_6 : decode b_Mind_isSteady 6 = .ok (.invokevirtual 72, 3) := by decide +kernel
theorem d_Mind_isSteady_9 : decode b_Mind_isSteady 9 = .ok (.aload_n 0, 1) := by decide +kernel
theorem d_Mind_isSteady_10 : decode b_Mind_isSteady 10 = .ok (.getfield 15, 3) := by decide +kernel
theorem d_Mind_isSteady_13 : decode b_Mind_isSteady 13 = .ok (.iload_n 1, 1) := by decide +kernel
theorem d_Mind_isSteady_14 : decode b_Mind_isSteady 14 = .ok (.invokevirtual 39, 3) := by decide +kernel
theorem d_Mind_isSteady_17 : decode b_Mind_isSteady 17 = .ok (.istore 5, 2) := by decide +kernel
theorem d_Mind_isSteady_19 : decode b_Mind_isSteady 19 = .ok (.aload_n 0, 1) := by decide +kernel
theorem d_Mind_isSteady_20 : decode b_Mind_isSteady 20 = .ok (.getfield 15, 3) := by decide +kernel
theorem d_Mind_isSteady_23 : decode b_Mind_isSteady 23 = .ok (.iload_n 2, 1) := by decide +kernel
theorem d_Mind_isSteady_24 : decode b_Mind_isSteady 24 = .ok (.invokevirtual 39, 3) := by decide +kernel
theorem d_Mind_isSteady_27 : decode b_Mind_isSteady 27 = .ok (.istore 6, 2) := by decide +kernel
theorem d_Mind_isSteady_29 : decode b_Mind_isSteady 29 = .ok (.aload_n 0, 1) := by decide +kernel
theorem d_Mind_isSteady_30 : decode b_Mind_isSteady 30 = .ok (.iload_n 1, 1) := by decide +kernel
theorem d_Mind_isSteady_31 : decode b_Mind_isSteady 31 = .ok (.iload_n 2, 1) := by decide +kernel
theorem d_Mind_isSteady_32 : decode b_Mind_isSteady 32 = .ok (.iconst 1, 1) := by decide +kernel
theorem d_Mind_isSteady_33 : decode b_Mind_isSteady 33 = .ok (.iload_n 3, 1) := by decide +kernel
theorem d_Mind_isSteady_34 : decode b_Mind_isSteady 34 = .ok (.isub, 1) := by decide +kernel
theorem d_Mind_isSteady_35 : decode b_Mind_isSteady 35 = .ok (.iload 4, 2) := by decide +kernel
theorem d_Mind_isSteady_37 : decode b_Mind_isSteady 37 = .ok (.invokevirtual 72, 3) := by decide +kernel
theorem d_Mind_isSteady_40 : decode b_Mind_isSteady 40 = .ok (.aload_n 0, 1) := by decide +kernel
theorem d_Mind_isSteady_41 : decode b_Mind_isSteady 41 = .ok (.getfield 15, 3) := by decide +kernel
theorem d_Mind_isSteady_44 : decode b_Mind_isSteady 44 = .ok (.iload_n 1, 1) := by decide +kernel
theorem d_Mind_isSteady_45 : decode b_Mind_isSteady 45 = .ok (.invokevirtual 39, 3) := by decide +kernel
theorem d_Mind_isSteady_48 : decode b_Mind_isSteady 48 = .ok (.iload 5, 2) := by decide +kernel
theorem d_Mind_isSteady_50 : decode b_Mind_isSteady 50 = .ok (.if_icmp .ge 5, 3) := by decide +kernel
theorem d_Mind_isSteady_53 : decode b_Mind_isSteady 53 = .ok (.iconst 0, 1) := by decide +kernel
theorem d_Mind_isSteady_54 : decode b_Mind_isSteady 54 = .ok (.ireturn, 1) := by decide +kernel
theorem d_Mind_isSteady_55 : decode b_Mind_isSteady 55 = .ok (.aload_n 0, 1) := by decide +kernel
theorem d_Mind_isSteady_56 : decode b_Mind_isSteady 56 = .ok (.iload_n 1, 1) := by decide +kernel
theorem d_Mind_isSteady_57 : decode b_Mind_isSteady 57 = .ok (.iload_n 2, 1) := by decide +kernel
theorem d_Mind_isSteady_58 : decode b_Mind_isSteady 58 = .ok (.iload_n 3, 1) := by decide +kernel
theorem d_Mind_isSteady_59 : decode b_Mind_isSteady 59 = .ok (.iconst 1, 1) := by decide +kernel
theorem d_Mind_isSteady_60 : decode b_Mind_isSteady 60 = .ok (.iload 4, 2) := by decide +kernel
theorem d_Mind_isSteady_62 : decode b_Mind_isSteady 62 = .ok (.isub, 1) := by decide +kernel
theorem d_Mind_isSteady_63 : decode b_Mind_isSteady 63 = .ok (.invokevirtual 72, 3) := by decide +kernel
theorem d_Mind_isSteady_66 : decode b_Mind_isSteady 66 = .ok (.aload_n 0, 1) := by decide +kernel
theorem d_Mind_isSteady_67 : decode b_Mind_isSteady 67 = .ok (.getfield 15, 3) := by decide +kernel
theorem d_Mind_isSteady_70 : decode b_Mind_isSteady 70 = .ok (.iload_n 2, 1) := by decide +kernel
theorem d_Mind_isSteady_71 : decode b_Mind_isSteady 71 = .ok (.invokevirtual 39, 3) := by decide +kernel
theorem d_Mind_isSteady_74 : decode b_Mind_isSteady 74 = .ok (.iload 6, 2) := by decide +kernel
theorem d_Mind_isSteady_76 : decode b_Mind_isSteady 76 = .ok (.if_icmp .lt 7, 3) := by decide +kernel
theorem d_Mind_isSteady_79 : decode b_Mind_isSteady 79 = .ok (.iconst 1, 1) := by decide +kernel
theorem d_Mind_isSteady_80 : decode b_Mind_isSteady 80 = .ok (.goto 4, 3) := by decide +kernel
theorem d_Mind_isSteady_83 : decode b_Mind_isSteady 83 = .ok (.iconst 0, 1) := by decide +kernel
theorem d_Mind_isSteady_84 : decode b_Mind_isSteady 84 = .ok (.ireturn, 1) := by decide +kernel
def m_Mind_isSteady (x1 : Int) (x2 : Int) (x3 : Int) (x4 : Int) (now : Int → Int) (nbt : Int → Int) (nki : Int → Int) (npl : Int → Int) (nva : Int → Int) (nwr : Int → Int) (tow : Int → Int) (tbt : Int → Int) (tki : Int → Int) (tpl : Int → Int) (tva : Int → Int) (twr : Int → Int) (trm : Int) (trs : Int → Int) (trz : Int → Int) : Option (Int × (Int → Int) × (Int → Int) × (Int → Int) × (Int → Int) × (Int → Int) × (Int → Int) × Int × (Int → Int) × (Int → Int)) :=
  bnd (m_Mind_playPair x1 x2 x3 x4 now nbt nki npl nva nwr tow tbt tki tpl tva twr trm trs trz) (fun r1 => bnd (m_Disk_extentsIn x1 r1.2.2.2.1 r1.2.2.2.2.2.1) (fun r3 => bnd (m_Disk_extentsIn x2 r1.2.2.2.1 r1.2.2.2.2.2.1) (fun r5 => bnd (m_Mind_playPair x1 x2 (1 - x3) x4 now nbt nki npl nva nwr r1.1 r1.2.1 r1.2.2.1 r1.2.2.2.1 r1.2.2.2.2.1 r1.2.2.2.2.2.1 r1.2.2.2.2.2.2.1 r1.2.2.2.2.2.2.2.1 r1.2.2.2.2.2.2.2.2) (fun r7 => bnd (m_Disk_extentsIn x1 r7.2.2.2.1 r7.2.2.2.2.2.1) (fun r9 => clt r9 r3 (some (0, r7.1, r7.2.1, r7.2.2.1, r7.2.2.2.1, r7.2.2.2.2.1, r7.2.2.2.2.2.1, r7.2.2.2.2.2.2.1, r7.2.2.2.2.2.2.2.1, r7.2.2.2.2.2.2.2.2)) (bnd (m_Mind_playPair x1 x2 x3 (1 - x4) now nbt nki npl nva nwr r7.1 r7.2.1 r7.2.2.1 r7.2.2.2.1 r7.2.2.2.2.1 r7.2.2.2.2.2.1 r7.2.2.2.2.2.2.1 r7.2.2.2.2.2.2.2.1 r7.2.2.2.2.2.2.2.2) (fun r11 => bnd (m_Disk_extentsIn x2 r11.2.2.2.1 r11.2.2.2.2.2.1) (fun r13 => clt r13 r5 (some (0, r11.1, r11.2.1, r11.2.2.1, r11.2.2.2.1, r11.2.2.2.2.1, r11.2.2.2.2.2.1, r11.2.2.2.2.2.2.1, r11.2.2.2.2.2.2.2.1, r11.2.2.2.2.2.2.2.2)) (some (1, r11.1, r11.2.1, r11.2.2.1, r11.2.2.2.1, r11.2.2.2.2.1, r11.2.2.2.2.2.1, r11.2.2.2.2.2.2.1, r11.2.2.2.2.2.2.2.1, r11.2.2.2.2.2.2.2.2))))))))))
set_option maxHeartbeats 4000000 in
set_option maxRecDepth 100000 in
theorem c_Mind_isSteady (l : Launch) (D : va_G) (cI cB : ClassId) (a0 a1 a2 a3 a4 a5 a6 a7 a8 a9 a10 a11 a12 a13 a14 a15 a16 a17 a18 a19 a20 : Nat) (seed : Int) (now : Int → Int) (nbt : Int → Int) (nki : Int → Int) (npl : Int → Int) (nva : Int → Int) (nwr : Int → Int) (nrm : Int) (nrs : Int → Int) (nrz : Int → Int) (tow : Int → Int) (tbt : Int → Int) (tki : Int → Int) (tpl : Int → Int) (tva : Int → Int) (twr : Int → Int) (trm : Int) (trs : Int → Int) (trz : Int → Int) (x1 : Int) (x2 : Int) (x3 : Int) (x4 : Int) {o : Int × (Int → Int) × (Int → Int) × (Int → Int) × (Int → Int) × (Int → Int) × (Int → Int) × Int × (Int → Int) × (Int → Int)} (h : m_Mind_isSteady x1 x2 x3 x4 now nbt nki npl nva nwr tow tbt tki tpl tva twr trm trs trz = some o) : Ct l D cI cB y_Mind_isSteady b_Mind_isSteady 7 (some .boolean) { frames := 5, cells := 0, slots := 0, locals := 127 } [.ref a0, .int (zi x1), .int (zi x2), .int (zi x3), .int (zi x4)] (w_Mind cI cB a0 a1 a2 a3 a4 a5 a6 a7 a8 a9 a10 a11 a12 a13 a14 a15 a16 a17 a18 a19 a20 seed now nbt nki npl nva nwr nrm nrs nrz tow tbt tki tpl tva twr trm trs trz) (w_Mind cI cB a0 a1 a2 a3 a4 a5 a6 a7 a8 a9 a10 a11 a12 a13 a14 a15 a16 a17 a18 a19 a20 seed now nbt nki npl nva nwr nrm nrs nrz o.2.1 o.2.2.1 o.2.2.2.1 o.2.2.2.2.1 o.2.2.2.2.2.1 o.2.2.2.2.2.2.1 o.2.2.2.2.2.2.2.1 o.2.2.2.2.2.2.2.2.1 o.2.2.2.2.2.2.2.2.2) (some (.int (zi o.1))) := by
  refine Ct.start (by decide) (Nat.le_of_ble_eq_true rfl) (fun G X hR => ?_)
  refine x_ls (ls2 := [(0, .ref a0), (1, .int (zi x1)), (2, .int (zi x2)), (3, .int (zi x3)), (4, .int (zi x4))]) [0, 1, 2, 3, 4] rfl ?_
  unfold m_Mind_isSteady at h
  refine x_aload_n (pc := 0) X d_Mind_isSteady_0 0 rfl rfl ?_
  refine x_iload_n (pc := 1) X d_Mind_isSteady_1 1 rfl rfl ?_
  refine x_iload_n (pc := 2) X d_Mind_isSteady_2 2 rfl rfl ?_
  refine x_iload_n (pc := 3) X d_Mind_isSteady_3 3 rfl rfl ?_
  refine x_iload (pc := 4) X d_Mind_isSteady_4 4 rfl ?_
  obtain ⟨r1, h2, h⟩ := bnd_e h
  refine x_callV (pc := 6) (As := [.int (zi x1), .int (zi x2), .int (zi x3), .int (zi x4)]) (rest := []) (w2 := (w_Mind cI cB a0 a1 a2 a3 a4 a5 a6 a7 a8 a9 a10 a11 a12 a13 a14 a15 a16 a17 a18 a19 a20 seed now nbt nki npl nva nwr nrm nrs nrz r1.1 r1.2.1 r1.2.2.1 r1.2.2.2.1 r1.2.2.2.2.1 r1.2.2.2.2.2.1 r1.2.2.2.2.2.2.1 r1.2.2.2.2.2.2.2.1 r1.2.2.2.2.2.2.2.2)) X d_Mind_isSteady_6 lk_Mind_72 mv_Mind_playPair (c_Mind_playPair l D cI cB a0 a1 a2 a3 a4 a5 a6 a7 a8 a9 a10 a11 a12 a13 a14 a15 a16 a17 a18 a19 a20 seed now nbt nki npl nva nwr nrm nrs nrz tow tbt tki tpl tva twr trm trs trz x1 x2 x3 x4 h2) ⟨(Nat.le_of_ble_eq_true rfl), (Nat.le_of_ble_eq_true rfl), (Nat.le_of_ble_eq_true rfl), (Nat.le_of_ble_eq_true rfl)⟩ 0 rfl rfl [0, 1, 2, 3, 4, 5, 6, 7, 8, 9, 10, 11, 12, 13, 14, 15, 16, 17, 18, 19, 20] rfl rfl rfl (Up.of [] [] rfl rfl rfl 21 rfl (by decide +kernel)) rfl rfl (Nat.le_of_ble_eq_true rfl) ?_
  refine x_aload_n (pc := 9) X d_Mind_isSteady_9 0 rfl rfl ?_
  refine x_get (pc := 10) X d_Mind_isSteady_10 0 rfl fl_Mind_15 rfl ?_
  refine x_iload_n (pc := 13) X d_Mind_isSteady_13 1 rfl rfl ?_
  obtain ⟨r3, h4, h⟩ := bnd_e h
  refine x_callV (pc := 14) (As := [.int (zi x1)]) (rest := []) (w2 := (w_Mind cI cB a0 a1 a2 a3 a4 a5 a6 a7 a8 a9 a10 a11 a12 a13 a14 a15 a16 a17 a18 a19 a20 seed now nbt nki npl nva nwr nrm nrs nrz r1.1 r1.2.1 r1.2.2.1 r1.2.2.2.1 r1.2.2.2.2.1 r1.2.2.2.2.2.1 r1.2.2.2.2.2.2.1 r1.2.2.2.2.2.2.2.1 r1.2.2.2.2.2.2.2.2)) X d_Mind_isSteady_14 lk_Mind_39 mv_Disk_extentsIn (c_Disk_extentsIn l D cI cB a11 a12 a13 a14 a15 a16 a17 a18 a19 a20 r1.1 r1.2.1 r1.2.2.1 r1.2.2.2.1 r1.2.2.2.2.1 r1.2.2.2.2.2.1 r1.2.2.2.2.2.2.1 r1.2.2.2.2.2.2.2.1 r1.2.2.2.2.2.2.2.2 x1 h4) ⟨(Nat.le_of_ble_eq_true rfl), (Nat.le_of_ble_eq_true rfl), (Nat.le_of_ble_eq_true rfl), (Nat.le_of_ble_eq_true rfl)⟩ 11 rfl rfl [11, 12, 13, 14, 15, 16, 17, 18, 19, 20] rfl rfl rfl (Up.same rfl) rfl rfl (Nat.le_of_ble_eq_true rfl) ?_
  refine x_istore (pc := 17) (ls2 := [(5, .int (zi r3)), (0, .ref a0), (1, .int (zi x1)), (2, .int (zi x2)), (3, .int (zi x3)), (4, .int (zi x4))]) X d_Mind_isSteady_17 (Nat.le_of_ble_eq_true rfl) rfl ?_
  refine x_aload_n (pc := 19) X d_Mind_isSteady_19 1 rfl rfl ?_
  refine x_get (pc := 20) X d_Mind_isSteady_20 0 rfl fl_Mind_15 rfl ?_
  refine x_iload_n (pc := 23) X d_Mind_isSteady_23 3 rfl rfl ?_
  obtain ⟨r5, h6, h⟩ := bnd_e h
  refine x_callV (pc := 24) (As := [.int (zi x2)]) (rest := []) (w2 := (w_Mind cI cB a0 a1 a2 a3 a4 a5 a6 a7 a8 a9 a10 a11 a12 a13 a14 a15 a16 a17 a18 a19 a20 seed now nbt nki npl nva nwr nrm nrs nrz r1.1 r1.2.1 r1.2.2.1 r1.2.2.2.1 r1.2.2.2.2.1 r1.2.2.2.2.2.1 r1.2.2.2.2.2.2.1 r1.2.2.2.2.2.2.2.1 r1.2.2.2.2.2.2.2.2)) X d_Mind_isSteady_24 lk_Mind_39 mv_Disk_extentsIn (c_Disk_extentsIn l D cI cB a11 a12 a13 a14 a15 a16 a17 a18 a19 a20 r1.1 r1.2.1 r1.2.2.1 r1.2.2.2.1 r1.2.2.2.2.1 r1.2.2.2.2.2.1 r1.2.2.2.2.2.2.1 r1.2.2.2.2.2.2.2.1 r1.2.2.2.2.2.2.2.2 x2 h6) ⟨(Nat.le_of_ble_eq_true rfl), (Nat.le_of_ble_eq_true rfl), (Nat.le_of_ble_eq_true rfl), (Nat.le_of_ble_eq_true rfl)⟩ 11 rfl rfl [11, 12, 13, 14, 15, 16, 17, 18, 19, 20] rfl rfl rfl (Up.same rfl) rfl rfl (Nat.le_of_ble_eq_true rfl) ?_
  refine x_istore (pc := 27) (ls2 := [(6, .int (zi r5)), (5, .int (zi r3)), (0, .ref a0), (1, .int (zi x1)), (2, .int (zi x2)), (3, .int (zi x3)), (4, .int (zi x4))]) X d_Mind_isSteady_27 (Nat.le_of_ble_eq_true rfl) rfl ?_
  refine x_aload_n (pc := 29) X d_Mind_isSteady_29 2 rfl rfl ?_
  refine x_iload_n (pc := 30) X d_Mind_isSteady_30 3 rfl rfl ?_
  refine x_iload_n (pc := 31) X d_Mind_isSteady_31 4 rfl rfl ?_
  refine x_iconst (pc := 32) X d_Mind_isSteady_32  ?_
  refine x_iload_n (pc := 33) X d_Mind_isSteady_33 5 rfl rfl ?_
  refine x_isub (pc := 34) X d_Mind_isSteady_34  ?_
  refine x_iload (pc := 35) X d_Mind_isSteady_35 6 rfl ?_
  obtain ⟨r7, h8, h⟩ := bnd_e h
  refine x_callV (pc := 37) (As := [.int (zi x1), .int (zi x2), .int (zi (1 - x3)), .int (zi x4)]) (rest := []) (w2 := (w_Mind cI cB a0 a1 a2 a3 a4 a5 a6 a7 a8 a9 a10 a11 a12 a13 a14 a15 a16 a17 a18 a19 a20 seed now nbt nki npl nva nwr nrm nrs nrz r7.1 r7.2.1 r7.2.2.1 r7.2.2.2.1 r7.2.2.2.2.1 r7.2.2.2.2.2.1 r7.2.2.2.2.2.2.1 r7.2.2.2.2.2.2.2.1 r7.2.2.2.2.2.2.2.2)) X d_Mind_isSteady_37 lk_Mind_72 mv_Mind_playPair (c_Mind_playPair l D cI cB a0 a1 a2 a3 a4 a5 a6 a7 a8 a9 a10 a11 a12 a13 a14 a15 a16 a17 a18 a19 a20 seed now nbt nki npl nva nwr nrm nrs nrz r1.1 r1.2.1 r1.2.2.1 r1.2.2.2.1 r1.2.2.2.2.1 r1.2.2.2.2.2.1 r1.2.2.2.2.2.2.1 r1.2.2.2.2.2.2.2.1 r1.2.2.2.2.2.2.2.2 x1 x2 (1 - x3) x4 h8) ⟨(Nat.le_of_ble_eq_true rfl), (Nat.le_of_ble_eq_true rfl), (Nat.le_of_ble_eq_true rfl), (Nat.le_of_ble_eq_true rfl)⟩ 0 rfl rfl [0, 1, 2, 3, 4, 5, 6, 7, 8, 9, 10, 11, 12, 13, 14, 15, 16, 17, 18, 19, 20] rfl rfl rfl (Up.of [] [] rfl rfl rfl 21 rfl (by decide +kernel)) rfl rfl (Nat.le_of_ble_eq_true rfl) ?_
  refine x_aload_n (pc := 40) X d_Mind_isSteady_40 2 rfl rfl ?_
  refine x_get (pc := 41) X d_Mind_isSteady_41 0 rfl fl_Mind_15 rfl ?_
  refine x_iload_n (pc := 44) X d_Mind_isSteady_44 3 rfl rfl ?_
  obtain ⟨r9, h10, h⟩ := bnd_e h
  refine x_callV (pc := 45) (As := [.int (zi x1)]) (rest := []) (w2 := (w_Mind cI cB a0 a1 a2 a3 a4 a5 a6 a7 a8 a9 a10 a11 a12 a13 a14 a15 a16 a17 a18 a19 a20 seed now nbt nki npl nva nwr nrm nrs nrz r7.1 r7.2.1 r7.2.2.1 r7.2.2.2.1 r7.2.2.2.2.1 r7.2.2.2.2.2.1 r7.2.2.2.2.2.2.1 r7.2.2.2.2.2.2.2.1 r7.2.2.2.2.2.2.2.2)) X d_Mind_isSteady_45 lk_Mind_39 mv_Disk_extentsIn (c_Disk_extentsIn l D cI cB a11 a12 a13 a14 a15 a16 a17 a18 a19 a20 r7.1 r7.2.1 r7.2.2.1 r7.2.2.2.1 r7.2.2.2.2.1 r7.2.2.2.2.2.1 r7.2.2.2.2.2.2.1 r7.2.2.2.2.2.2.2.1 r7.2.2.2.2.2.2.2.2 x1 h10) ⟨(Nat.le_of_ble_eq_true rfl), (Nat.le_of_ble_eq_true rfl), (Nat.le_of_ble_eq_true rfl), (Nat.le_of_ble_eq_true rfl)⟩ 11 rfl rfl [11, 12, 13, 14, 15, 16, 17, 18, 19, 20] rfl rfl rfl (Up.same rfl) rfl rfl (Nat.le_of_ble_eq_true rfl) ?_
  refine x_iload (pc := 48) X d_Mind_isSteady_48 1 rfl ?_
  refine x_icmpge (pc := 50) (tgt := 55) X d_Mind_isSteady_50 rfl h (fun h => ?_) (fun h => ?_)
  · skip
    refine x_aload_n (pc := 55) X d_Mind_isSteady_55 2 rfl rfl ?_
    refine x_iload_n (pc := 56) X d_Mind_isSteady_56 3 rfl rfl ?_
    refine x_iload_n (pc := 57) X d_Mind_isSteady_57 4 rfl rfl ?_
    refine x_iload_n (pc := 58) X d_Mind_isSteady_58 5 rfl rfl ?_
    refine x_iconst (pc := 59) X d_Mind_isSteady_59  ?_
    refine x_iload (pc := 60) X d_Mind_isSteady_60 6 rfl ?_
    refine x_isub (pc := 62) X d_Mind_isSteady_62  ?_
    obtain ⟨r11, h12, h⟩ := bnd_e h
    refine x_callV (pc := 63) (As := [.int (zi x1), .int (zi x2), .int (zi x3), .int (zi (1 - x4))]) (rest := []) (w2 := (w_Mind cI cB a0 a1 a2 a3 a4 a5 a6 a7 a8 a9 a10 a11 a12 a13 a14 a15 a16 a17 a18 a19 a20 seed now nbt nki npl nva nwr nrm nrs nrz r11.1 r11.2.1 r11.2.2.1 r11.2.2.2.1 r11.2.2.2.2.1 r11.2.2.2.2.2.1 r11.2.2.2.2.2.2.1 r11.2.2.2.2.2.2.2.1 r11.2.2.2.2.2.2.2.2)) X d_Mind_isSteady_63 lk_Mind_72 mv_Mind_playPair (c_Mind_playPair l D cI cB a0 a1 a2 a3 a4 a5 a6 a7 a8 a9 a10 a11 a12 a13 a14 a15 a16 a17 a18 a19 a20 seed now nbt nki npl nva nwr nrm nrs nrz r7.1 r7.2.1 r7.2.2.1 r7.2.2.2.1 r7.2.2.2.2.1 r7.2.2.2.2.2.1 r7.2.2.2.2.2.2.1 r7.2.2.2.2.2.2.2.1 r7.2.2.2.2.2.2.2.2 x1 x2 x3 (1 - x4) h12) ⟨(Nat.le_of_ble_eq_true rfl), (Nat.le_of_ble_eq_true rfl), (Nat.le_of_ble_eq_true rfl), (Nat.le_of_ble_eq_true rfl)⟩ 0 rfl rfl [0, 1, 2, 3, 4, 5, 6, 7, 8, 9, 10, 11, 12, 13, 14, 15, 16, 17, 18, 19, 20] rfl rfl rfl (Up.of [] [] rfl rfl rfl 21 rfl (by decide +kernel)) rfl rfl (Nat.le_of_ble_eq_true rfl) ?_
    refine x_aload_n (pc := 66) X d_Mind_isSteady_66 2 rfl rfl ?_
    refine x_get (pc := 67) X d_Mind_isSteady_67 0 rfl fl_Mind_15 rfl ?_
    refine x_iload_n (pc := 70) X d_Mind_isSteady_70 4 rfl rfl ?_
    obtain ⟨r13, h14, h⟩ := bnd_e h
    refine x_callV (pc := 71) (As := [.int (zi x2)]) (rest := []) (w2 := (w_Mind cI cB a0 a1 a2 a3 a4 a5 a6 a7 a8 a9 a10 a11 a12 a13 a14 a15 a16 a17 a18 a19 a20 seed now nbt nki npl nva nwr nrm nrs nrz r11.1 r11.2.1 r11.2.2.1 r11.2.2.2.1 r11.2.2.2.2.1 r11.2.2.2.2.2.1 r11.2.2.2.2.2.2.1 r11.2.2.2.2.2.2.2.1 r11.2.2.2.2.2.2.2.2)) X d_Mind_isSteady_71 lk_Mind_39 mv_Disk_extentsIn (c_Disk_extentsIn l D cI cB a11 a12 a13 a14 a15 a16 a17 a18 a19 a20 r11.1 r11.2.1 r11.2.2.1 r11.2.2.2.1 r11.2.2.2.2.1 r11.2.2.2.2.2.1 r11.2.2.2.2.2.2.1 r11.2.2.2.2.2.2.2.1 r11.2.2.2.2.2.2.2.2 x2 h14) ⟨(Nat.le_of_ble_eq_true rfl), (Nat.le_of_ble_eq_true rfl), (Nat.le_of_ble_eq_true rfl), (Nat.le_of_ble_eq_true rfl)⟩ 11 rfl rfl [11, 12, 13, 14, 15, 16, 17, 18, 19, 20] rfl rfl rfl (Up.same rfl) rfl rfl (Nat.le_of_ble_eq_true rfl) ?_
    refine x_iload (pc := 74) X d_Mind_isSteady_74 0 rfl ?_
    refine x_icmplt (pc := 76) (tgt := 83) X d_Mind_isSteady_76 rfl h (fun h => ?_) (fun h => ?_)
    · skip
      refine x_iconst (pc := 83) X d_Mind_isSteady_83  ?_
      cases h
      exact x_zret (pc := 84) X hR d_Mind_isSteady_84 (Or.inl rfl)
    · skip
      refine x_iconst (pc := 79) X d_Mind_isSteady_79  ?_
      refine x_goto (pc := 80) (tgt := 84) X d_Mind_isSteady_80 rfl ?_
      cases h
      exact x_zret (pc := 84) X hR d_Mind_isSteady_84 (Or.inr rfl)
  · skip
    refine x_iconst (pc := 53) X d_Mind_isSteady_53  ?_
    cases h
    exact x_zret (pc := 54) X hR d_Mind_isSteady_54 (Or.inl rfl)
theorem d_Mind_growthBySettling_0 : decode b_Mind_growthBySettling 0 = .ok (.aload_n 0, 1) := by decide +kernel
theorem d_Mind_growthBySettling_1 : decode b_Mind_growthBySettling 1 = .ok (.getfield 15, 3) := by decide +kernel
theorem d_Mind_growthBySettling_4 : decode b_Mind_growthBySettling 4 = .ok (.aload_n 0, 1) := by decide +kernel
theorem d_Mind_growthBySettling_5 : decode b_Mind_growthBySettling 5 = .ok (.getfield 9, 3) := by decide +kernel
theorem d_Mind_growthBySettling_8 : decode b_Mind_growthBySettling 8 = .ok (.invokevirtual 22, 3) := by decide +kernel
theorem d_Mind_growthBySettling_11 : decode b_Mind_growthBySettling 11 = .ok (.aload_n 0, 1) := by decide +kernel
theorem d_Mind_growthBySettling_12 : decode b_Mind_growthBySettling 12 = .ok (.getfield 15, 3) := by decide +kernel
theorem d_Mind_growthBySettling_15 : decode b_Mind_growthBySettling 15 = .ok (.iload_n 1, 1) := by decide +kernel
theorem d_Mind_growthBySettling_16 : decode b_Mind_growthBySettling 16 = .ok (.invokevirtual 76, 3) := by decide +kernel
theorem d_Mind_growthBySettling_19 : decode b_Mind_growthBySettling 19 = .ok (.pop, 1) := by decide +kernel
theorem d_Mind_growthBySettling_20 : decode b_Mind_growthBySettling 20 = .ok (.aload_n 0, 1) := by decide +kernel
theorem d_Mind_growthBySettling_21 : decode b_Mind_growthBySettling 21 = .ok (.getfield 15, 3) := by decide +kernel
theorem d_Mind_growthBySettling_24 : decode b_Mind_growthBySettling 24 = .ok (.invokevirtual 79, 3) := by decide +kernel
theorem d_Mind_growthBySettling_27 : decode b_Mind_growthBySettling 27 = .ok (.aload_n 0, 1) := by decide +kernel
theorem d_Mind_growthBySettling_28 : decode b_Mind_growthBySettling 28 = .ok (.getfield 9, 3) := by decide +kernel
theorem d_Mind_growthBySettling_31 : decode b_Mind_growthBySettling 31 = .ok (.invokevirtual 79, 3) := by decide +kernel
theorem d_Mind_growthBySettling_34 : decode b_Mind_growthBySettling 34 = .ok (.isub, 1) := by decide +kernel
theorem d_Mind_growthBySettling_35 : decode b_Mind_growthBySettling 35 = .ok (.ireturn, 1) := by decide +kernel
def m_Mind_growthBySettling (x1 : Int) (now : Int → Int) (nbt : Int → Int) (nki : Int → Int) (npl : Int → Int) (nva : Int → Int) (nwr : Int → Int) (nrm : Int) (nrs : Int → Int) (nrz : Int → Int) (tow : Int → Int) (tbt : Int → Int) (tki : Int → Int) (tpl : Int → Int) (tva : Int → Int) (twr : Int → Int) (trm : Int) (trs : Int → Int) (trz : Int → Int) : Option (Int × Int × (Int → Int) × (Int → Int) × (Int → Int) × (Int → Int) × (Int → Int) × (Int → Int) × (Int → Int) × (Int → Int) × Int × (Int → Int) × (Int → Int)) :=
  bnd (m_Disk_copyFrom tow tbt tki tpl tva twr now nbt nki npl nva nwr) (fun r1 => bnd (m_Disk_settleDown x1 r1.1 r1.2.1 r1.2.2.2.1 trm trs trz) (fun r3 => bnd (m_Disk_greatestSize r3.2.1 r3.2.2.2.2.1 r3.2.2.2.2.2.1 r3.2.2.2.2.2.2) (fun r5 => bnd (m_Disk_greatestSize now nrm nrs nrz) (fun r7 => some ((r5.1 - r7.1), r7.2.1, r7.2.2.1, r7.2.2.2, r3.2.1, r3.2.2.1, r1.2.2.1, r3.2.2.2.1, r1.2.2.2.2.1, r1.2.2.2.2.2, r5.2.1, r5.2.2.1, r5.2.2.2)))))
set_option maxHeartbeats 4000000 in
set_option maxRecDepth 100000 in
theorem c_Mind_growthBySettling (l : Launch) (D : va_G) (cI cB : ClassId) (a0 a1 a2 a3 a4 a5 a6 a7 a8 a9 a10 a11 a12 a13 a14 a15 a16 a17 a18 a19 a20 : Nat) (seed : Int) (now : Int → Int) (nbt : Int → Int) (nki : Int → Int) (npl : Int → Int) (nva : Int → Int) (nwr : Int → Int) (nrm : Int) (nrs : Int → Int) (nrz : Int → Int) (tow : Int → Int) (tbt : Int → Int) (tki : Int → Int) (tpl : Int → Int) (tva : Int → Int) (twr : Int → Int) (trm : Int) (trs : Int → Int) (trz : Int → Int) (x1 : Int) {o : Int × Int × (Int → Int) × (Int → Int) × (Int → Int) × (Int → Int) × (Int → Int) × (Int → Int) × (Int → Int) × (Int → Int) × Int × (Int → Int) × (Int → Int)} (h : m_Mind_growthBySettling x1 now nbt nki npl nva nwr nrm nrs nrz tow tbt tki tpl tva twr trm trs trz = some o) : Ct l D cI cB y_Mind_growthBySettling b_Mind_growthBySettling 2 (some .int) { frames := 4, cells := 0, slots := 0, locals := 92 } [.ref a0, .int (zi x1)] (w_Mind cI cB a0 a1 a2 a3 a4 a5 a6 a7 a8 a9 a10 a11 a12 a13 a14 a15 a16 a17 a18 a19 a20 seed now nbt nki npl nva nwr nrm nrs nrz tow tbt tki tpl tva twr trm trs trz) (w_Mind cI cB a0 a1 a2 a3 a4 a5 a6 a7 a8 a9 a10 a11 a12 a13 a14 a15 a16 a17 a18 a19 a20 seed now nbt nki npl nva nwr o.2.1 o.2.2.1 o.2.2.2.1 o.2.2.2.2.1 o.2.2.2.2.2.1 o.2.2.2.2.2.2.1 o.2.2.2.2.2.2.2.1 o.2.2.2.2.2.2.2.2.1 o.2.2.2.2.2.2.2.2.2.1 o.2.2.2.2.2.2.2.2.2.2.1 o.2.2.2.2.2.2.2.2.2.2.2.1 o.2.2.2.2.2.2.2.2.2.2.2.2) (some (.int (zi o.1))) := by
  refine Ct.start (by decide) (Nat.le_of_ble_eq_true rfl) (fun G X hR => ?_)
  refine x_ls (ls2 := [(0, .ref a0), (1, .int (zi x1))]) [0, 1] rfl ?_
  unfold m_Mind_growthBySettling at h
  refine x_aload_n (pc := 0) X d_Mind_growthBySettling_0 0 rfl rfl ?_
  refine x_get (pc := 1) X d_Mind_growthBySettling_1 0 rfl fl_Mind_15 rfl ?_
  refine x_aload_n (pc := 4) X d_Mind_growthBySettling_4 0 rfl rfl ?_
  refine x_get (pc := 5) X d_Mind_growthBySettling_5 0 rfl fl_Mind_9 rfl ?_
  obtain ⟨r1, h2, h⟩ := bnd_e h
  refine x_callV (pc := 8) (As := [.ref a1]) (rest := []) (w2 := (w_Mind cI cB a0 a1 a2 a3 a4 a5 a6 a7 a8 a9 a10 a11 a12 a13 a14 a15 a16 a17 a18 a19 a20 seed now nbt nki npl nva nwr nrm nrs nrz r1.1 r1.2.1 r1.2.2.1 r1.2.2.2.1 r1.2.2.2.2.1 r1.2.2.2.2.2 trm trs trz)) X d_Mind_growthBySettling_8 lk_Mind_22 mv_Disk_copyFrom (c_Disk_copyFrom l D cI cB a11 a12 a13 a14 a15 a16 a17 a18 a19 a20 a1 a2 a3 a4 a5 a6 a7 a8 a9 a10 tow tbt tki tpl tva twr trm trs trz now nbt nki npl nva nwr nrm nrs nrz h2) ⟨(Nat.le_of_ble_eq_true rfl), (Nat.le_of_ble_eq_true rfl), (Nat.le_of_ble_eq_true rfl), (Nat.le_of_ble_eq_true rfl)⟩ 11 rfl rfl [11, 12, 13, 14, 15, 16, 17, 18, 19, 20, 1, 2, 3, 4, 5, 6, 7, 8, 9, 10] rfl rfl rfl (Up.of [0] [(a0, .inr (1, [.ref a1, .ref a11, .int (zi seed)]))] rfl rfl rfl 21 rfl (by decide +kernel)) rfl rfl (Nat.le_of_ble_eq_true rfl) ?_
  refine x_aload_n (pc := 11) X d_Mind_growthBySettling_11 0 rfl rfl ?_
  refine x_get (pc := 12) X d_Mind_growthBySettling_12 0 rfl fl_Mind_15 rfl ?_
  refine x_iload_n (pc := 15) X d_Mind_growthBySettling_15 1 rfl rfl ?_
  obtain ⟨r3, h4, h⟩ := bnd_e h
  refine x_callV (pc := 16) (As := [.int (zi x1)]) (rest := []) (w2 := (w_Mind cI cB a0 a1 a2 a3 a4 a5 a6 a7 a8 a9 a10 a11 a12 a13 a14 a15 a16 a17 a18 a19 a20 seed now nbt nki npl nva nwr nrm nrs nrz r3.2.1 r3.2.2.1 r1.2.2.1 r3.2.2.2.1 r1.2.2.2.2.1 r1.2.2.2.2.2 r3.2.2.2.2.1 r3.2.2.2.2.2.1 r3.2.2.2.2.2.2)) X d_Mind_growthBySettling_16 lk_Mind_76 mv_Disk_settleDown (c_Disk_settleDown l D cI cB a11 a12 a13 a14 a15 a16 a17 a18 a19 a20 r1.1 r1.2.1 r1.2.2.1 r1.2.2.2.1 r1.2.2.2.2.1 r1.2.2.2.2.2 trm trs trz x1 h4) ⟨(Nat.le_of_ble_eq_true rfl), (Nat.le_of_ble_eq_true rfl), (Nat.le_of_ble_eq_true rfl), (Nat.le_of_ble_eq_true rfl)⟩ 11 rfl rfl [11, 12, 13, 14, 15, 16, 17, 18, 19, 20] rfl rfl rfl (Up.of [0, 1, 2, 3, 4, 5, 6, 7, 8, 9, 10] [(a0, .inr (1, [.ref a1, .ref a11, .int (zi seed)])), (a1, .inr (0, [.ref a2, .ref a3, .ref a4, .ref a5, .ref a6, .ref a7, .ref a8])), (a2, zA cI 64 now), (a3, zA cI 64 nbt), (a4, zA cI 4 nki), (a5, zA cI 96 npl), (a6, zA cI 96 nva), (a7, zA cB 96 nwr), (a8, .inr (3, [.ref a9, .ref a10, .int (zi nrm)])), (a9, zA cI 32 nrs), (a10, zA cI 32 nrz)] rfl rfl rfl 21 rfl (by decide +kernel)) rfl rfl (Nat.le_of_ble_eq_true rfl) ?_
  refine x_pop (pc := 19) X d_Mind_growthBySettling_19 rfl ?_
  refine x_aload_n (pc := 20) X d_Mind_growthBySettling_20 0 rfl rfl ?_
  refine x_get (pc := 21) X d_Mind_growthBySettling_21 0 rfl fl_Mind_15 rfl ?_
  obtain ⟨r5, h6, h⟩ := bnd_e h
  refine x_callV (pc := 24) (As := []) (rest := []) (w2 := (w_Mind cI cB a0 a1 a2 a3 a4 a5 a6 a7 a8 a9 a10 a11 a12 a13 a14 a15 a16 a17 a18 a19 a20 seed now nbt nki npl nva nwr nrm nrs nrz r3.2.1 r3.2.2.1 r1.2.2.1 r3.2.2.2.1 r1.2.2.2.2.1 r1.2.2.2.2.2 r5.2.1 r5.2.2.1 r5.2.2.2)) X d_Mind_growthBySettling_24 lk_Mind_79 mv_Disk_greatestSize (c_Disk_greatestSize l D cI cB a11 a12 a13 a14 a15 a16 a17 a18 a19 a20 r3.2.1 r3.2.2.1 r1.2.2.1 r3.2.2.2.1 r1.2.2.2.2.1 r1.2.2.2.2.2 r3.2.2.2.2.1 r3.2.2.2.2.2.1 r3.2.2.2.2.2.2 h6) ⟨(Nat.le_of_ble_eq_true rfl), (Nat.le_of_ble_eq_true rfl), (Nat.le_of_ble_eq_true rfl), (Nat.le_of_ble_eq_true rfl)⟩ 11 rfl rfl [11, 12, 13, 14, 15, 16, 17, 18, 19, 20] rfl rfl rfl (Up.of [0, 1, 2, 3, 4, 5, 6, 7, 8, 9, 10] [(a0, .inr (1, [.ref a1, .ref a11, .int (zi seed)])), (a1, .inr (0, [.ref a2, .ref a3, .ref a4, .ref a5, .ref a6, .ref a7, .ref a8])), (a2, zA cI 64 now), (a3, zA cI 64 nbt), (a4, zA cI 4 nki), (a5, zA cI 96 npl), (a6, zA cI 96 nva), (a7, zA cB 96 nwr), (a8, .inr (3, [.ref a9, .ref a10, .int (zi nrm)])), (a9, zA cI 32 nrs), (a10, zA cI 32 nrz)] rfl rfl rfl 21 rfl (by decide +kernel)) rfl rfl (Nat.le_of_ble_eq_true rfl) ?_
  refine x_aload_n (pc := 27) X d_Mind_growthBySettling_27 0 rfl rfl ?_
  refine x_get (pc := 28) X d_Mind_growthBySettling_28 0 rfl fl_Mind_9 rfl ?_
  obtain ⟨r7, h8, h⟩ := bnd_e h
  refine x_callV (pc := 31) (As := []) (rest := [.int (zi r5.1)]) (w2 := (w_Mind cI cB a0 a1 a2 a3 a4 a5 a6 a7 a8 a9 a10 a11 a12 a13 a14 a15 a16 a17 a18 a19 a20 seed now nbt nki npl nva nwr r7.2.1 r7.2.2.1 r7.2.2.2 r3.2.1 r3.2.2.1 r1.2.2.1 r3.2.2.2.1 r1.2.2.2.2.1 r1.2.2.2.2.2 r5.2.1 r5.2.2.1 r5.2.2.2)) X d_Mind_growthBySettling_31 lk_Mind_79 mv_Disk_greatestSize (c_Disk_greatestSize l D cI cB a1 a2 a3 a4 a5 a6 a7 a8 a9 a10 now nbt nki npl nva nwr nrm nrs nrz h8) ⟨(Nat.le_of_ble_eq_true rfl), (Nat.le_of_ble_eq_true rfl), (Nat.le_of_ble_eq_true rfl), (Nat.le_of_ble_eq_true rfl)⟩ 1 rfl rfl [1, 2, 3, 4, 5, 6, 7, 8, 9, 10] rfl rfl rfl (Up.of [0, 11, 12, 13, 14, 15, 16, 17, 18, 19, 20] [(a0, .inr (1, [.ref a1, .ref a11, .int (zi seed)])), (a11, .inr (0, [.ref a12, .ref a13, .ref a14, .ref a15, .ref a16, .ref a17, .ref a18])), (a12, zA cI 64 r3.2.1), (a13, zA cI 64 r3.2.2.1), (a14, zA cI 4 r1.2.2.1), (a15, zA cI 96 r3.2.2.2.1), (a16, zA cI 96 r1.2.2.2.2.1), (a17, zA cB 96 r1.2.2.2.2.2), (a18, .inr (3, [.ref a19, .ref a20, .int (zi r5.2.1)])), (a19, zA cI 32 r5.2.2.1), (a20, zA cI 32 r5.2.2.2)] rfl rfl rfl 21 rfl (by decide +kernel)) rfl rfl (Nat.le_of_ble_eq_true rfl) ?_
  refine x_isub (pc := 34) X d_Mind_growthBySettling_34  ?_
  cases h
  exact x_iret (pc := 35) X hR d_Mind_growthBySettling_35
theorem d_Mind_lossOfAllCrashes_0 : decode b_Mind_lossOfAllCrashes 0 = .ok (.aload_n 0, 1) := by decide +kernel
theorem d_Mind_lossOfAllCrashes_1 : decode b_Mind_lossOfAllCrashes 1 = .ok (.iload_n 1, 1) := by decide +kernel
theorem d_Mind_lossOfAllCrashes_2 : decode b_Mind_lossOfAllCrashes 2 = .ok (.invokevirtual 69, 3) := by decide +kernel
theorem d_Mind_lossOfAllCrashes_5 : decode b_Mind_lossOfAllCrashes 5 = .ok (.istore_n 2, 1) := by decide +kernel
theorem d_Mind_lossOfAllCrashes_6 : decode b_Mind_lossOfAllCrashes 6 = .ok (.iconst 0, 1) := by decide +kernel
theorem d_Mind_lossOfAllCrashes_7 : decode b_Mind_lossOfAllCrashes 7 = .ok (.istore_n 3, 1) := by decide +kernel
theorem d_Mind_lossOfAllCrashes_8 : decode b_Mind_lossOfAllCrashes 8 = .ok (.iconst 0, 1) := by decide +kernel
theorem d_Mind_lossOfAllCrashes_9 : decode b_Mind_lossOfAllCrashes 9 = .ok (.istore 4, 2) := by decide +kernel
theorem d_Mind_lossOfAllCrashes_11 : decode b_Mind_lossOfAllCrashes 11 = .ok (.iload 4, 2) := by decide +kernel
theorem d_Mind_lossOfAllCrashes_13 : decode b_Mind_lossOfAllCrashes 13 = .ok (.iload_n 2, 1) := by decide +kernel
theorem d_Mind_lossOfAllCrashes_14 : decode b_Mind_lossOfAllCrashes 14 = .ok (.if_icmp .gt 24, 3) := by decide +kernel
theorem d_Mind_lossOfAllCrashes_17 : decode b_Mind_lossOfAllCrashes 17 = .ok (.aload_n 0, 1) := by decide +kernel
theorem d_Mind_lossOfAllCrashes_18 : decode b_Mind_lossOfAllCrashes 18 = .ok (.iload_n 1, 1) := by decide +kernel
theorem d_Mind_lossOfAllCrashes_19 : decode b_Mind_lossOfAllCrashes 19 = .ok (.iload 4, 2) := by decide +kernel
theorem d_Mind_lossOfAllCrashes_21 : decode b_Mind_lossOfAllCrashes 21 = .ok (.invokevirtual 60, 3) := by decide +kernel
theorem d_Mind_lossOfAllCrashes_24 : decode b_Mind_lossOfAllCrashes 24 = .ok (.iload_n 3, 1) := by decide +kernel
theorem d_Mind_lossOfAllCrashes_25 : decode b_Mind_lossOfAllCrashes 25 = .ok (.aload_n 0, 1) := by decide +kernel
theorem d_Mind_lossOfAllCrashes_26 : decode b_Mind_lossOfAllCrashes 26 = .ok (.iload_n 1, 1) := by decide +kernel
theorem d_Mind_lossOfAllCrashes_27 : decode b_Mind_lossOfAllCrashes 27 = .ok (.invokevirtual 63, 3) := by decide +kernel
theorem d_Mind_lossOfAllCrashes_30 : decode b_Mind_lossOfAllCrashes 30 = .ok (.iadd, 1) := by decide +kernel
theorem d_Mind_lossOfAllCrashes_31 : decode b_Mind_lossOfAllCrashes 31 = .ok (.istore_n 3, 1) := by decide +kernel
theorem d_Mind_lossOfAllCrashes_32 : decode b_Mind_lossOfAllCrashes 32 = .ok (.iinc 4 1, 3) := by decide +kernel
theorem d_Mind_lossOfAllCrashes_35 : decode b_Mind_lossOfAllCrashes 35 = .ok (.goto (-24), 3) := by decide +kernel
theorem d_Mind_lossOfAllCrashes_38 : decode b_Mind_lossOfAllCrashes 38 = .ok (.iload_n 3, 1) := by decide +kernel
theorem d_Mind_lossOfAllCrashes_39 : decode b_Mind_lossOfAllCrashes 39 = .ok (.ireturn, 1) := by decide +kernel
def m_Mind_lossOfAllCrashes_11 : Nat → Int → Int → Int → Int → (Int → Int) → (Int → Int) → (Int → Int) → (Int → Int) → (Int → Int) → (Int → Int) → (Int → Int) → (Int → Int) → (Int → Int) → (Int → Int) → (Int → Int) → (Int → Int) → Int → (Int → Int) → (Int → Int) → Option (Int × (Int → Int) × (Int → Int) × (Int → Int) × (Int → Int) × (Int → Int) × (Int → Int) × Int × (Int → Int) × (Int → Int))
  | 0, _, _, _, _, _, _, _, _, _, _, _, _, _, _, _, _, _, _, _ => none
  | fuel + 1, v1, v2, v3, v4, now, nbt, nki, npl, nva, nwr, tow, tbt, tki, tpl, tva, twr, trm, trs, trz =>
  cle v4 v2 (bnd (m_Mind_crashBehind v1 v4 now nbt nki npl nva nwr tow tbt tki tpl tva twr trm trs trz) (fun r3 => bnd (m_Mind_otherwiseIn v1 nbt npl nva nwr r3.2.1 r3.2.2.2.1 r3.2.2.2.2.1 r3.2.2.2.2.2.1) (fun r5 => m_Mind_lossOfAllCrashes_11 fuel v1 v2 (v3 + r5) (v4 + 1) now nbt nki npl nva nwr r3.1 r3.2.1 r3.2.2.1 r3.2.2.2.1 r3.2.2.2.2.1 r3.2.2.2.2.2.1 r3.2.2.2.2.2.2.1 r3.2.2.2.2.2.2.2.1 r3.2.2.2.2.2.2.2.2))) (some (v3, tow, tbt, tki, tpl, tva, twr, trm, trs, trz))
def m_Mind_lossOfAllCrashes (x1 : Int) (now : Int → Int) (nbt : Int → Int) (nki : Int → Int) (npl : Int → Int) (nva : Int → Int) (nwr : Int → Int) (tow : Int → Int) (tbt : Int → Int) (tki : Int → Int) (tpl : Int → Int) (tva : Int → Int) (twr : Int → Int) (trm : Int) (trs : Int → Int) (trz : Int → Int) : Option (Int × (Int → Int) × (Int → Int) × (Int → Int) × (Int → Int) × (Int → Int) × (Int → Int) × Int × (Int → Int) × (Int → Int)) :=
  bnd (m_Mind_stepsOf x1 now nbt nki npl nva nwr tow tbt tki tpl tva twr trm trs trz) (fun r1 => m_Mind_lossOfAllCrashes_11 5000 x1 r1.1 0 0 now nbt nki npl nva nwr r1.2.1 r1.2.2.1 r1.2.2.2.1 r1.2.2.2.2.1 r1.2.2.2.2.2.1 r1.2.2.2.2.2.2.1 r1.2.2.2.2.2.2.2.1 r1.2.2.2.2.2.2.2.2.1 r1.2.2.2.2.2.2.2.2.2)
set_option maxHeartbeats 4000000 in
set_option maxRecDepth 100000 in
theorem l_Mind_lossOfAllCrashes_11 {G : GT} {l : Launch} {D : va_G} {cI cB : ClassId} {a0 a1 a2 a3 a4 a5 a6 a7 a8 a9 a10 a11 a12 a13 a14 a15 a16 a17 a18 a19 a20 : Nat} {seed : Int} {nrm : Int} {nrs : Int → Int} {nrz : Int → Int} (X : Cx G l D cI cB b_Mind_lossOfAllCrashes y_Mind_lossOfAllCrashes.cls 5 { frames := 5, cells := 0, slots := 0, locals := 125 }) : ∀ (fuel : Nat) (v1 : Int) (v2 : Int) (v3 : Int) (v4 : Int) (now : Int → Int) (nbt : Int → Int) (nki : Int → Int) (npl : Int → Int) (nva : Int → Int) (nwr : Int → Int) (tow : Int → Int) (tbt : Int → Int) (tki : Int → Int) (tpl : Int → Int) (tva : Int → Int) (twr : Int → Int) (trm : Int) (trs : Int → Int) (trz : Int → Int) (o : Int × (Int → Int) × (Int → Int) × (Int → Int) × (Int → Int) × (Int → Int) × (Int → Int) × Int × (Int → Int) × (Int → Int)), m_Mind_lossOfAllCrashes_11 fuel v1 v2 v3 v4 now nbt nki npl nva nwr tow tbt tki tpl tva twr trm trs trz = some o → Rt G (some .int) (some (.int (zi o.1))) (w_Mind cI cB a0 a1 a2 a3 a4 a5 a6 a7 a8 a9 a10 a11 a12 a13 a14 a15 a16 a17 a18 a19 a20 seed now nbt nki npl nva nwr nrm nrs nrz o.2.1 o.2.2.1 o.2.2.2.1 o.2.2.2.2.1 o.2.2.2.2.2.1 o.2.2.2.2.2.2.1 o.2.2.2.2.2.2.2.1 o.2.2.2.2.2.2.2.2.1 o.2.2.2.2.2.2.2.2.2) → Wx G 0 0 11 [(0, .ref a0), (1, .int (zi v1)), (2, .int (zi v2)), (3, .int (zi v3)), (4, .int (zi v4))] [] (w_Mind cI cB a0 a1 a2 a3 a4 a5 a6 a7 a8 a9 a10 a11 a12 a13 a14 a15 a16 a17 a18 a19 a20 seed now nbt nki npl nva nwr nrm nrs nrz tow tbt tki tpl tva twr trm trs trz) := by
  intro fuel
  induction fuel with
  | zero =>
    intro v1 v2 v3 v4 now nbt nki npl nva nwr tow tbt tki tpl tva twr trm trs trz o h
    exact absurd h (by simp [m_Mind_lossOfAllCrashes_11])
  | succ fuel ih =>
    intro v1 v2 v3 v4 now nbt nki npl nva nwr tow tbt tki tpl tva twr trm trs trz o h hR
    rw [m_Mind_lossOfAllCrashes_11] at h
    refine x_iload (pc := 11) X d_Mind_lossOfAllCrashes_11 4 rfl ?_
    refine x_iload_n (pc := 13) X d_Mind_lossOfAllCrashes_13 2 rfl rfl ?_
    refine x_icmpgt (pc := 14) (tgt := 38) X d_Mind_lossOfAllCrashes_14 rfl h (fun h => ?_) (fun h => ?_)
    · skip
      refine x_iload_n (pc := 38) X d_Mind_lossOfAllCrashes_38 3 rfl rfl ?_
      cases h
      exact x_iret (pc := 39) X hR d_Mind_lossOfAllCrashes_39
    · skip
      refine x_aload_n (pc := 17) X d_Mind_lossOfAllCrashes_17 0 rfl rfl ?_
      refine x_iload_n (pc := 18) X d_Mind_lossOfAllCrashes_18 1 rfl rfl ?_
      refine x_iload (pc := 19) X d_Mind_lossOfAllCrashes_19 4 rfl ?_
      obtain ⟨r3, h4, h⟩ := bnd_e h
      refine x_callV (pc := 21) (As := [.int (zi v1), .int (zi v4)]) (rest := []) (w2 := (w_Mind cI cB a0 a1 a2 a3 a4 a5 a6 a7 a8 a9 a10 a11 a12 a13 a14 a15 a16 a17 a18 a19 a20 seed now nbt nki npl nva nwr nrm nrs nrz r3.1 r3.2.1 r3.2.2.1 r3.2.2.2.1 r3.2.2.2.2.1 r3.2.2.2.2.2.1 r3.2.2.2.2.2.2.1 r3.2.2.2.2.2.2.2.1 r3.2.2.2.2.2.2.2.2)) X d_Mind_lossOfAllCrashes_21 lk_Mind_60 mv_Mind_crashBehind (c_Mind_crashBehind l D cI cB a0 a1 a2 a3 a4 a5 a6 a7 a8 a9 a10 a11 a12 a13 a14 a15 a16 a17 a18 a19 a20 seed now nbt nki npl nva nwr nrm nrs nrz tow tbt tki tpl tva twr trm trs trz v1 v4 h4) ⟨(Nat.le_of_ble_eq_true rfl), (Nat.le_of_ble_eq_true rfl), (Nat.le_of_ble_eq_true rfl), (Nat.le_of_ble_eq_true rfl)⟩ 0 rfl rfl [0, 1, 2, 3, 4, 5, 6, 7, 8, 9, 10, 11, 12, 13, 14, 15, 16, 17, 18, 19, 20] rfl rfl rfl (Up.of [] [] rfl rfl rfl 21 rfl (by decide +kernel)) rfl rfl (Nat.le_of_ble_eq_true rfl) ?_
      refine x_iload_n (pc := 24) X d_Mind_lossOfAllCrashes_24 3 rfl rfl ?_
      refine x_aload_n (pc := 25) X d_Mind_lossOfAllCrashes_25 0 rfl rfl ?_
      refine x_iload_n (pc := 26) X d_Mind_lossOfAllCrashes_26 1 rfl rfl ?_
      obtain ⟨r5, h6, h⟩ := bnd_e h
      refine x_callV (pc := 27) (As := [.int (zi v1)]) (rest := [.int (zi v3)]) (w2 := (w_Mind cI cB a0 a1 a2 a3 a4 a5 a6 a7 a8 a9 a10 a11 a12 a13 a14 a15 a16 a17 a18 a19 a20 seed now nbt nki npl nva nwr nrm nrs nrz r3.1 r3.2.1 r3.2.2.1 r3.2.2.2.1 r3.2.2.2.2.1 r3.2.2.2.2.2.1 r3.2.2.2.2.2.2.1 r3.2.2.2.2.2.2.2.1 r3.2.2.2.2.2.2.2.2)) X d_Mind_lossOfAllCrashes_27 lk_Mind_63 mv_Mind_otherwiseIn (c_Mind_otherwiseIn l D cI cB a0 a1 a2 a3 a4 a5 a6 a7 a8 a9 a10 a11 a12 a13 a14 a15 a16 a17 a18 a19 a20 seed now nbt nki npl nva nwr nrm nrs nrz r3.1 r3.2.1 r3.2.2.1 r3.2.2.2.1 r3.2.2.2.2.1 r3.2.2.2.2.2.1 r3.2.2.2.2.2.2.1 r3.2.2.2.2.2.2.2.1 r3.2.2.2.2.2.2.2.2 v1 h6) ⟨(Nat.le_of_ble_eq_true rfl), (Nat.le_of_ble_eq_true rfl), (Nat.le_of_ble_eq_true rfl), (Nat.le_of_ble_eq_true rfl)⟩ 0 rfl rfl [0, 1, 2, 3, 4, 5, 6, 7, 8, 9, 10, 11, 12, 13, 14, 15, 16, 17, 18, 19, 20] rfl rfl rfl (Up.same rfl) rfl rfl (Nat.le_of_ble_eq_true rfl) ?_
      refine x_iadd (pc := 30) X d_Mind_lossOfAllCrashes_30  ?_
      refine x_istore_n (pc := 31) (ls2 := [(3, .int (zi (v3 + r5))), (0, .ref a0), (1, .int (zi v1)), (2, .int (zi v2)), (4, .int (zi v4))]) X d_Mind_lossOfAllCrashes_31 rfl (Nat.le_of_ble_eq_true rfl) rfl ?_
      refine x_iinc (pc := 32) (ls2 := [(4, .int (zi (v4 + 1))), (3, .int (zi (v3 + r5))), (0, .ref a0), (1, .int (zi v1)), (2, .int (zi v2))]) X d_Mind_lossOfAllCrashes_32 4 (Nat.le_of_ble_eq_true rfl) rfl rfl ?_
      refine x_goto (pc := 35) (tgt := 11) X d_Mind_lossOfAllCrashes_35 rfl ?_
      refine x_ls (ls2 := [(0, .ref a0), (1, .int (zi v1)), (2, .int (zi v2)), (3, .int (zi (v3 + r5))), (4, .int (zi (v4 + 1)))]) [2, 3, 4, 1, 0] rfl ?_
      exact ih v1 v2 (v3 + r5) (v4 + 1) now nbt nki npl nva nwr r3.1 r3.2.1 r3.2.2.1 r3.2.2.2.1 r3.2.2.2.2.1 r3.2.2.2.2.2.1 r3.2.2.2.2.2.2.1 r3.2.2.2.2.2.2.2.1 r3.2.2.2.2.2.2.2.2 o h hR
set_option maxHeartbeats 4000000 in
set_option maxRecDepth 100000 in
theorem c_Mind_lossOfAllCrashes (l : Launch) (D : va_G) (cI cB : ClassId) (a0 a1 a2 a3 a4 a5 a6 a7 a8 a9 a10 a11 a12 a13 a14 a15 a16 a17 a18 a19 a20 : Nat) (seed : Int) (now : Int → Int) (nbt : Int → Int) (nki : Int → Int) (npl : Int → Int) (nva : Int → Int) (nwr : Int → Int) (nrm : Int) (nrs : Int → Int) (nrz : Int → Int) (tow : Int → Int) (tbt : Int → Int) (tki : Int → Int) (tpl : Int → Int) (tva : Int → Int) (twr : Int → Int) (trm : Int) (trs : Int → Int) (trz : Int → Int) (x1 : Int) {o : Int × (Int → Int) × (Int → Int) × (Int → Int) × (Int → Int) × (Int → Int) × (Int → Int) × Int × (Int → Int) × (Int → Int)} (h : m_Mind_lossOfAllCrashes x1 now nbt nki npl nva nwr tow tbt tki tpl tva twr trm trs trz = some o) : Ct l D cI cB y_Mind_lossOfAllCrashes b_Mind_lossOfAllCrashes 5 (some .int) { frames := 5, cells := 0, slots := 0, locals := 125 } [.ref a0, .int (zi x1)] (w_Mind cI cB a0 a1 a2 a3 a4 a5 a6 a7 a8 a9 a10 a11 a12 a13 a14 a15 a16 a17 a18 a19 a20 seed now nbt nki npl nva nwr nrm nrs nrz tow tbt tki tpl tva twr trm trs trz) (w_Mind cI cB a0 a1 a2 a3 a4 a5 a6 a7 a8 a9 a10 a11 a12 a13 a14 a15 a16 a17 a18 a19 a20 seed now nbt nki npl nva nwr nrm nrs nrz o.2.1 o.2.2.1 o.2.2.2.1 o.2.2.2.2.1 o.2.2.2.2.2.1 o.2.2.2.2.2.2.1 o.2.2.2.2.2.2.2.1 o.2.2.2.2.2.2.2.2.1 o.2.2.2.2.2.2.2.2.2) (some (.int (zi o.1))) := by
  refine Ct.start (by decide) (Nat.le_of_ble_eq_true rfl) (fun G X hR => ?_)
  refine x_ls (ls2 := [(0, .ref a0), (1, .int (zi x1))]) [0, 1] rfl ?_
  unfold m_Mind_lossOfAllCrashes at h
  refine x_aload_n (pc := 0) X d_Mind_lossOfAllCrashes_0 0 rfl rfl ?_
  refine x_iload_n (pc := 1) X d_Mind_lossOfAllCrashes_1 1 rfl rfl ?_
  obtain ⟨r1, h2, h⟩ := bnd_e h
  refine x_callV (pc := 2) (As := [.int (zi x1)]) (rest := []) (w2 := (w_Mind cI cB a0 a1 a2 a3 a4 a5 a6 a7 a8 a9 a10 a11 a12 a13 a14 a15 a16 a17 a18 a19 a20 seed now nbt nki npl nva nwr nrm nrs nrz r1.2.1 r1.2.2.1 r1.2.2.2.1 r1.2.2.2.2.1 r1.2.2.2.2.2.1 r1.2.2.2.2.2.2.1 r1.2.2.2.2.2.2.2.1 r1.2.2.2.2.2.2.2.2.1 r1.2.2.2.2.2.2.2.2.2)) X d_Mind_lossOfAllCrashes_2 lk_Mind_69 mv_Mind_stepsOf (c_Mind_stepsOf l D cI cB a0 a1 a2 a3 a4 a5 a6 a7 a8 a9 a10 a11 a12 a13 a14 a15 a16 a17 a18 a19 a20 seed now nbt nki npl nva nwr nrm nrs nrz tow tbt tki tpl tva twr trm trs trz x1 h2) ⟨(Nat.le_of_ble_eq_true rfl), (Nat.le_of_ble_eq_true rfl), (Nat.le_of_ble_eq_true rfl), (Nat.le_of_ble_eq_true rfl)⟩ 0 rfl rfl [0, 1, 2, 3, 4, 5, 6, 7, 8, 9, 10, 11, 12, 13, 14, 15, 16, 17, 18, 19, 20] rfl rfl rfl (Up.of [] [] rfl rfl rfl 21 rfl (by decide +kernel)) rfl rfl (Nat.le_of_ble_eq_true rfl) ?_
  refine x_istore_n (pc := 5) (ls2 := [(2, .int (zi r1.1)), (0, .ref a0), (1, .int (zi x1))]) X d_Mind_lossOfAllCrashes_5 rfl (Nat.le_of_ble_eq_true rfl) rfl ?_
  refine x_iconst (pc := 6) X d_Mind_lossOfAllCrashes_6  ?_
  refine x_istore_n (pc := 7) (ls2 := [(3, .int (zi 0)), (2, .int (zi r1.1)), (0, .ref a0), (1, .int (zi x1))]) X d_Mind_lossOfAllCrashes_7 rfl (Nat.le_of_ble_eq_true rfl) rfl ?_
  refine x_iconst (pc := 8) X d_Mind_lossOfAllCrashes_8  ?_
  refine x_istore (pc := 9) (ls2 := [(4, .int (zi 0)), (3, .int (zi 0)), (2, .int (zi r1.1)), (0, .ref a0), (1, .int (zi x1))]) X d_Mind_lossOfAllCrashes_9 (Nat.le_of_ble_eq_true rfl) rfl ?_
  refine x_ls (ls2 := [(0, .ref a0), (1, .int (zi x1)), (2, .int (zi r1.1)), (3, .int (zi 0)), (4, .int (zi 0))]) [3, 4, 2, 1, 0] rfl ?_
  exact l_Mind_lossOfAllCrashes_11 X 5000 x1 r1.1 0 0 now nbt nki npl nva nwr r1.2.1 r1.2.2.1 r1.2.2.2.1 r1.2.2.2.2.1 r1.2.2.2.2.2.1 r1.2.2.2.2.2.2.1 r1.2.2.2.2.2.2.2.1 r1.2.2.2.2.2.2.2.2.1 r1.2.2.2.2.2.2.2.2.2 o h hR
theorem d_Mind_crashesThatKeep_0 : decode b_Mind_crashesThatKeep 0 = .ok (.aload_n 0, 1) := by decide +kernel
theorem d_Mind_crashesThatKeep_1 : decode b_Mind_crashesThatKeep 1 = .ok (.iload_n 1, 1) := by decide +kernel
theorem d_Mind_crashesThatKeep_2 : decode b_Mind_crashesThatKeep 2 = .ok (.invokevirtual 69, 3) := by decide +kernel
theorem d_Mind_crashesThatKeep_5 : decode b_Mind_crashesThatKeep 5 = .ok (.istore_n 3, 1) := by decide +kernel
theorem d_Mind_crashesThatKeep_6 : decode b_Mind_crashesThatKeep 6 = .ok (.iconst 0, 1) := by decide +kernel
theorem d_Mind_crashesThatKeep_7 : decode b_Mind_crashesThatKeep 7 = .ok (.istore 4, 2) := by decide +kernel
theorem d_Mind_crashesThatKeep_9 : decode b_Mind_crashesThatKeep 9 = .ok (.iconst 0, 1) := by decide +kernel
theorem d_Mind_crashesThatKeep_10 : decode b_Mind_crashesThatKeep 10 = .ok (.istore 5, 2) := by decide +kernel
theorem d_Mind_crashesThatKeep_12 : decode b_Mind_crashesThatKeep 12 = .ok (.iload 5, 2) := by decide +kernel
theorem d_Mind_crashesThatKeep_14 : decode b_Mind_crashesThatKeep 14 = .ok (.iload_n 3, 1) := by decide +kernel
theorem d_Mind_crashesThatKeep_15 : decode b_Mind_crashesThatKeep 15 = .ok (.if_icmp .gt 40, 3) := by decide +kernel
theorem d_Mind_crashesThatKeep_18 : decode b_Mind_crashesThatKeep 18 = .ok (.aload_n 0, 1) := by decide +kernel
theorem d_Mind_crashesThatKeep_19 : decode b_Mind_crashesThatKeep 19 = .ok (.iload_n 1, 1) := by decide +kernel
theorem d_Mind_crashesThatKeep_20 : decode b_Mind_crashesThatKeep 20 = .ok (.iload 5, 2) := by decide +kernel
theorem d_Mind_crashesThatKeep_22 : decode b_Mind_crashesThatKeep 22 = .ok (.invokevirtual 60, 3) := by decide +kernel
theorem d_Mind_crashesThatKeep_25 : decode b_Mind_crashesThatKeep 25 = .ok (.aload_n 0, 1) := by decide +kernel
theorem d_Mind_crashesThatKeep_26 : decode b_Mind_crashesThatKeep 26 = .ok (.getfield 9, 3) := by decide +kernel
theorem d_Mind_crashesThatKeep_29 : decode b_Mind_crashesThatKeep 29 = .ok (.iload_n 1, 1) := by decide +kernel
theorem d_Mind_crashesThatKeep_30 : decode b_Mind_crashesThatKeep 30 = .ok (.iload_n 2, 1) := by decide +kernel
theorem d_Mind_crashesThatKeep_31 : decode b_Mind_crashesThatKeep 31 = .ok (.invokevirtual 66, 3) := by decide +kernel
theorem d_Mind_crashesThatKeep_34 : decode b_Mind_crashesThatKeep 34 = .ok (.aload_n 0, 1) := by decide +kernel
theorem d_Mind_crashesThatKeep_35 : decode b_Mind_crashesThatKeep 35 = .ok (.getfield 15, 3) := by decide +kernel
theorem d_Mind_crashesThatKeep_38 : decode b_Mind_crashesThatKeep 38 = .ok (.iload_n 1, 1) := by decide +kernel
theorem d_Mind_crashesThatKeep_39 : decode b_Mind_crashesThatKeep 39 = .ok (.iload_n 2, 1) := by decide +kernel
theorem d_Mind_crashesThatKeep_40 : decode b_Mind_crashesThatKeep 40 = .ok (.invokevirtual 66, 3) := by decide +kernel
theorem d_Mind_crashesThatKeep_43 : decode b_Mind_crashesThatKeep 43 = .ok (.if_icmp .ne 6, 3) := by decide +kernel
theorem d_Mind_crashesThatKeep_46 : decode b_Mind_crashesThatKeep 46 = .ok (.iinc 4 1, 3) := by decide +kernel
theorem d_Mind_crashesThatKeep_49 : decode b_Mind_crashesThatKeep 49 = .ok (.iinc 5 1, 3) := by decide +kernel
theorem d_Mind_crashesThatKeep_52 : decode b_Mind_crashesThatKeep 52 = .ok (.goto (-40), 3) := by decide +kernel
theorem d_Mind_crashesThatKeep_55 : decode b_Mind_crashesThatKeep 55 = .ok (.iload 4, 2) := by decide +kernel
theorem d_Mind_crashesThatKeep_57 : decode b_Mind_crashesThatKeep 57 = .ok (.ireturn, 1) := by decide +kernel
def m_Mind_crashesThatKeep_12 : Nat → Int → Int → Int → Int → Int → (Int → Int) → (Int → Int) → (Int → Int) → (Int → Int) → (Int → Int) → (Int → Int) → (Int → Int) → (Int → Int) → (Int → Int) → (Int → Int) → (Int → Int) → (Int → Int) → Int → (Int → Int) → (Int → Int) → Option (Int × (Int → Int) × (Int → Int) × (Int → Int) × (Int → Int) × (Int → Int) × (Int → Int) × Int × (Int → Int) × (Int → Int))
  | 0, _, _, _, _, _, _, _, _, _, _, _, _, _, _, _, _, _, _, _, _ => none
  | fuel + 1, v1, v2, v3, v4, v5, now, nbt, nki, npl, nva, nwr, tow, tbt, tki, tpl, tva, twr, trm, trs, trz =>
  cle v5 v3 (bnd (m_Mind_crashBehind v1 v5 now nbt nki npl nva nwr tow tbt tki tpl tva twr trm trs trz) (fun r3 => bnd (m_Disk_readAt v1 v2 nbt npl nva nwr) (fun r5 => bnd (m_Disk_readAt v1 v2 r3.2.1 r3.2.2.2.1 r3.2.2.2.2.1 r3.2.2.2.2.2.1) (fun r7 => ceq r5 r7 (m_Mind_crashesThatKeep_12 fuel v1 v2 v3 (v4 + 1) (v5 + 1) now nbt nki npl nva nwr r3.1 r3.2.1 r3.2.2.1 r3.2.2.2.1 r3.2.2.2.2.1 r3.2.2.2.2.2.1 r3.2.2.2.2.2.2.1 r3.2.2.2.2.2.2.2.1 r3.2.2.2.2.2.2.2.2) (m_Mind_crashesThatKeep_12 fuel v1 v2 v3 v4 (v5 + 1) now nbt nki npl nva nwr r3.1 r3.2.1 r3.2.2.1 r3.2.2.2.1 r3.2.2.2.2.1 r3.2.2.2.2.2.1 r3.2.2.2.2.2.2.1 r3.2.2.2.2.2.2.2.1 r3.2.2.2.2.2.2.2.2))))) (some (v4, tow, tbt, tki, tpl, tva, twr, trm, trs, trz))
def m_Mind_crashesThatKeep (x1 : Int) (x2 : Int) (now : Int → Int) (nbt : Int → Int) (nki : Int → Int) (npl : Int → Int) (nva : Int → Int) (nwr : Int → Int) (tow : Int → Int) (tbt : Int → Int) (tki : Int → Int) (tpl : Int → Int) (tva : Int → Int) (twr : Int → Int) (trm : Int) (trs : Int → Int) (trz : Int → Int) : Option (Int × (Int → Int) × (Int → Int) × (Int → Int) × (Int → Int) × (Int → Int) × (Int → Int) × Int × (Int → Int) × (Int → Int)) :=
  bnd (m_Mind_stepsOf x1 now nbt nki npl nva nwr tow tbt tki tpl tva twr trm trs trz) (fun r1 => m_Mind_crashesThatKeep_12 5000 x1 x2 r1.1 0 0 now nbt nki npl nva nwr r1.2.1 r1.2.2.1 r1.2.2.2.1 r1.2.2.2.2.1 r1.2.2.2.2.2.1 r1.2.2.2.2.2.2.1 r1.2.2.2.2.2.2.2.1 r1.2.2.2.2.2.2.2.2.1 r1.2.2.2.2.2.2.2.2.2)
set_option maxHeartbeats 4000000 in
set_option maxRecDepth 100000 in
theorem l_Mind_crashesThatKeep_12 {G : GT} {l : Launch} {D : va_G} {cI cB : ClassId} {a0 a1 a2 a3 a4 a5 a6 a7 a8 a9 a10 a11 a12 a13 a14 a15 a16 a17 a18 a19 a20 : Nat} {seed : Int} {nrm : Int} {nrs : Int → Int} {nrz : Int → Int} (X : Cx G l D cI cB b_Mind_crashesThatKeep y_Mind_crashesThatKeep.cls 6 { frames := 5, cells := 0, slots := 0, locals := 125 }) : ∀ (fuel : Nat) (v1 : Int) (v2 : Int) (v3 : Int) (v4 : Int) (v5 : Int) (now : Int → Int) (nbt : Int → Int) (nki : Int → Int) (npl : Int → Int) (nva : Int → Int) (nwr : Int → Int) (tow : Int → Int) (tbt : Int → Int) (tki : Int → Int) (tpl : Int → Int) (tva : Int → Int) (twr : Int → Int) (trm : Int) (trs : Int → Int) (trz : Int → Int) (o : Int × (Int → Int) × (Int → Int) × (Int → Int) × (Int → Int) × (Int → Int) × (Int → Int) × Int × (Int → Int) × (Int → Int)), m_Mind_crashesThatKeep_12 fuel v1 v2 v3 v4 v5 now nbt nki npl nva nwr tow tbt tki tpl tva twr trm trs trz = some o → Rt G (some .int) (some (.int (zi o.1))) (w_Mind cI cB a0 a1 a2 a3 a4 a5 a6 a7 a8 a9 a10 a11 a12 a13 a14 a15 a16 a17 a18 a19 a20 seed now nbt nki npl nva nwr nrm nrs nrz o.2.1 o.2.2.1 o.2.2.2.1 o.2.2.2.2.1 o.2.2.2.2.2.1 o.2.2.2.2.2.2.1 o.2.2.2.2.2.2.2.1 o.2.2.2.2.2.2.2.2.1 o.2.2.2.2.2.2.2.2.2) → Wx G 0 0 12 [(0, .ref a0), (1, .int (zi v1)), (2, .int (zi v2)), (3, .int (zi v3)), (4, .int (zi v4)), (5, .int (zi v5))] [] (w_Mind cI cB a0 a1 a2 a3 a4 a5 a6 a7 a8 a9 a10 a11 a12 a13 a14 a15 a16 a17 a18 a19 a20 seed now nbt nki npl nva nwr nrm nrs nrz tow tbt tki tpl tva twr trm trs trz) := by
  intro fuel
  induction fuel with
  | zero =>
    intro v1 v2 v3 v4 v5 now nbt nki npl nva nwr tow tbt tki tpl tva twr trm trs trz o h
    exact absurd h (by simp [m_Mind_crashesThatKeep_12])
  | succ fuel ih =>
    intro v1 v2 v3 v4 v5 now nbt nki npl nva nwr tow tbt tki tpl tva twr trm trs trz o h hR
    rw [m_Mind_crashesThatKeep_12] at h
    refine x_iload (pc := 12) X d_Mind_crashesThatKeep_12 5 rfl ?_
    refine x_iload_n (pc := 14) X d_Mind_crashesThatKeep_14 3 rfl rfl ?_
    refine x_icmpgt (pc := 15) (tgt := 55) X d_Mind_crashesThatKeep_15 rfl h (fun h => ?_) (fun h => ?_)
    · skip
      refine x_iload (pc := 55) X d_Mind_crashesThatKeep_55 4 rfl ?_
      cases h
      exact x_iret (pc := 57) X hR d_Mind_crashesThatKeep_57
    · skip
      refine x_aload_n (pc := 18) X d_Mind_crashesThatKeep_18 0 rfl rfl ?_
      refine x_iload_n (pc := 19) X d_Mind_crashesThatKeep_19 1 rfl rfl ?_
      refine x_iload (pc := 20) X d_Mind_crashesThatKeep_20 5 rfl ?_
      obtain ⟨r3, h4, h⟩ := bnd_e h
      refine x_callV (pc := 22) (As := [.int (zi v1), .int (zi v5)]) (rest := []) (w2 := (w_Mind cI cB a0 a1 a2 a3 a4 a5 a6 a7 a8 a9 a10 a11 a12 a13 a14 a15 a16 a17 a18 a19 a20 seed now nbt nki npl nva nwr nrm nrs nrz r3.1 r3.2.1 r3.2.2.1 r3.2.2.2.1 r3.2.2.2.2.1 r3.2.2.2.2.2.1 r3.2.2.2.2.2.2.1 r3.2.2.2.2.2.2.2.1 r3.2.2.2.2.2.2.2.2)) X d_Mind_crashesThatKeep_22 lk_Mind_60 mv_Mind_crashBehind (c_Mind_crashBehind l D cI cB a0 a1 a2 a3 a4 a5 a6 a7 a8 a9 a10 a11 a12 a13 a14 a15 a16 a17 a18 a19 a20 seed now nbt nki npl nva nwr nrm nrs nrz tow tbt tki tpl tva twr trm trs trz v1 v5 h4) ⟨(Nat.le_of_ble_eq_true rfl), (Nat.le_of_ble_eq_true rfl), (Nat.le_of_ble_eq_true rfl), (Nat.le_of_ble_eq_true rfl)⟩ 0 rfl rfl [0, 1, 2, 3, 4, 5, 6, 7, 8, 9, 10, 11, 12, 13, 14, 15, 16, 17, 18, 19, 20] rfl rfl rfl (Up.of [] [] rfl rfl rfl 21 rfl (by decide +kernel)) rfl rfl (Nat.le_of_ble_eq_true rfl) ?_
      refine x_aload_n (pc := 25) X d_Mind_crashesThatKeep_25 0 rfl rfl ?_
      refine x_get (pc := 26) X d_Mind_crashesThatKeep_26 0 rfl fl_Mind_9 rfl ?_
      refine x_iload_n (pc := 29) X d_Mind_crashesThatKeep_29 1 rfl rfl ?_
      refine x_iload_n (pc := 30) X d_Mind_crashesThatKeep_30 2 rfl rfl ?_
      obtain ⟨r5, h6, h⟩ := bnd_e h
      refine x_callV (pc := 31) (As := [.int (zi v1), .int (zi v2)]) (rest := []) (w2 := (w_Mind cI cB a0 a1 a2 a3 a4 a5 a6 a7 a8 a9 a10 a11 a12 a13 a14 a15 a16 a17 a18 a19 a20 seed now nbt nki npl nva nwr nrm nrs nrz r3.1 r3.2.1 r3.2.2.1 r3.2.2.2.1 r3.2.2.2.2.1 r3.2.2.2.2.2.1 r3.2.2.2.2.2.2.1 r3.2.2.2.2.2.2.2.1 r3.2.2.2.2.2.2.2.2)) X d_Mind_crashesThatKeep_31 lk_Mind_66 mv_Disk_readAt (c_Disk_readAt l D cI cB a1 a2 a3 a4 a5 a6 a7 a8 a9 a10 now nbt nki npl nva nwr nrm nrs nrz v1 v2 h6) ⟨(Nat.le_of_ble_eq_true rfl), (Nat.le_of_ble_eq_true rfl), (Nat.le_of_ble_eq_true rfl), (Nat.le_of_ble_eq_true rfl)⟩ 1 rfl rfl [1, 2, 3, 4, 5, 6, 7, 8, 9, 10] rfl rfl rfl (Up.same rfl) rfl rfl (Nat.le_of_ble_eq_true rfl) ?_
      refine x_aload_n (pc := 34) X d_Mind_crashesThatKeep_34 0 rfl rfl ?_
      refine x_get (pc := 35) X d_Mind_crashesThatKeep_35 0 rfl fl_Mind_15 rfl ?_
      refine x_iload_n (pc := 38) X d_Mind_crashesThatKeep_38 1 rfl rfl ?_
      refine x_iload_n (pc := 39) X d_Mind_crashesThatKeep_39 2 rfl rfl ?_
      obtain ⟨r7, h8, h⟩ := bnd_e h
      refine x_callV (pc := 40) (As := [.int (zi v1), .int (zi v2)]) (rest := [.int (zi r5)]) (w2 := (w_Mind cI cB a0 a1 a2 a3 a4 a5 a6 a7 a8 a9 a10 a11 a12 a13 a14 a15 a16 a17 a18 a19 a20 seed now nbt nki npl nva nwr nrm nrs nrz r3.1 r3.2.1 r3.2.2.1 r3.2.2.2.1 r3.2.2.2.2.1 r3.2.2.2.2.2.1 r3.2.2.2.2.2.2.1 r3.2.2.2.2.2.2.2.1 r3.2.2.2.2.2.2.2.2)) X d_Mind_crashesThatKeep_40 lk_Mind_66 mv_Disk_readAt (c_Disk_readAt l D cI cB a11 a12 a13 a14 a15 a16 a17 a18 a19 a20 r3.1 r3.2.1 r3.2.2.1 r3.2.2.2.1 r3.2.2.2.2.1 r3.2.2.2.2.2.1 r3.2.2.2.2.2.2.1 r3.2.2.2.2.2.2.2.1 r3.2.2.2.2.2.2.2.2 v1 v2 h8) ⟨(Nat.le_of_ble_eq_true rfl), (Nat.le_of_ble_eq_true rfl), (Nat.le_of_ble_eq_true rfl), (Nat.le_of_ble_eq_true rfl)⟩ 11 rfl rfl [11, 12, 13, 14, 15, 16, 17, 18, 19, 20] rfl rfl rfl (Up.same rfl) rfl rfl (Nat.le_of_ble_eq_true rfl) ?_
      refine x_icmpne (pc := 43) (tgt := 49) X d_Mind_crashesThatKeep_43 rfl h (fun h => ?_) (fun h => ?_)
      · skip
        refine x_iinc (pc := 49) (ls2 := [(5, .int (zi (v5 + 1))), (0, .ref a0), (1, .int (zi v1)), (2, .int (zi v2)), (3, .int (zi v3)), (4, .int (zi v4))]) X d_Mind_crashesThatKeep_49 5 (Nat.le_of_ble_eq_true rfl) rfl rfl ?_
        refine x_goto (pc := 52) (tgt := 12) X d_Mind_crashesThatKeep_52 rfl ?_
        refine x_ls (ls2 := [(0, .ref a0), (1, .int (zi v1)), (2, .int (zi v2)), (3, .int (zi v3)), (4, .int (zi v4)), (5, .int (zi (v5 + 1)))]) [1, 2, 3, 4, 5, 0] rfl ?_
        exact ih v1 v2 v3 v4 (v5 + 1) now nbt nki npl nva nwr r3.1 r3.2.1 r3.2.2.1 r3.2.2.2.1 r3.2.2.2.2.1 r3.2.2.2.2.2.1 r3.2.2.2.2.2.2.1 r3.2.2.2.2.2.2.2.1 r3.2.2.2.2.2.2.2.2 o h hR
      · skip
        refine x_iinc (pc := 46) (ls2 := [(4, .int (zi (v4 + 1))), (0, .ref a0), (1, .int (zi v1)), (2, .int (zi v2)), (3, .int (zi v3)), (5, .int (zi v5))]) X d_Mind_crashesThatKeep_46 4 (Nat.le_of_ble_eq_true rfl) rfl rfl ?_
        refine x_iinc (pc := 49) (ls2 := [(5, .int (zi (v5 + 1))), (4, .int (zi (v4 + 1))), (0, .ref a0), (1, .int (zi v1)), (2, .int (zi v2)), (3, .int (zi v3))]) X d_Mind_crashesThatKeep_49 5 (Nat.le_of_ble_eq_true rfl) rfl rfl ?_
        refine x_goto (pc := 52) (tgt := 12) X d_Mind_crashesThatKeep_52 rfl ?_
        refine x_ls (ls2 := [(0, .ref a0), (1, .int (zi v1)), (2, .int (zi v2)), (3, .int (zi v3)), (4, .int (zi (v4 + 1))), (5, .int (zi (v5 + 1)))]) [2, 3, 4, 5, 1, 0] rfl ?_
        exact ih v1 v2 v3 (v4 + 1) (v5 + 1) now nbt nki npl nva nwr r3.1 r3.2.1 r3.2.2.1 r3.2.2.2.1 r3.2.2.2.2.1 r3.2.2.2.2.2.1 r3.2.2.2.2.2.2.1 r3.2.2.2.2.2.2.2.1 r3.2.2.2.2.2.2.2.2 o h hR
set_option maxHeartbeats 4000000 in
set_option maxRecDepth 100000 in
theorem c_Mind_crashesThatKeep (l : Launch) (D : va_G) (cI cB : ClassId) (a0 a1 a2 a3 a4 a5 a6 a7 a8 a9 a10 a11 a12 a13 a14 a15 a16 a17 a18 a19 a20 : Nat) (seed : Int) (now : Int → Int) (nbt : Int → Int) (nki : Int → Int) (npl : Int → Int) (nva : Int → Int) (nwr : Int → Int) (nrm : Int) (nrs : Int → Int) (nrz : Int → Int) (tow : Int → Int) (tbt : Int → Int) (tki : Int → Int) (tpl : Int → Int) (tva : Int → Int) (twr : Int → Int) (trm : Int) (trs : Int → Int) (trz : Int → Int) (x1 : Int) (x2 : Int) {o : Int × (Int → Int) × (Int → Int) × (Int → Int) × (Int → Int) × (Int → Int) × (Int → Int) × Int × (Int → Int) × (Int → Int)} (h : m_Mind_crashesThatKeep x1 x2 now nbt nki npl nva nwr tow tbt tki tpl tva twr trm trs trz = some o) : Ct l D cI cB y_Mind_crashesThatKeep b_Mind_crashesThatKeep 6 (some .int) { frames := 5, cells := 0, slots := 0, locals := 125 } [.ref a0, .int (zi x1), .int (zi x2)] (w_Mind cI cB a0 a1 a2 a3 a4 a5 a6 a7 a8 a9 a10 a11 a12 a13 a14 a15 a16 a17 a18 a19 a20 seed now nbt nki npl nva nwr nrm nrs nrz tow tbt tki tpl tva twr trm trs trz) (w_Mind cI cB a0 a1 a2 a3 a4 a5 a6 a7 a8 a9 a10 a11 a12 a13 a14 a15 a16 a17 a18 a19 a20 seed now nbt nki npl nva nwr nrm nrs nrz o.2.1 o.2.2.1 o.2.2.2.1 o.2.2.2.2.1 o.2.2.2.2.2.1 o.2.2.2.2.2.2.1 o.2.2.2.2.2.2.2.1 o.2.2.2.2.2.2.2.2.1 o.2.2.2.2.2.2.2.2.2) (some (.int (zi o.1))) := by
  refine Ct.start (by decide) (Nat.le_of_ble_eq_true rfl) (fun G X hR => ?_)
  refine x_ls (ls2 := [(0, .ref a0), (1, .int (zi x1)), (2, .int (zi x2))]) [0, 1, 2] rfl ?_
  unfold m_Mind_crashesThatKeep at h
  refine x_aload_n (pc := 0) X d_Mind_crashesThatKeep_0 0 rfl rfl ?_
  refine x_iload_n (pc := 1) X d_Mind_crashesThatKeep_1 1 rfl rfl ?_
  obtain ⟨r1, h2, h⟩ := bnd_e h
  refine x_callV (pc := 2) (As := [.int (zi x1)]) (rest := []) (w2 := (w_Mind cI cB a0 a1 a2 a3 a4 a5 a6 a7 a8 a9 a10 a11 a12 a13 a14 a15 a16 a17 a18 a19 a20 seed now nbt nki npl nva nwr nrm nrs nrz r1.2.1 r1.2.2.1 r1.2.2.2.1 r1.2.2.2.2.1 r1.2.2.2.2.2.1 r1.2.2.2.2.2.2.1 r1.2.2.2.2.2.2.2.1 r1.2.2.2.2.2.2.2.2.1 r1.2.2.2.2.2.2.2.2.2)) X d_Mind_crashesThatKeep_2 lk_Mind_69 mv_Mind_stepsOf (c_Mind_stepsOf l D cI cB a0 a1 a2 a3 a4 a5 a6 a7 a8 a9 a10 a11 a12 a13 a14 a15 a16 a17 a18 a19 a20 seed now nbt nki npl nva nwr nrm nrs nrz tow tbt tki tpl tva twr trm trs trz x1 h2) ⟨(Nat.le_of_ble_eq_true rfl), (Nat.le_of_ble_eq_true rfl), (Nat.le_of_ble_eq_true rfl), (Nat.le_of_ble_eq_true rfl)⟩ 0 rfl rfl [0, 1, 2, 3, 4, 5, 6, 7, 8, 9, 10, 11, 12, 13, 14, 15, 16, 17, 18, 19, 20] rfl rfl rfl (Up.of [] [] rfl rfl rfl 21 rfl (by decide +kernel)) rfl rfl (Nat.le_of_ble_eq_true rfl) ?_
  refine x_istore_n (pc := 5) (ls2 := [(3, .int (zi r1.1)), (0, .ref a0), (1, .int (zi x1)), (2, .int (zi x2))]) X d_Mind_crashesThatKeep_5 rfl (Nat.le_of_ble_eq_true rfl) rfl ?_
  refine x_iconst (pc := 6) X d_Mind_crashesThatKeep_6  ?_
  refine x_istore (pc := 7) (ls2 := [(4, .int (zi 0)), (3, .int (zi r1.1)), (0, .ref a0), (1, .int (zi x1)), (2, .int (zi x2))]) X d_Mind_crashesThatKeep_7 (Nat.le_of_ble_eq_true rfl) rfl ?_
  refine x_iconst (pc := 9) X d_Mind_crashesThatKeep_9  ?_
  refine x_istore (pc := 10) (ls2 := [(5, .int (zi 0)), (4, .int (zi 0)), (3, .int (zi r1.1)), (0, .ref a0), (1, .int (zi x1)), (2, .int (zi x2))]) X d_Mind_crashesThatKeep_10 (Nat.le_of_ble_eq_true rfl) rfl ?_
  refine x_ls (ls2 := [(0, .ref a0), (1, .int (zi x1)), (2, .int (zi x2)), (3, .int (zi r1.1)), (4, .int (zi 0)), (5, .int (zi 0))]) [3, 4, 5, 2, 1, 0] rfl ?_
  exact l_Mind_crashesThatKeep_12 X 5000 x1 x2 r1.1 0 0 now nbt nki npl nva nwr r1.2.1 r1.2.2.1 r1.2.2.2.1 r1.2.2.2.2.1 r1.2.2.2.2.2.1 r1.2.2.2.2.2.2.1 r1.2.2.2.2.2.2.2.1 r1.2.2.2.2.2.2.2.2.1 r1.2.2.2.2.2.2.2.2.2 o h hR
noncomputable abbrev w_Mind_W32 (cI cB : ClassId) (a0 a1 a2 a3 a4 a5 a6 a7 a8 a9 a10 a11 a12 a13 a14 a15 a16 a17 a18 a19 a20 a21 a22 : Nat) (seed : Int) (now : Int → Int) (nbt : Int → Int) (nki : Int → Int) (npl : Int → Int) (nva : Int → Int) (nwr : Int → Int) (nrm : Int) (nrs : Int → Int) (nrz : Int → Int) (tow : Int → Int) (tbt : Int → Int) (tki : Int → Int) (tpl : Int → Int) (tva : Int → Int) (twr : Int → Int) (trm : Int) (trs : Int → Int) (trz : Int → Int) (qmn : Int) (qnu : Int → Int) : va_W := [(a0, .inr (1, [.ref a1, .ref a11, .int (zi seed)])), (a1, .inr (0, [.ref a2, .ref a3, .ref a4, .ref a5, .ref a6, .ref a7, .ref a8])), (a2, zA cI 64 now), (a3, zA cI 64 nbt), (a4, zA cI 4 nki), (a5, zA cI 96 npl), (a6, zA cI 96 nva), (a7, zA cB 96 nwr), (a8, .inr (3, [.ref a9, .ref a10, .int (zi nrm)])), (a9, zA cI 32 nrs), (a10, zA cI 32 nrz), (a11, .inr (0, [.ref a12, .ref a13, .ref a14, .ref a15, .ref a16, .ref a17, .ref a18])), (a12, zA cI 64 tow), (a13, zA cI 64 tbt), (a14, zA cI 4 tki), (a15, zA cI 96 tpl), (a16, zA cI 96 tva), (a17, zA cB 96 twr), (a18, .inr (3, [.ref a19, .ref a20, .int (zi trm)])), (a19, zA cI 32 trs), (a20, zA cI 32 trz), (a21, .inr (2, [.ref a22, .int (zi qmn)])), (a22, zA cI 32 qnu)]
theorem d_Mind_comesAsTold_0 : decode b_Mind_comesAsTold 0 = .ok (.aload_n 0, 1) := by decide +kernel
theorem d_Mind_comesAsTold_1 : decode b_Mind_comesAsTold 1 = .ok (.iload_n 1, 1) := by decide +kernel
theorem d_Mind_comesAsTold_2 : decode b_Mind_comesAsTold 2 = .ok (.iload_n 2, 1) := by decide +kernel
theorem d_Mind_comesAsTold_3 : decode b_Mind_comesAsTold 3 = .ok (.invokevirtual 36, 3) := by decide +kernel
theorem d_Mind_comesAsTold_6 : decode b_Mind_comesAsTold 6 = .ok (.iconst 0, 1) := by decide +kernel
theorem d_Mind_comesAsTold_7 : decode b_Mind_comesAsTold 7 = .ok (.istore 4, 2) := by decide +kernel
theorem d_Mind_comesAsTold_9 : decode b_Mind_comesAsTold 9 = .ok (.iconst 0, 1) := by decide +kernel
theorem d_Mind_comesAsTold_10 : decode b_Mind_comesAsTold 10 = .ok (.istore 5, 2) := by decide +kernel
theorem d_Mind_comesAsTold_12 : decode b_Mind_comesAsTold 12 = .ok (.iload 5, 2) := by decide +kernel
theorem d_Mind_comesAsTold_14 : decode b_Mind_comesAsTold 14 = .ok (.bipush 24, 2) := by decide +kernel
theorem d_Mind_comesAsTold_16 : decode b_Mind_comesAsTold 16 = .ok (.if_icmp .ge 55, 3) := by decide +kernel
theorem d_Mind_comesAsTold_19 : decode b_Mind_comesAsTold 19 = .ok (.iload 4, 2) := by decide +kernel
theorem d_Mind_comesAsTold_21 : decode b_Mind_comesAsTold 21 = .ok (.aload_n 3, 1) := by decide +kernel
theorem d_Mind_comesAsTold_22 : decode b_Mind_comesAsTold 22 = .ok (.getfield 82, 3) := by decide +kernel
theorem d_Mind_comesAsTold_25 : decode b_Mind_comesAsTold 25 = .ok (.if_icmp .ge 46, 3) := by decide +kernel
theorem d_Mind_comesAsTold_28 : decode b_Mind_comesAsTold 28 = .ok (.aload_n 0, 1) := by decide +kernel
theorem d_Mind_comesAsTold_29 : decode b_Mind_comesAsTold 29 = .ok (.getfield 9, 3) := by decide +kernel
theorem d_Mind_comesAsTold_32 : decode b_Mind_comesAsTold 32 = .ok (.iload_n 1, 1) := by decide +kernel
theorem d_Mind_comesAsTold_33 : decode b_Mind_comesAsTold 33 = .ok (.iload 5, 2) := by decide +kernel
theorem d_Mind_comesAsTold_35 : decode b_Mind_comesAsTold 35 = .ok (.invokevirtual 87, 3) := by decide +kernel
theorem d_Mind_comesAsTold_38 : decode b_Mind_comesAsTold 38 = .ok (.ifCond .eq 27, 3) := by decide +kernel
theorem d_Mind_comesAsTold_41 : decode b_Mind_comesAsTold 41 = .ok (.aload_n 0, 1) := by decide +kernel
theorem d_Mind_comesAsTold_42 : decode b_Mind_comesAsTold 42 = .ok (.getfield 15, 3) := by decide +kernel
theorem d_Mind_comesAsTold_45 : decode b_Mind_comesAsTold 45 = .ok (.iload_n 1, 1) := by decide +kernel
theorem d_Mind_comesAsTold_46 : decode b_Mind_comesAsTold 46 = .ok (.iload 5, 2) := by decide +kernel
theorem d_Mind_comesAsTold_48 : decode b_Mind_comesAsTold 48 = .ok (.invokevirtual 91, 3) := by decide +kernel
theorem d_Mind_comesAsTold_51 : decode b_Mind_comesAsTold 51 = .ok (.aload_n 3, 1) := by decide +kernel
theorem d_Mind_comesAsTold_52 : decode b_Mind_comesAsTold 52 = .ok (.iload 4, 2) := by decide +kernel
theorem d_Mind_comesAsTold_54 : decode b_Mind_comesAsTold 54 = .ok (.invokevirtual 94, 3) := by decide +kernel
theorem d_Mind_comesAsTold_57 : decode b_Mind_comesAsTold 57 = .ok (.if_icmp .eq 5, 3) := by decide +kernel
theorem d_Mind_comesAsTold_60 : decode b_Mind_comesAsTold 60 = .ok (.iconst 0, 1) := by decide +kernel
theorem d_Mind_comesAsTold_61 : decode b_Mind_comesAsTold 61 = .ok (.ireturn, 1) := by decide +kernel
theorem d_Mind_comesAsTold_62 : decode b_Mind_comesAsTold 62 = .ok (.iinc 4 1, 3) := by decide +kernel
theorem d_Mind_comesAsTold_65 : decode b_Mind_comesAsTold 65 = .ok (.iinc 5 1, 3) := by decide +kernel
theorem d_Mind_comesAsTold_68 : decode b_Mind_comesAsTold 68 = .ok (.goto (-56), 3) := by decide +kernel
theorem d_Mind_comesAsTold_71 : decode b_Mind_comesAsTold 71 = .ok (.iconst 1, 1) := by decide +kernel
theorem d_Mind_comesAsTold_72 : decode b_Mind_comesAsTold 72 = .ok (.ireturn, 1) := by decide +kernel
def m_Mind_comesAsTold_12 : Nat → Int → Int → Int → (Int → Int) → (Int → Int) → (Int → Int) → (Int → Int) → (Int → Int) → (Int → Int) → (Int → Int) → (Int → Int) → (Int → Int) → (Int → Int) → (Int → Int) → (Int → Int) → Int → (Int → Int) → (Int → Int) → Int → (Int → Int) → Option (Int × (Int → Int) × (Int → Int) × (Int → Int) × (Int → Int) × (Int → Int) × (Int → Int) × Int × (Int → Int) × (Int → Int))
  | 0, _, _, _, _, _, _, _, _, _, _, _, _, _, _, _, _, _, _, _, _ => none
  | fuel + 1, v1, v4, v5, now, nbt, nki, npl, nva, nwr, tow, tbt, tki, tpl, tva, twr, trm, trs, trz, qmn, qnu =>
  clt v5 24 (clt v4 qmn (bnd (m_Disk_isPromised v1 v5 npl nva) (fun r3 => ceq r3 0 (m_Mind_comesAsTold_12 fuel v1 v4 (v5 + 1) now nbt nki npl nva nwr tow tbt tki tpl tva twr trm trs trz qmn qnu) (bnd (m_Disk_blockAt v1 v5 tpl) (fun r5 => bnd (m_Row_numberAt_W32 v4 qmn qnu) (fun r7 => ceq r5 r7 (m_Mind_comesAsTold_12 fuel v1 (v4 + 1) (v5 + 1) now nbt nki npl nva nwr tow tbt tki tpl tva twr trm trs trz qmn qnu) (some (0, tow, tbt, tki, tpl, tva, twr, trm, trs, trz))))))) (some (1, tow, tbt, tki, tpl, tva, twr, trm, trs, trz))) (some (1, tow, tbt, tki, tpl, tva, twr, trm, trs, trz))
def m_Mind_comesAsTold (x1 : Int) (x2 : Int) (now : Int → Int) (nbt : Int → Int) (nki : Int → Int) (npl : Int → Int) (nva : Int → Int) (nwr : Int → Int) (tow : Int → Int) (tbt : Int → Int) (tki : Int → Int) (tpl : Int → Int) (tva : Int → Int) (twr : Int → Int) (trm : Int) (trs : Int → Int) (trz : Int → Int) (qmn : Int) (qnu : Int → Int) : Option (Int × (Int → Int) × (Int → Int) × (Int → Int) × (Int → Int) × (Int → Int) × (Int → Int) × Int × (Int → Int) × (Int → Int)) :=
  bnd (m_Mind_flushByKind x1 x2 now nbt nki npl nva nwr tow tbt tki tpl tva twr trm trs trz) (fun r1 => m_Mind_comesAsTold_12 5000 x1 0 0 now nbt nki npl nva nwr r1.1 r1.2.1 r1.2.2.1 r1.2.2.2.1 r1.2.2.2.2.1 r1.2.2.2.2.2.1 r1.2.2.2.2.2.2.1 r1.2.2.2.2.2.2.2.1 r1.2.2.2.2.2.2.2.2 qmn qnu)
set_option maxHeartbeats 4000000 in
set_option maxRecDepth 100000 in
theorem l_Mind_comesAsTold_12 {G : GT} {l : Launch} {D : va_G} {cI cB : ClassId} {a0 a1 a2 a3 a4 a5 a6 a7 a8 a9 a10 a11 a12 a13 a14 a15 a16 a17 a18 a19 a20 a21 a22 : Nat} {seed : Int} {nrm : Int} {nrs : Int → Int} {nrz : Int → Int} (X : Cx G l D cI cB b_Mind_comesAsTold y_Mind_comesAsTold.cls 6 { frames := 5, cells := 0, slots := 0, locals := 125 }) : ∀ (fuel : Nat) (v1 : Int) (v4 : Int) (v5 : Int) (now : Int → Int) (nbt : Int → Int) (nki : Int → Int) (npl : Int → Int) (nva : Int → Int) (nwr : Int → Int) (tow : Int → Int) (tbt : Int → Int) (tki : Int → Int) (tpl : Int → Int) (tva : Int → Int) (twr : Int → Int) (trm : Int) (trs : Int → Int) (trz : Int → Int) (qmn : Int) (qnu : Int → Int) (o : Int × (Int → Int) × (Int → Int) × (Int → Int) × (Int → Int) × (Int → Int) × (Int → Int) × Int × (Int → Int) × (Int → Int)), m_Mind_comesAsTold_12 fuel v1 v4 v5 now nbt nki npl nva nwr tow tbt tki tpl tva twr trm trs trz qmn qnu = some o → Rt G (some .boolean) (some (.int (zi o.1))) (w_Mind_W32 cI cB a0 a1 a2 a3 a4 a5 a6 a7 a8 a9 a10 a11 a12 a13 a14 a15 a16 a17 a18 a19 a20 a21 a22 seed now nbt nki npl nva nwr nrm nrs nrz o.2.1 o.2.2.1 o.2.2.2.1 o.2.2.2.2.1 o.2.2.2.2.2.1 o.2.2.2.2.2.2.1 o.2.2.2.2.2.2.2.1 o.2.2.2.2.2.2.2.2.1 o.2.2.2.2.2.2.2.2.2 qmn qnu) → Wx G 0 0 12 [(0, .ref a0), (1, .int (zi v1)), (3, .ref a21), (4, .int (zi v4)), (5, .int (zi v5))] [] (w_Mind_W32 cI cB a0 a1 a2 a3 a4 a5 a6 a7 a8 a9 a10 a11 a12 a13 a14 a15 a16 a17 a18 a19 a20 a21 a22 seed now nbt nki npl nva nwr nrm nrs nrz tow tbt tki tpl tva twr trm trs trz qmn qnu) := by
  intro fuel
  induction fuel with
  | zero =>
    intro v1 v4 v5 now nbt nki npl nva nwr tow tbt tki tpl tva twr trm trs trz qmn qnu o h
    exact absurd h (by simp [m_Mind_comesAsTold_12])
  | succ fuel ih =>
    intro v1 v4 v5 now nbt nki npl nva nwr tow tbt tki tpl tva twr trm trs trz qmn qnu o h hR
    rw [m_Mind_comesAsTold_12] at h
    refine x_iload (pc := 12) X d_Mind_comesAsTold_12 4 rfl ?_
    refine x_bipush (pc := 14) (v := 24) X d_Mind_comesAsTold_14 rfl ?_
    refine x_icmpge (pc := 16) (tgt := 71) X d_Mind_comesAsTold_16 rfl h (fun h => ?_) (fun h => ?_)
    · skip
      refine x_iconst (pc := 71) X d_Mind_comesAsTold_71  ?_
      cases h
      exact x_zret (pc := 72) X hR d_Mind_comesAsTold_72 (Or.inr rfl)
    · skip
      refine x_iload (pc := 19) X d_Mind_comesAsTold_19 3 rfl ?_
      refine x_aload_n (pc := 21) X d_Mind_comesAsTold_21 2 rfl rfl ?_
      refine x_get (pc := 22) X d_Mind_comesAsTold_22 21 rfl fl_Mind_82 rfl ?_
      refine x_icmpge (pc := 25) (tgt := 71) X d_Mind_comesAsTold_25 rfl h (fun h => ?_) (fun h => ?_)
      · skip
        refine x_iconst (pc := 71) X d_Mind_comesAsTold_71  ?_
        cases h
        exact x_zret (pc := 72) X hR d_Mind_comesAsTold_72 (Or.inr rfl)
      · skip
        refine x_aload_n (pc := 28) X d_Mind_comesAsTold_28 0 rfl rfl ?_
        refine x_get (pc := 29) X d_Mind_comesAsTold_29 0 rfl fl_Mind_9 rfl ?_
        refine x_iload_n (pc := 32) X d_Mind_comesAsTold_32 1 rfl rfl ?_
        refine x_iload (pc := 33) X d_Mind_comesAsTold_33 4 rfl ?_
        obtain ⟨r3, h4, h⟩ := bnd_e h
        refine x_callV (pc := 35) (As := [.int (zi v1), .int (zi v5)]) (rest := []) (w2 := (w_Mind_W32 cI cB a0 a1 a2 a3 a4 a5 a6 a7 a8 a9 a10 a11 a12 a13 a14 a15 a16 a17 a18 a19 a20 a21 a22 seed now nbt nki npl nva nwr nrm nrs nrz tow tbt tki tpl tva twr trm trs trz qmn qnu)) X d_Mind_comesAsTold_35 lk_Mind_87 mv_Disk_isPromised (c_Disk_isPromised l D cI cB a1 a2 a3 a4 a5 a6 a7 a8 a9 a10 now nbt nki npl nva nwr nrm nrs nrz v1 v5 h4) ⟨(Nat.le_of_ble_eq_true rfl), (Nat.le_of_ble_eq_true rfl), (Nat.le_of_ble_eq_true rfl), (Nat.le_of_ble_eq_true rfl)⟩ 1 rfl rfl [1, 2, 3, 4, 5, 6, 7, 8, 9, 10] rfl rfl rfl (Up.same rfl) rfl rfl (Nat.le_of_ble_eq_true rfl) ?_
        refine x_ifeq (pc := 38) (tgt := 65) X d_Mind_comesAsTold_38 rfl h (fun h => ?_) (fun h => ?_)
        · skip
          refine x_iinc (pc := 65) (ls2 := [(5, .int (zi (v5 + 1))), (0, .ref a0), (1, .int (zi v1)), (3, .ref a21), (4, .int (zi v4))]) X d_Mind_comesAsTold_65 4 (Nat.le_of_ble_eq_true rfl) rfl rfl ?_
          refine x_goto (pc := 68) (tgt := 12) X d_Mind_comesAsTold_68 rfl ?_
          refine x_ls (ls2 := [(0, .ref a0), (1, .int (zi v1)), (3, .ref a21), (4, .int (zi v4)), (5, .int (zi (v5 + 1)))]) [1, 2, 3, 4, 0] rfl ?_
          exact ih v1 v4 (v5 + 1) now nbt nki npl nva nwr tow tbt tki tpl tva twr trm trs trz qmn qnu o h hR
        · skip
          refine x_aload_n (pc := 41) X d_Mind_comesAsTold_41 0 rfl rfl ?_
          refine x_get (pc := 42) X d_Mind_comesAsTold_42 0 rfl fl_Mind_15 rfl ?_
          refine x_iload_n (pc := 45) X d_Mind_comesAsTold_45 1 rfl rfl ?_
          refine x_iload (pc := 46) X d_Mind_comesAsTold_46 4 rfl ?_
          obtain ⟨r5, h6, h⟩ := bnd_e h
          refine x_callV (pc := 48) (As := [.int (zi v1), .int (zi v5)]) (rest := []) (w2 := (w_Mind_W32 cI cB a0 a1 a2 a3 a4 a5 a6 a7 a8 a9 a10 a11 a12 a13 a14 a15 a16 a17 a18 a19 a20 a21 a22 seed now nbt nki npl nva nwr nrm nrs nrz tow tbt tki tpl tva twr trm trs trz qmn qnu)) X d_Mind_comesAsTold_48 lk_Mind_91 mv_Disk_blockAt (c_Disk_blockAt l D cI cB a11 a12 a13 a14 a15 a16 a17 a18 a19 a20 tow tbt tki tpl tva twr trm trs trz v1 v5 h6) ⟨(Nat.le_of_ble_eq_true rfl), (Nat.le_of_ble_eq_true rfl), (Nat.le_of_ble_eq_true rfl), (Nat.le_of_ble_eq_true rfl)⟩ 11 rfl rfl [11, 12, 13, 14, 15, 16, 17, 18, 19, 20] rfl rfl rfl (Up.same rfl) rfl rfl (Nat.le_of_ble_eq_true rfl) ?_
          refine x_aload_n (pc := 51) X d_Mind_comesAsTold_51 2 rfl rfl ?_
          refine x_iload (pc := 52) X d_Mind_comesAsTold_52 3 rfl ?_
          obtain ⟨r7, h8, h⟩ := bnd_e h
          refine x_callV (pc := 54) (As := [.int (zi v4)]) (rest := [.int (zi r5)]) (w2 := (w_Mind_W32 cI cB a0 a1 a2 a3 a4 a5 a6 a7 a8 a9 a10 a11 a12 a13 a14 a15 a16 a17 a18 a19 a20 a21 a22 seed now nbt nki npl nva nwr nrm nrs nrz tow tbt tki tpl tva twr trm trs trz qmn qnu)) X d_Mind_comesAsTold_54 lk_Mind_94 mv_Row_numberAt (c_Row_numberAt_W32 l D cI cB a21 a22 qmn qnu v4 h8) ⟨(Nat.le_of_ble_eq_true rfl), (Nat.le_of_ble_eq_true rfl), (Nat.le_of_ble_eq_true rfl), (Nat.le_of_ble_eq_true rfl)⟩ 21 rfl rfl [21, 22] rfl rfl rfl (Up.same rfl) rfl rfl (Nat.le_of_ble_eq_true rfl) ?_
          refine x_icmpeq (pc := 57) (tgt := 62) X d_Mind_comesAsTold_57 rfl h (fun h => ?_) (fun h => ?_)
          · skip
            refine x_iinc (pc := 62) (ls2 := [(4, .int (zi (v4 + 1))), (0, .ref a0), (1, .int (zi v1)), (3, .ref a21), (5, .int (zi v5))]) X d_Mind_comesAsTold_62 3 (Nat.le_of_ble_eq_true rfl) rfl rfl ?_
            refine x_iinc (pc := 65) (ls2 := [(5, .int (zi (v5 + 1))), (4, .int (zi (v4 + 1))), (0, .ref a0), (1, .int (zi v1)), (3, .ref a21)]) X d_Mind_comesAsTold_65 4 (Nat.le_of_ble_eq_true rfl) rfl rfl ?_
            refine x_goto (pc := 68) (tgt := 12) X d_Mind_comesAsTold_68 rfl ?_
            refine x_ls (ls2 := [(0, .ref a0), (1, .int (zi v1)), (3, .ref a21), (4, .int (zi (v4 + 1))), (5, .int (zi (v5 + 1)))]) [2, 3, 4, 1, 0] rfl ?_
            exact ih v1 (v4 + 1) (v5 + 1) now nbt nki npl nva nwr tow tbt tki tpl tva twr trm trs trz qmn qnu o h hR
          · skip
            refine x_iconst (pc := 60) X d_Mind_comesAsTold_60  ?_
            cases h
            exact x_zret (pc := 61) X hR d_Mind_comesAsTold_61 (Or.inl rfl)
set_option maxHeartbeats 4000000 in
set_option maxRecDepth 100000 in
theorem c_Mind_comesAsTold (l : Launch) (D : va_G) (cI cB : ClassId) (a0 a1 a2 a3 a4 a5 a6 a7 a8 a9 a10 a11 a12 a13 a14 a15 a16 a17 a18 a19 a20 a21 a22 : Nat) (seed : Int) (now : Int → Int) (nbt : Int → Int) (nki : Int → Int) (npl : Int → Int) (nva : Int → Int) (nwr : Int → Int) (nrm : Int) (nrs : Int → Int) (nrz : Int → Int) (tow : Int → Int) (tbt : Int → Int) (tki : Int → Int) (tpl : Int → Int) (tva : Int → Int) (twr : Int → Int) (trm : Int) (trs : Int → Int) (trz : Int → Int) (qmn : Int) (qnu : Int → Int) (x1 : Int) (x2 : Int) {o : Int × (Int → Int) × (Int → Int) × (Int → Int) × (Int → Int) × (Int → Int) × (Int → Int) × Int × (Int → Int) × (Int → Int)} (h : m_Mind_comesAsTold x1 x2 now nbt nki npl nva nwr tow tbt tki tpl tva twr trm trs trz qmn qnu = some o) : Ct l D cI cB y_Mind_comesAsTold b_Mind_comesAsTold 6 (some .boolean) { frames := 5, cells := 0, slots := 0, locals := 125 } [.ref a0, .int (zi x1), .int (zi x2), .ref a21] (w_Mind_W32 cI cB a0 a1 a2 a3 a4 a5 a6 a7 a8 a9 a10 a11 a12 a13 a14 a15 a16 a17 a18 a19 a20 a21 a22 seed now nbt nki npl nva nwr nrm nrs nrz tow tbt tki tpl tva twr trm trs trz qmn qnu) (w_Mind_W32 cI cB a0 a1 a2 a3 a4 a5 a6 a7 a8 a9 a10 a11 a12 a13 a14 a15 a16 a17 a18 a19 a20 a21 a22 seed now nbt nki npl nva nwr nrm nrs nrz o.2.1 o.2.2.1 o.2.2.2.1 o.2.2.2.2.1 o.2.2.2.2.2.1 o.2.2.2.2.2.2.1 o.2.2.2.2.2.2.2.1 o.2.2.2.2.2.2.2.2.1 o.2.2.2.2.2.2.2.2.2 qmn qnu) (some (.int (zi o.1))) := by
  refine Ct.start (by decide) (Nat.le_of_ble_eq_true rfl) (fun G X hR => ?_)
  refine x_ls (ls2 := [(0, .ref a0), (1, .int (zi x1)), (2, .int (zi x2)), (3, .ref a21)]) [0, 1, 2, 3] rfl ?_
  unfold m_Mind_comesAsTold at h
  refine x_aload_n (pc := 0) X d_Mind_comesAsTold_0 0 rfl rfl ?_
  refine x_iload_n (pc := 1) X d_Mind_comesAsTold_1 1 rfl rfl ?_
  refine x_iload_n (pc := 2) X d_Mind_comesAsTold_2 2 rfl rfl ?_
  obtain ⟨r1, h2, h⟩ := bnd_e h
  refine x_callV (pc := 3) (As := [.int (zi x1), .int (zi x2)]) (rest := []) (w2 := (w_Mind_W32 cI cB a0 a1 a2 a3 a4 a5 a6 a7 a8 a9 a10 a11 a12 a13 a14 a15 a16 a17 a18 a19 a20 a21 a22 seed now nbt nki npl nva nwr nrm nrs nrz r1.1 r1.2.1 r1.2.2.1 r1.2.2.2.1 r1.2.2.2.2.1 r1.2.2.2.2.2.1 r1.2.2.2.2.2.2.1 r1.2.2.2.2.2.2.2.1 r1.2.2.2.2.2.2.2.2 qmn qnu)) X d_Mind_comesAsTold_3 lk_Mind_36 mv_Mind_flushByKind (c_Mind_flushByKind l D cI cB a0 a1 a2 a3 a4 a5 a6 a7 a8 a9 a10 a11 a12 a13 a14 a15 a16 a17 a18 a19 a20 seed now nbt nki npl nva nwr nrm nrs nrz tow tbt tki tpl tva twr trm trs trz x1 x2 h2) ⟨(Nat.le_of_ble_eq_true rfl), (Nat.le_of_ble_eq_true rfl), (Nat.le_of_ble_eq_true rfl), (Nat.le_of_ble_eq_true rfl)⟩ 0 rfl rfl [0, 1, 2, 3, 4, 5, 6, 7, 8, 9, 10, 11, 12, 13, 14, 15, 16, 17, 18, 19, 20] rfl rfl rfl (Up.of [21, 22] [(a21, .inr (2, [.ref a22, .int (zi qmn)])), (a22, zA cI 32 qnu)] rfl rfl rfl 23 rfl (by decide +kernel)) rfl rfl (Nat.le_of_ble_eq_true rfl) ?_
  refine x_iconst (pc := 6) X d_Mind_comesAsTold_6  ?_
  refine x_istore (pc := 7) (ls2 := [(4, .int (zi 0)), (0, .ref a0), (1, .int (zi x1)), (2, .int (zi x2)), (3, .ref a21)]) X d_Mind_comesAsTold_7 (Nat.le_of_ble_eq_true rfl) rfl ?_
  refine x_iconst (pc := 9) X d_Mind_comesAsTold_9  ?_
  refine x_istore (pc := 10) (ls2 := [(5, .int (zi 0)), (4, .int (zi 0)), (0, .ref a0), (1, .int (zi x1)), (2, .int (zi x2)), (3, .ref a21)]) X d_Mind_comesAsTold_10 (Nat.le_of_ble_eq_true rfl) rfl ?_
  refine x_ls (ls2 := [(0, .ref a0), (1, .int (zi x1)), (3, .ref a21), (4, .int (zi 0)), (5, .int (zi 0))]) [2, 3, 5, 1, 0] rfl ?_
  exact l_Mind_comesAsTold_12 X 5000 x1 0 0 now nbt nki npl nva nwr r1.1 r1.2.1 r1.2.2.1 r1.2.2.2.1 r1.2.2.2.2.1 r1.2.2.2.2.2.1 r1.2.2.2.2.2.2.1 r1.2.2.2.2.2.2.2.1 r1.2.2.2.2.2.2.2.2 qmn qnu o h hR
theorem d_Mind_drawBelow_0 : decode b_Mind_drawBelow 0 = .ok (.aload_n 0, 1) := by decide +kernel
theorem d_Mind_drawBelow_1 : decode b_Mind_drawBelow 1 = .ok (.aload_n 0, 1) := by decide +kernel
theorem d_Mind_drawBelow_2 : decode b_Mind_drawBelow 2 = .ok (.getfield 18, 3) := by decide +kernel
theorem d_Mind_drawBelow_5 : decode b_Mind_drawBelow 5 = .ok (.ldc 114, 2) := by decide +kernel
theorem d_Mind_drawBelow_7 : decode b_Mind_drawBelow 7 = .ok (.imul, 1) := by decide +kernel
theorem d_Mind_drawBelow_8 : decode b_Mind_drawBelow 8 = .ok (.ldc 115, 2) := by decide +kernel
theorem d_Mind_drawBelow_10 : decode b_Mind_drawBelow 10 = .ok (.iadd, 1) := by decide +kernel
theorem d_Mind_drawBelow_11 : decode b_Mind_drawBelow 11 = .ok (.putfield 18, 3) := by decide +kernel
theorem d_Mind_drawBelow_14 : decode b_Mind_drawBelow 14 = .ok (.iload_n 1, 1) := by decide +kernel
theorem d_Mind_drawBelow_15 : decode b_Mind_drawBelow 15 = .ok (.ifCond .le 19, 3) := by decide +kernel
theorem d_Mind_drawBelow_18 : decode b_Mind_drawBelow 18 = .ok (.aload_n 0, 1) := by decide +kernel
theorem d_Mind_drawBelow_19 : decode b_Mind_drawBelow 19 = .ok (.getfield 18, 3) := by decide +kernel
theorem d_Mind_drawBelow_22 : decode b_Mind_drawBelow 22 = .ok (.ldc 116, 2) := by decide +kernel
theorem d_Mind_drawBelow_24 : decode b_Mind_drawBelow 24 = .ok (.iand, 1) := by decide +kernel
theorem d_Mind_drawBelow_25 : decode b_Mind_drawBelow 25 = .ok (.sipush 256, 3) := by decide +kernel
theorem d_Mind_drawBelow_28 : decode b_Mind_drawBelow 28 = .ok (.idiv, 1) := by decide +kernel
theorem d_Mind_drawBelow_29 : decode b_Mind_drawBelow 29 = .ok (.iload_n 1, 1) := by decide +kernel
theorem d_Mind_drawBelow_30 : decode b_Mind_drawBelow 30 = .ok (.irem, 1) := by decide +kernel
theorem d_Mind_drawBelow_31 : decode b_Mind_drawBelow 31 = .ok (.goto 4, 3) := by decide +kernel
theorem d_Mind_drawBelow_34 : decode b_Mind_drawBelow 34 = .ok (.iconst 0, 1) := by decide +kernel
theorem d_Mind_drawBelow_35 : decode b_Mind_drawBelow 35 = .ok (.ireturn, 1) := by decide +kernel
def m_Mind_drawBelow (x1 : Int) (seed : Int) : Option (Int × Int) :=
  cle x1 0 (some (0, ((seed * 1664525) + 1013904223))) (gd (zx (z_and ((seed * 1664525) + 1013904223) 2147483647) 2147483648 ∧ zp 256 2147483648) (gd (zx ((z_and ((seed * 1664525) + 1013904223) 2147483647) / 256) 2147483648 ∧ zp x1 2147483648) (some ((((z_and ((seed * 1664525) + 1013904223) 2147483647) / 256) % x1), ((seed * 1664525) + 1013904223)))))
set_option maxHeartbeats 4000000 in
set_option maxRecDepth 100000 in
theorem c_Mind_drawBelow (l : Launch) (D : va_G) (cI cB : ClassId) (a0 a1 a2 a3 a4 a5 a6 a7 a8 a9 a10 a11 a12 a13 a14 a15 a16 a17 a18 a19 a20 : Nat) (seed : Int) (now : Int → Int) (nbt : Int → Int) (nki : Int → Int) (npl : Int → Int) (nva : Int → Int) (nwr : Int → Int) (nrm : Int) (nrs : Int → Int) (nrz : Int → Int) (tow : Int → Int) (tbt : Int → Int) (tki : Int → Int) (tpl : Int → Int) (tva : Int → Int) (twr : Int → Int) (trm : Int) (trs : Int → Int) (trz : Int → Int) (x1 : Int) {o : Int × Int} (h : m_Mind_drawBelow x1 seed = some o) : Ct l D cI cB y_Mind_drawBelow b_Mind_drawBelow 2 (some .int) { frames := 0, cells := 0, slots := 0, locals := 0 } [.ref a0, .int (zi x1)] (w_Mind cI cB a0 a1 a2 a3 a4 a5 a6 a7 a8 a9 a10 a11 a12 a13 a14 a15 a16 a17 a18 a19 a20 seed now nbt nki npl nva nwr nrm nrs nrz tow tbt tki tpl tva twr trm trs trz) (w_Mind cI cB a0 a1 a2 a3 a4 a5 a6 a7 a8 a9 a10 a11 a12 a13 a14 a15 a16 a17 a18 a19 a20 o.2 now nbt nki npl nva nwr nrm nrs nrz tow tbt tki tpl tva twr trm trs trz) (some (.int (zi o.1))) := by
  refine Ct.start (by decide) (Nat.le_of_ble_eq_true rfl) (fun G X hR => ?_)
  refine x_ls (ls2 := [(0, .ref a0), (1, .int (zi x1))]) [0, 1] rfl ?_
  unfold m_Mind_drawBelow at h
  refine x_aload_n (pc := 0) X d_Mind_drawBelow_0 0 rfl rfl ?_
  refine x_aload_n (pc := 1) X d_Mind_drawBelow_1 0 rfl rfl ?_
  refine x_get (pc := 2) X d_Mind_drawBelow_2 0 rfl fl_Mind_18 rfl ?_
  refine x_ldc (pc := 5) X d_Mind_drawBelow_5 cw_Mind_114 cg_Mind_114 ?_
  refine x_imul (pc := 7) X d_Mind_drawBelow_7  ?_
  refine x_ldc (pc := 8) X d_Mind_drawBelow_8 cw_Mind_115 cg_Mind_115 ?_
  refine x_iadd (pc := 10) X d_Mind_drawBelow_10  ?_
  refine x_put (pc := 11) (w2 := (w_Mind cI cB a0 a1 a2 a3 a4 a5 a6 a7 a8 a9 a10 a11 a12 a13 a14 a15 a16 a17 a18 a19 a20 ((seed * 1664525) + 1013904223) now nbt nki npl nva nwr nrm nrs nrz tow tbt tki tpl tva twr trm trs trz)) X d_Mind_drawBelow_11 0 rfl (fp_Mind_18 _) (Nat.le_of_ble_eq_true rfl) rfl ?_
  refine x_iload_n (pc := 14) X d_Mind_drawBelow_14 1 rfl rfl ?_
  refine x_ifle (pc := 15) (tgt := 34) X d_Mind_drawBelow_15 rfl h (fun h => ?_) (fun h => ?_)
  · skip
    refine x_iconst (pc := 34) X d_Mind_drawBelow_34  ?_
    cases h
    exact x_iret (pc := 35) X hR d_Mind_drawBelow_35
  · skip
    refine x_aload_n (pc := 18) X d_Mind_drawBelow_18 0 rfl rfl ?_
    refine x_get (pc := 19) X d_Mind_drawBelow_19 0 rfl fl_Mind_18 rfl ?_
    refine x_ldc (pc := 22) X d_Mind_drawBelow_22 cw_Mind_116 cg_Mind_116 ?_
    refine x_iand (pc := 24) X d_Mind_drawBelow_24  ?_
    refine x_sipush (pc := 25) (v := 256) X d_Mind_drawBelow_25 (by decide +kernel) ?_
    refine x_idiv (pc := 28) X d_Mind_drawBelow_28 h (fun h => ?_)
    refine x_iload_n (pc := 29) X d_Mind_drawBelow_29 1 rfl rfl ?_
    refine x_irem (pc := 30) X d_Mind_drawBelow_30 h (fun h => ?_)
    refine x_goto (pc := 31) (tgt := 35) X d_Mind_drawBelow_31 rfl ?_
    cases h
    exact x_iret (pc := 35) X hR d_Mind_drawBelow_35
theorem d_Mind_playLot_0 : decode b_Mind_playLot 0 = .ok (.aload_n 0, 1) := by decide +kernel
theorem d_Mind_playLot_1 : decode b_Mind_playLot 1 = .ok (.getfield 15, 3) := by decide +kernel
theorem d_Mind_playLot_4 : decode b_Mind_playLot 4 = .ok (.aload_n 0, 1) := by decide +kernel
theorem d_Mind_playLot_5 : decode b_Mind_playLot 5 = .ok (.getfield 9, 3) := by decide +kernel
theorem d_Mind_playLot_8 : decode b_Mind_playLot 8 = .ok (.invokevirtual 22, 3) := by decide +kernel
theorem d_Mind_playLot_11 : decode b_Mind_playLot 11 = .ok (.iconst 0, 1) := by decide +kernel
theorem d_Mind_playLot_12 : decode b_Mind_playLot 12 = .ok (.istore_n 1, 1) := by decide +kernel
theorem d_Mind_playLot_13 : decode b_Mind_playLot 13 = .ok (.iload_n 1, 1) := by decide +kernel
theorem d_Mind_playLot_14 : decode b_Mind_playLot 14 = .ok (.bipush 8, 2) := by decide +kernel
theorem d_Mind_playLot_16 : decode b_Mind_playLot 16 = .ok (.if_icmp .ge 42, 3) := by decide +kernel
theorem d_Mind_playLot_19 : decode b_Mind_playLot 19 = .ok (.aload_n 0, 1) := by decide +kernel
theorem d_Mind_playLot_20 : decode b_Mind_playLot 20 = .ok (.iconst 4, 1) := by decide +kernel
theorem d_Mind_playLot_21 : decode b_Mind_playLot 21 = .ok (.invokevirtual 107, 3) := by decide +kernel
theorem d_Mind_playLot_24 : decode b_Mind_playLot 24 = .ok (.istore_n 2, 1) := by decide +kernel
theorem d_Mind_playLot_25 : decode b_Mind_playLot 25 = .ok (.aload_n 0, 1) := by decide +kernel
theorem d_Mind_playLot_26 : decode b_Mind_playLot 26 = .ok (.bipush 24, 2) := by decide +kernel
theorem d_Mind_playLot_28 : decode b_Mind_playLot 28 = .ok (.invokevirtual 107, 3) := by decide +kernel
theorem d_Mind_playLot_31 : decode b_Mind_playLot 31 = .ok (.istore_n 3, 1) := by decide +kernel
theorem d_Mind_playLot_32 : decode b_Mind_playLot 32 = .ok (.aload_n 0, 1) := by decide +kernel
theorem d_Mind_playLot_33 : decode b_Mind_playLot 33 = .ok (.bipush 100, 2) := by decide +kernel
theorem d_Mind_playLot_35 : decode b_Mind_playLot 35 = .ok (.invokevirtual 107, 3) := by decide +kernel
theorem d_Mind_playLot_38 : decode b_Mind_playLot 38 = .ok (.istore 4, 2) := by decide +kernel
theorem d_Mind_playLot_40 : decode b_Mind_playLot 40 = .ok (.aload_n 0, 1) := by decide +kernel
theorem d_Mind_playLot_41 : decode b_Mind_playLot 41 = .ok (.getfield 15, 3) := by decide +kernel
theorem d_Mind_playLot_44 : decode b_Mind_playLot 44 = .ok (.iload_n 2, 1) := by decide +kernel
theorem d_Mind_playLot_45 : decode b_Mind_playLot 45 = .ok (.iload_n 3, 1) := by decide +kernel
theorem d_Mind_playLot_46 : decode b_Mind_playLot 46 = .ok (.iload 4, 2) := by decide +kernel
theorem d_Mind_playLot_48 : decode b_Mind_playLot 48 = .ok (.invokevirtual 110, 3) := by decide +kernel
theorem d_Mind_playLot_51 : decode b_Mind_playLot 51 = .ok (.pop, 1) := by decide +kernel
theorem d_Mind_playLot_52 : decode b_Mind_playLot 52 = .ok (.iinc 1 1, 3) := by decide +kernel
theorem d_Mind_playLot_55 : decode b_Mind_playLot 55 = .ok (.goto (-42), 3) := by decide +kernel
theorem d_Mind_playLot_58 : decode b_Mind_playLot 58 = .ok (.iconst 0, 1) := by decide +kernel
theorem d_Mind_playLot_59 : decode b_Mind_playLot 59 = .ok (.istore_n 1, 1) := by decide +kernel
theorem d_Mind_playLot_60 : decode b_Mind_playLot 60 = .ok (.iload_n 1, 1) := by decide +kernel
theorem d_Mind_playLot_61 : decode b_Mind_playLot 61 = .ok (.iconst 4, 1) := by decide +kernel
theorem d_Mind_playLot_62 : decode b_Mind_playLot 62 = .ok (.if_icmp .ge 21, 3) := by decide +kernel
theorem d_Mind_playLot_65 : decode b_Mind_playLot 65 = .ok (.aload_n 0, 1) := by decide +kernel
theorem d_Mind_playLot_66 : decode b_Mind_playLot 66 = .ok (.getfield 15, 3) := by decide +kernel
theorem d_Mind_playLot_69 : decode b_Mind_playLot 69 = .ok (.iload_n 1, 1) := by decide +kernel
theorem d_Mind_playLot_70 : decode b_Mind_playLot 70 = .ok (.sipush 1000, 3) := by decide +kernel
theorem d_Mind_playLot_73 : decode b_Mind_playLot 73 = .ok (.invokevirtual 32, 3) := by decide +kernel
theorem d_Mind_playLot_76 : decode b_Mind_playLot 76 = .ok (.pop, 1) := by decide +kernel
theorem d_Mind_playLot_77 : decode b_Mind_playLot 77 = .ok (.iinc 1 1, 3) := by decide +kernel
theorem d_Mind_playLot_80 : decode b_Mind_playLot 80 = .ok (.goto (-20), 3) := by decide +kernel
theorem d_Mind_playLot_83 : decode b_Mind_playLot 83 = .ok (.return_, 1) := by decide +kernel
def m_Mind_playLot_60 : Nat → Int → Int → (Int → Int) → (Int → Int) → (Int → Int) → (Int → Int) → (Int → Int) → (Int → Int) → (Int → Int) → (Int → Int) → (Int → Int) → (Int → Int) → (Int → Int) → (Int → Int) → Int → (Int → Int) → (Int → Int) → Option (Int × (Int → Int) × (Int → Int) × (Int → Int) × (Int → Int) × (Int → Int) × (Int → Int) × Int × (Int → Int) × (Int → Int))
  | 0, _, _, _, _, _, _, _, _, _, _, _, _, _, _, _, _, _ => none
  | fuel + 1, v1, seed, now, nbt, nki, npl, nva, nwr, tow, tbt, tki, tpl, tva, twr, trm, trs, trz =>
  clt v1 4 (bnd (m_Disk_flushUpTo v1 1000 tow tbt tki tpl tva twr trm trs trz) (fun r3 => m_Mind_playLot_60 fuel (v1 + 1) seed now nbt nki npl nva nwr r3.2.1 r3.2.2.1 tki r3.2.2.2.1 r3.2.2.2.2.1 r3.2.2.2.2.2.1 r3.2.2.2.2.2.2.1 r3.2.2.2.2.2.2.2.1 r3.2.2.2.2.2.2.2.2)) (some (seed, tow, tbt, tki, tpl, tva, twr, trm, trs, trz))
def m_Mind_playLot_13 : Nat → Int → Int → (Int → Int) → (Int → Int) → (Int → Int) → (Int → Int) → (Int → Int) → (Int → Int) → (Int → Int) → (Int → Int) → (Int → Int) → (Int → Int) → (Int → Int) → (Int → Int) → Int → (Int → Int) → (Int → Int) → Option (Int × (Int → Int) × (Int → Int) × (Int → Int) × (Int → Int) × (Int → Int) × (Int → Int) × Int × (Int → Int) × (Int → Int))
  | 0, _, _, _, _, _, _, _, _, _, _, _, _, _, _, _, _, _ => none
  | fuel + 1, v1, seed, now, nbt, nki, npl, nva, nwr, tow, tbt, tki, tpl, tva, twr, trm, trs, trz =>
  clt v1 8 (bnd (m_Mind_drawBelow 4 seed) (fun r5 => bnd (m_Mind_drawBelow 24 r5.2) (fun r7 => bnd (m_Mind_drawBelow 100 r7.2) (fun r9 => bnd (m_Disk_sayAt r5.1 r7.1 r9.1 tow tpl tva) (fun r11 => m_Mind_playLot_13 fuel (v1 + 1) r9.2 now nbt nki npl nva nwr tow tbt tki tpl r11.2 twr trm trs trz))))) (m_Mind_playLot_60 5000 0 seed now nbt nki npl nva nwr tow tbt tki tpl tva twr trm trs trz)
def m_Mind_playLot  (seed : Int) (now : Int → Int) (nbt : Int → Int) (nki : Int → Int) (npl : Int → Int) (nva : Int → Int) (nwr : Int → Int) (tow : Int → Int) (tbt : Int → Int) (tki : Int → Int) (tpl : Int → Int) (tva : Int → Int) (twr : Int → Int) (trm : Int) (trs : Int → Int) (trz : Int → Int) : Option (Int × (Int → Int) × (Int → Int) × (Int → Int) × (Int → Int) × (Int → Int) × (Int → Int) × Int × (Int → Int) × (Int → Int)) :=
  bnd (m_Disk_copyFrom tow tbt tki tpl tva twr now nbt nki npl nva nwr) (fun r1 => m_Mind_playLot_13 5000 0 seed now nbt nki npl nva nwr r1.1 r1.2.1 r1.2.2.1 r1.2.2.2.1 r1.2.2.2.2.1 r1.2.2.2.2.2 trm trs trz)
set_option maxHeartbeats 4000000 in
set_option maxRecDepth 100000 in
theorem l_Mind_playLot_60 {G : GT} {l : Launch} {D : va_G} {cI cB : ClassId} {a0 a1 a2 a3 a4 a5 a6 a7 a8 a9 a10 a11 a12 a13 a14 a15 a16 a17 a18 a19 a20 : Nat} {nrm : Int} {nrs : Int → Int} {nrz : Int → Int} (X : Cx G l D cI cB b_Mind_playLot y_Mind_playLot.cls 5 { frames := 4, cells := 0, slots := 0, locals := 103 }) : ∀ (fuel : Nat) (v1 : Int) (seed : Int) (now : Int → Int) (nbt : Int → Int) (nki : Int → Int) (npl : Int → Int) (nva : Int → Int) (nwr : Int → Int) (tow : Int → Int) (tbt : Int → Int) (tki : Int → Int) (tpl : Int → Int) (tva : Int → Int) (twr : Int → Int) (trm : Int) (trs : Int → Int) (trz : Int → Int) (o : Int × (Int → Int) × (Int → Int) × (Int → Int) × (Int → Int) × (Int → Int) × (Int → Int) × Int × (Int → Int) × (Int → Int)), m_Mind_playLot_60 fuel v1 seed now nbt nki npl nva nwr tow tbt tki tpl tva twr trm trs trz = some o → Rt G none none (w_Mind cI cB a0 a1 a2 a3 a4 a5 a6 a7 a8 a9 a10 a11 a12 a13 a14 a15 a16 a17 a18 a19 a20 o.1 now nbt nki npl nva nwr nrm nrs nrz o.2.1 o.2.2.1 o.2.2.2.1 o.2.2.2.2.1 o.2.2.2.2.2.1 o.2.2.2.2.2.2.1 o.2.2.2.2.2.2.2.1 o.2.2.2.2.2.2.2.2.1 o.2.2.2.2.2.2.2.2.2) → Wx G 0 0 60 [(0, .ref a0), (1, .int (zi v1))] [] (w_Mind cI cB a0 a1 a2 a3 a4 a5 a6 a7 a8 a9 a10 a11 a12 a13 a14 a15 a16 a17 a18 a19 a20 seed now nbt nki npl nva nwr nrm nrs nrz tow tbt tki tpl tva twr trm trs trz) := by
  intro fuel
  induction fuel with
  | zero =>
    intro v1 seed now nbt nki npl nva nwr tow tbt tki tpl tva twr trm trs trz o h
    exact absurd h (by simp [m_Mind_playLot_60])
  | succ fuel ih =>
    intro v1 seed now nbt nki npl nva nwr tow tbt tki tpl tva twr trm trs trz o h hR
    rw [m_Mind_playLot_60] at h
    refine x_iload_n (pc := 60) X d_Mind_playLot_60 1 rfl rfl ?_
    refine x_iconst (pc := 61) X d_Mind_playLot_61  ?_
    refine x_icmpge (pc := 62) (tgt := 83) X d_Mind_playLot_62 rfl h (fun h => ?_) (fun h => ?_)
    · skip
      cases h
      exact x_vret (pc := 83) X hR d_Mind_playLot_83
    · skip
      refine x_aload_n (pc := 65) X d_Mind_playLot_65 0 rfl rfl ?_
      refine x_get (pc := 66) X d_Mind_playLot_66 0 rfl fl_Mind_15 rfl ?_
      refine x_iload_n (pc := 69) X d_Mind_playLot_69 1 rfl rfl ?_
      refine x_sipush (pc := 70) (v := 1000) X d_Mind_playLot_70 (by decide +kernel) ?_
      obtain ⟨r3, h4, h⟩ := bnd_e h
      refine x_callV (pc := 73) (As := [.int (zi v1), .int (zi 1000)]) (rest := []) (w2 := (w_Mind cI cB a0 a1 a2 a3 a4 a5 a6 a7 a8 a9 a10 a11 a12 a13 a14 a15 a16 a17 a18 a19 a20 seed now nbt nki npl nva nwr nrm nrs nrz r3.2.1 r3.2.2.1 tki r3.2.2.2.1 r3.2.2.2.2.1 r3.2.2.2.2.2.1 r3.2.2.2.2.2.2.1 r3.2.2.2.2.2.2.2.1 r3.2.2.2.2.2.2.2.2)) X d_Mind_playLot_73 lk_Mind_32 mv_Disk_flushUpTo (c_Disk_flushUpTo l D cI cB a11 a12 a13 a14 a15 a16 a17 a18 a19 a20 tow tbt tki tpl tva twr trm trs trz v1 1000 h4) ⟨(Nat.le_of_ble_eq_true rfl), (Nat.le_of_ble_eq_true rfl), (Nat.le_of_ble_eq_true rfl), (Nat.le_of_ble_eq_true rfl)⟩ 11 rfl rfl [11, 12, 13, 14, 15, 16, 17, 18, 19, 20] rfl rfl rfl (Up.of [0, 1, 2, 3, 4, 5, 6, 7, 8, 9, 10] [(a0, .inr (1, [.ref a1, .ref a11, .int (zi seed)])), (a1, .inr (0, [.ref a2, .ref a3, .ref a4, .ref a5, .ref a6, .ref a7, .ref a8])), (a2, zA cI 64 now), (a3, zA cI 64 nbt), (a4, zA cI 4 nki), (a5, zA cI 96 npl), (a6, zA cI 96 nva), (a7, zA cB 96 nwr), (a8, .inr (3, [.ref a9, .ref a10, .int (zi nrm)])), (a9, zA cI 32 nrs), (a10, zA cI 32 nrz)] rfl rfl rfl 21 rfl (by decide +kernel)) rfl rfl (Nat.le_of_ble_eq_true rfl) ?_
      refine x_pop (pc := 76) X d_Mind_playLot_76 rfl ?_
      refine x_iinc (pc := 77) (ls2 := [(1, .int (zi (v1 + 1))), (0, .ref a0)]) X d_Mind_playLot_77 1 (Nat.le_of_ble_eq_true rfl) rfl rfl ?_
      refine x_goto (pc := 80) (tgt := 60) X d_Mind_playLot_80 rfl ?_
      refine x_ls (ls2 := [(0, .ref a0), (1, .int (zi (v1 + 1)))]) [1, 0] rfl ?_
      exact ih (v1 + 1) seed now nbt nki npl nva nwr r3.2.1 r3.2.2.1 tki r3.2.2.2.1 r3.2.2.2.2.1 r3.2.2.2.2.2.1 r3.2.2.2.2.2.2.1 r3.2.2.2.2.2.2.2.1 r3.2.2.2.2.2.2.2.2 o h hR
set_option maxHeartbeats 4000000 in
set_option maxRecDepth 100000 in
theorem l_Mind_playLot_13 {G : GT} {l : Launch} {D : va_G} {cI cB : ClassId} {a0 a1 a2 a3 a4 a5 a6 a7 a8 a9 a10 a11 a12 a13 a14 a15 a16 a17 a18 a19 a20 : Nat} {nrm : Int} {nrs : Int → Int} {nrz : Int → Int} (X : Cx G l D cI cB b_Mind_playLot y_Mind_playLot.cls 5 { frames := 4, cells := 0, slots := 0, locals := 103 }) : ∀ (fuel : Nat) (v1 : Int) (seed : Int) (now : Int → Int) (nbt : Int → Int) (nki : Int → Int) (npl : Int → Int) (nva : Int → Int) (nwr : Int → Int) (tow : Int → Int) (tbt : Int → Int) (tki : Int → Int) (tpl : Int → Int) (tva : Int → Int) (twr : Int → Int) (trm : Int) (trs : Int → Int) (trz : Int → Int) (o : Int × (Int → Int) × (Int → Int) × (Int → Int) × (Int → Int) × (Int → Int) × (Int → Int) × Int × (Int → Int) × (Int → Int)), m_Mind_playLot_13 fuel v1 seed now nbt nki npl nva nwr tow tbt tki tpl tva twr trm trs trz = some o → Rt G none none (w_Mind cI cB a0 a1 a2 a3 a4 a5 a6 a7 a8 a9 a10 a11 a12 a13 a14 a15 a16 a17 a18 a19 a20 o.1 now nbt nki npl nva nwr nrm nrs nrz o.2.1 o.2.2.1 o.2.2.2.1 o.2.2.2.2.1 o.2.2.2.2.2.1 o.2.2.2.2.2.2.1 o.2.2.2.2.2.2.2.1 o.2.2.2.2.2.2.2.2.1 o.2.2.2.2.2.2.2.2.2) → Wx G 0 0 13 [(0, .ref a0), (1, .int (zi v1))] [] (w_Mind cI cB a0 a1 a2 a3 a4 a5 a6 a7 a8 a9 a10 a11 a12 a13 a14 a15 a16 a17 a18 a19 a20 seed now nbt nki npl nva nwr nrm nrs nrz tow tbt tki tpl tva twr trm trs trz) := by
  intro fuel
  induction fuel with
  | zero =>
    intro v1 seed now nbt nki npl nva nwr tow tbt tki tpl tva twr trm trs trz o h
    exact absurd h (by simp [m_Mind_playLot_13])
  | succ fuel ih =>
    intro v1 seed now nbt nki npl nva nwr tow tbt tki tpl tva twr trm trs trz o h hR
    rw [m_Mind_playLot_13] at h
    refine x_iload_n (pc := 13) X d_Mind_playLot_13 1 rfl rfl ?_
    refine x_bipush (pc := 14) (v := 8) X d_Mind_playLot_14 rfl ?_
    refine x_icmpge (pc := 16) (tgt := 58) X d_Mind_playLot_16 rfl h (fun h => ?_) (fun h => ?_)
    · skip
      refine x_iconst (pc := 58) X d_Mind_playLot_58  ?_
      refine x_istore_n (pc := 59) (ls2 := [(1, .int (zi 0)), (0, .ref a0)]) X d_Mind_playLot_59 rfl (Nat.le_of_ble_eq_true rfl) rfl ?_
      refine x_ls (ls2 := [(0, .ref a0), (1, .int (zi 0))]) [1, 0] rfl ?_
      exact l_Mind_playLot_60 X 5000 0 seed now nbt nki npl nva nwr tow tbt tki tpl tva twr trm trs trz o h hR
    · skip
      refine x_aload_n (pc := 19) X d_Mind_playLot_19 0 rfl rfl ?_
      refine x_iconst (pc := 20) X d_Mind_playLot_20  ?_
      obtain ⟨r5, h6, h⟩ := bnd_e h
      refine x_callV (pc := 21) (As := [.int (zi 4)]) (rest := []) (w2 := (w_Mind cI cB a0 a1 a2 a3 a4 a5 a6 a7 a8 a9 a10 a11 a12 a13 a14 a15 a16 a17 a18 a19 a20 r5.2 now nbt nki npl nva nwr nrm nrs nrz tow tbt tki tpl tva twr trm trs trz)) X d_Mind_playLot_21 lk_Mind_107 mv_Mind_drawBelow (c_Mind_drawBelow l D cI cB a0 a1 a2 a3 a4 a5 a6 a7 a8 a9 a10 a11 a12 a13 a14 a15 a16 a17 a18 a19 a20 seed now nbt nki npl nva nwr nrm nrs nrz tow tbt tki tpl tva twr trm trs trz 4 h6) ⟨(Nat.le_of_ble_eq_true rfl), (Nat.le_of_ble_eq_true rfl), (Nat.le_of_ble_eq_true rfl), (Nat.le_of_ble_eq_true rfl)⟩ 0 rfl rfl [0, 1, 2, 3, 4, 5, 6, 7, 8, 9, 10, 11, 12, 13, 14, 15, 16, 17, 18, 19, 20] rfl rfl rfl (Up.of [] [] rfl rfl rfl 21 rfl (by decide +kernel)) rfl rfl (Nat.le_of_ble_eq_true rfl) ?_
      refine x_istore_n (pc := 24) (ls2 := [(2, .int (zi r5.1)), (0, .ref a0), (1, .int (zi v1))]) X d_Mind_playLot_24 rfl (Nat.le_of_ble_eq_true rfl) rfl ?_
      refine x_aload_n (pc := 25) X d_Mind_playLot_25 1 rfl rfl ?_
      refine x_bipush (pc := 26) (v := 24) X d_Mind_playLot_26 rfl ?_
      obtain ⟨r7, h8, h⟩ := bnd_e h
      refine x_callV (pc := 28) (As := [.int (zi 24)]) (rest := []) (w2 := (w_Mind cI cB a0 a1 a2 a3 a4 a5 a6 a7 a8 a9 a10 a11 a12 a13 a14 a15 a16 a17 a18 a19 a20 r7.2 now nbt nki npl nva nwr nrm nrs nrz tow tbt tki tpl tva twr trm trs trz)) X d_Mind_playLot_28 lk_Mind_107 mv_Mind_drawBelow (c_Mind_drawBelow l D cI cB a0 a1 a2 a3 a4 a5 a6 a7 a8 a9 a10 a11 a12 a13 a14 a15 a16 a17 a18 a19 a20 r5.2 now nbt nki npl nva nwr nrm nrs nrz tow tbt tki tpl tva twr trm trs trz 24 h8) ⟨(Nat.le_of_ble_eq_true rfl), (Nat.le_of_ble_eq_true rfl), (Nat.le_of_ble_eq_true rfl), (Nat.le_of_ble_eq_true rfl)⟩ 0 rfl rfl [0, 1, 2, 3, 4, 5, 6, 7, 8, 9, 10, 11, 12, 13, 14, 15, 16, 17, 18, 19, 20] rfl rfl rfl (Up.of [] [] rfl rfl rfl 21 rfl (by decide +kernel)) rfl rfl (Nat.le_of_ble_eq_true rfl) ?_
      refine x_istore_n (pc := 31) (ls2 := [(3, .int (zi r7.1)), (2, .int (zi r5.1)), (0, .ref a0), (1, .int (zi v1))]) X d_Mind_playLot_31 rfl (Nat.le_of_ble_eq_true rfl) rfl ?_
      refine x_aload_n (pc := 32) X d_Mind_playLot_32 2 rfl rfl ?_
      refine x_bipush (pc := 33) (v := 100) X d_Mind_playLot_33 rfl ?_
      obtain ⟨r9, h10, h⟩ := bnd_e h
      refine x_callV (pc := 35) (As := [.int (zi 100)]) (rest := []) (w2 := (w_Mind cI cB a0 a1 a2 a3 a4 a5 a6 a7 a8 a9 a10 a11 a12 a13 a14 a15 a16 a17 a18 a19 a20 r9.2 now nbt nki npl nva nwr nrm nrs nrz tow tbt tki tpl tva twr trm trs trz)) X d_Mind_playLot_35 lk_Mind_107 mv_Mind_drawBelow (c_Mind_drawBelow l D cI cB a0 a1 a2 a3 a4 a5 a6 a7 a8 a9 a10 a11 a12 a13 a14 a15 a16 a17 a18 a19 a20 r7.2 now nbt nki npl nva nwr nrm nrs nrz tow tbt tki tpl tva twr trm trs trz 100 h10) ⟨(Nat.le_of_ble_eq_true rfl), (Nat.le_of_ble_eq_true rfl), (Nat.le_of_ble_eq_true rfl), (Nat.le_of_ble_eq_true rfl)⟩ 0 rfl rfl [0, 1, 2, 3, 4, 5, 6, 7, 8, 9, 10, 11, 12, 13, 14, 15, 16, 17, 18, 19, 20] rfl rfl rfl (Up.of [] [] rfl rfl rfl 21 rfl (by decide +kernel)) rfl rfl (Nat.le_of_ble_eq_true rfl) ?_
      refine x_istore (pc := 38) (ls2 := [(4, .int (zi r9.1)), (3, .int (zi r7.1)), (2, .int (zi r5.1)), (0, .ref a0), (1, .int (zi v1))]) X d_Mind_playLot_38 (Nat.le_of_ble_eq_true rfl) rfl ?_
      refine x_aload_n (pc := 40) X d_Mind_playLot_40 3 rfl rfl ?_
      refine x_get (pc := 41) X d_Mind_playLot_41 0 rfl fl_Mind_15 rfl ?_
      refine x_iload_n (pc := 44) X d_Mind_playLot_44 2 rfl rfl ?_
      refine x_iload_n (pc := 45) X d_Mind_playLot_45 1 rfl rfl ?_
      refine x_iload (pc := 46) X d_Mind_playLot_46 0 rfl ?_
      obtain ⟨r11, h12, h⟩ := bnd_e h
      refine x_callV (pc := 48) (As := [.int (zi r5.1), .int (zi r7.1), .int (zi r9.1)]) (rest := []) (w2 := (w_Mind cI cB a0 a1 a2 a3 a4 a5 a6 a7 a8 a9 a10 a11 a12 a13 a14 a15 a16 a17 a18 a19 a20 r9.2 now nbt nki npl nva nwr nrm nrs nrz tow tbt tki tpl r11.2 twr trm trs trz)) X d_Mind_playLot_48 lk_Mind_110 mv_Disk_sayAt (c_Disk_sayAt l D cI cB a11 a12 a13 a14 a15 a16 a17 a18 a19 a20 tow tbt tki tpl tva twr trm trs trz r5.1 r7.1 r9.1 h12) ⟨(Nat.le_of_ble_eq_true rfl), (Nat.le_of_ble_eq_true rfl), (Nat.le_of_ble_eq_true rfl), (Nat.le_of_ble_eq_true rfl)⟩ 11 rfl rfl [11, 12, 13, 14, 15, 16, 17, 18, 19, 20] rfl rfl rfl (Up.of [0, 1, 2, 3, 4, 5, 6, 7, 8, 9, 10] [(a0, .inr (1, [.ref a1, .ref a11, .int (zi r9.2)])), (a1, .inr (0, [.ref a2, .ref a3, .ref a4, .ref a5, .ref a6, .ref a7, .ref a8])), (a2, zA cI 64 now), (a3, zA cI 64 nbt), (a4, zA cI 4 nki), (a5, zA cI 96 npl), (a6, zA cI 96 nva), (a7, zA cB 96 nwr), (a8, .inr (3, [.ref a9, .ref a10, .int (zi nrm)])), (a9, zA cI 32 nrs), (a10, zA cI 32 nrz)] rfl rfl rfl 21 rfl (by decide +kernel)) rfl rfl (Nat.le_of_ble_eq_true rfl) ?_
      refine x_pop (pc := 51) X d_Mind_playLot_51 rfl ?_
      refine x_iinc (pc := 52) (ls2 := [(1, .int (zi (v1 + 1))), (4, .int (zi r9.1)), (3, .int (zi r7.1)), (2, .int (zi r5.1)), (0, .ref a0)]) X d_Mind_playLot_52 4 (Nat.le_of_ble_eq_true rfl) rfl rfl ?_
      refine x_goto (pc := 55) (tgt := 13) X d_Mind_playLot_55 rfl ?_
      refine x_ls (ls2 := [(0, .ref a0), (1, .int (zi (v1 + 1)))]) [4, 0] rfl ?_
      exact ih (v1 + 1) r9.2 now nbt nki npl nva nwr tow tbt tki tpl r11.2 twr trm trs trz o h hR
set_option maxHeartbeats 4000000 in
set_option maxRecDepth 100000 in
theorem c_Mind_playLot (l : Launch) (D : va_G) (cI cB : ClassId) (a0 a1 a2 a3 a4 a5 a6 a7 a8 a9 a10 a11 a12 a13 a14 a15 a16 a17 a18 a19 a20 : Nat) (seed : Int) (now : Int → Int) (nbt : Int → Int) (nki : Int → Int) (npl : Int → Int) (nva : Int → Int) (nwr : Int → Int) (nrm : Int) (nrs : Int → Int) (nrz : Int → Int) (tow : Int → Int) (tbt : Int → Int) (tki : Int → Int) (tpl : Int → Int) (tva : Int → Int) (twr : Int → Int) (trm : Int) (trs : Int → Int) (trz : Int → Int)  {o : Int × (Int → Int) × (Int → Int) × (Int → Int) × (Int → Int) × (Int → Int) × (Int → Int) × Int × (Int → Int) × (Int → Int)} (h : m_Mind_playLot seed now nbt nki npl nva nwr tow tbt tki tpl tva twr trm trs trz = some o) : Ct l D cI cB y_Mind_playLot b_Mind_playLot 5 none { frames := 4, cells := 0, slots := 0, locals := 103 } [.ref a0] (w_Mind cI cB a0 a1 a2 a3 a4 a5 a6 a7 a8 a9 a10 a11 a12 a13 a14 a15 a16 a17 a18 a19 a20 seed now nbt nki npl nva nwr nrm nrs nrz tow tbt tki tpl tva twr trm trs trz) (w_Mind cI cB a0 a1 a2 a3 a4 a5 a6 a7 a8 a9 a10 a11 a12 a13 a14 a15 a16 a17 a18 a19 a20 o.1 now nbt nki npl nva nwr nrm nrs nrz o.2.1 o.2.2.1 o.2.2.2.1 o.2.2.2.2.1 o.2.2.2.2.2.1 o.2.2.2.2.2.2.1 o.2.2.2.2.2.2.2.1 o.2.2.2.2.2.2.2.2.1 o.2.2.2.2.2.2.2.2.2) none := by
  refine Ct.start (by decide) (Nat.le_of_ble_eq_true rfl) (fun G X hR => ?_)
  refine x_ls (ls2 := [(0, .ref a0)]) [0] rfl ?_
  unfold m_Mind_playLot at h
  refine x_aload_n (pc := 0) X d_Mind_playLot_0 0 rfl rfl ?_
  refine x_get (pc := 1) X d_Mind_playLot_1 0 rfl fl_Mind_15 rfl ?_
  refine x_aload_n (pc := 4) X d_Mind_playLot_4 0 rfl rfl ?_
  refine x_get (pc := 5) X d_Mind_playLot_5 0 rfl fl_Mind_9 rfl ?_
  obtain ⟨r1, h2, h⟩ := bnd_e h
  refine x_callV (pc := 8) (As := [.ref a1]) (rest := []) (w2 := (w_Mind cI cB a0 a1 a2 a3 a4 a5 a6 a7 a8 a9 a10 a11 a12 a13 a14 a15 a16 a17 a18 a19 a20 seed now nbt nki npl nva nwr nrm nrs nrz r1.1 r1.2.1 r1.2.2.1 r1.2.2.2.1 r1.2.2.2.2.1 r1.2.2.2.2.2 trm trs trz)) X d_Mind_playLot_8 lk_Mind_22 mv_Disk_copyFrom (c_Disk_copyFrom l D cI cB a11 a12 a13 a14 a15 a16 a17 a18 a19 a20 a1 a2 a3 a4 a5 a6 a7 a8 a9 a10 tow tbt tki tpl tva twr trm trs trz now nbt nki npl nva nwr nrm nrs nrz h2) ⟨(Nat.le_of_ble_eq_true rfl), (Nat.le_of_ble_eq_true rfl), (Nat.le_of_ble_eq_true rfl), (Nat.le_of_ble_eq_true rfl)⟩ 11 rfl rfl [11, 12, 13, 14, 15, 16, 17, 18, 19, 20, 1, 2, 3, 4, 5, 6, 7, 8, 9, 10] rfl rfl rfl (Up.of [0] [(a0, .inr (1, [.ref a1, .ref a11, .int (zi seed)]))] rfl rfl rfl 21 rfl (by decide +kernel)) rfl rfl (Nat.le_of_ble_eq_true rfl) ?_
  refine x_iconst (pc := 11) X d_Mind_playLot_11  ?_
  refine x_istore_n (pc := 12) (ls2 := [(1, .int (zi 0)), (0, .ref a0)]) X d_Mind_playLot_12 rfl (Nat.le_of_ble_eq_true rfl) rfl ?_
  refine x_ls (ls2 := [(0, .ref a0), (1, .int (zi 0))]) [1, 0] rfl ?_
  exact l_Mind_playLot_13 X 5000 0 seed now nbt nki npl nva nwr r1.1 r1.2.1 r1.2.2.1 r1.2.2.2.1 r1.2.2.2.2.1 r1.2.2.2.2.2 trm trs trz o h hR
theorem d_Mind_sumOfLots_0 : decode b_Mind_sumOfLots 0 = .ok (.aload_n 0, 1) := by decide +kernel
theorem d_Mind_sumOfLots_1 : decode b_Mind_sumOfLots 1 = .ok (.iload_n 2, 1) := by decide +kernel
theorem d_Mind_sumOfLots_2 : decode b_Mind_sumOfLots 2 = .ok (.putfield 18, 3) := by decide +kernel
theorem d_Mind_sumOfLots_5 : decode b_Mind_sumOfLots 5 = .ok (.iconst 0, 1) := by decide +kernel
theorem d_Mind_sumOfLots_6 : decode b_Mind_sumOfLots 6 = .ok (.istore 4, 2) := by decide +kernel
theorem d_Mind_sumOfLots_8 : decode b_Mind_sumOfLots 8 = .ok (.iconst 0, 1) := by decide +kernel
theorem d_Mind_sumOfLots_9 : decode b_Mind_sumOfLots 9 = .ok (.istore 5, 2) := by decide +kernel
theorem d_Mind_sumOfLots_11 : decode b_Mind_sumOfLots 11 = .ok (.iload 5, 2) := by decide +kernel
theorem d_Mind_sumOfLots_13 : decode b_Mind_sumOfLots 13 = .ok (.iload_n 1, 1) := by decide +kernel
theorem d_Mind_sumOfLots_14 : decode b_Mind_sumOfLots 14 = .ok (.if_icmp .ge 42, 3) := by decide +kernel
theorem d_Mind_sumOfLots_17 : decode b_Mind_sumOfLots 17 = .ok (.aload_n 0, 1) := by decide +kernel
theorem d_Mind_sumOfLots_18 : decode b_Mind_sumOfLots 18 = .ok (.invokevirtual 97, 3) := by decide +kernel
theorem d_Mind_sumOfLots_21 : decode b_Mind_sumOfLots 21 = .ok (.iload 4, 2) := by decide +kernel
theorem d_Mind_sumOfLots_23 : decode b_Mind_sumOfLots 23 = .ok (.iload_n 3, 1) := by decide +kernel
theorem d_Mind_sumOfLots_24 : decode b_Mind_sumOfLots 24 = .ok (.ifCond .eq 13, 3) := by decide +kernel
theorem d_Mind_sumOfLots_27 : decode b_Mind_sumOfLots 27 = .ok (.aload_n 0, 1) := by decide +kernel
theorem d_Mind_sumOfLots_28 : decode b_Mind_sumOfLots 28 = .ok (.getfield 15, 3) := by decide +kernel
theorem d_Mind_sumOfLots_31 : decode b_Mind_sumOfLots 31 = .ok (.invokevirtual 53, 3) := by decide +kernel
theorem d_Mind_sumOfLots_34 : decode b_Mind_sumOfLots 34 = .ok (.goto 13, 3) := by decide +kernel
theorem d_Mind_sumOfLots_37 : decode b_Mind_sumOfLots 37 = .ok (.aload_n 0, 1) := by decide +kernel
theorem d_Mind_sumOfLots_38 : decode b_Mind_sumOfLots 38 = .ok (.getfield 15, 3) := by decide +kernel
theorem d_Mind_sumOfLots_41 : decode b_Mind_sumOfLots 41 = .ok (.invokevirtual 100, 3) := by decide +kernel
theorem d_Mind_sumOfLots_44 : decode b_Mind_sumOfLots 44 = .ok (.getfield 104, 3) := by decide +kernel
theorem d_Mind_sumOfLots_47 : decode b_Mind_sumOfLots 47 = .ok (.iadd, 1) := by decide +kernel
theorem d_Mind_sumOfLots_48 : decode b_Mind_sumOfLots 48 = .ok (.istore 4, 2) := by decide +kernel
theorem d_Mind_sumOfLots_50 : decode b_Mind_sumOfLots 50 = .ok (.iinc 5 1, 3) := by decide +kernel
theorem d_Mind_sumOfLots_53 : decode b_Mind_sumOfLots 53 = .ok (.goto (-42), 3) := by decide +kernel
theorem d_Mind_sumOfLots_56 : decode b_Mind_sumOfLots 56 = .ok (.iload 4, 2) := by decide +kernel
theorem d_Mind_sumOfLots_58 : decode b_Mind_sumOfLots 58 = .ok (.ireturn, 1) := by decide +kernel
def m_Mind_sumOfLots_11 : Nat → Int → Int → Int → Int → Int → (Int → Int) → (Int → Int) → (Int → Int) → (Int → Int) → (Int → Int) → (Int → Int) → (Int → Int) → (Int → Int) → (Int → Int) → (Int → Int) → (Int → Int) → (Int → Int) → Int → (Int → Int) → (Int → Int) → Option (Int × Int × (Int → Int) × (Int → Int) × (Int → Int) × (Int → Int) × (Int → Int) × (Int → Int) × Int × (Int → Int) × (Int → Int))
  | 0, _, _, _, _, _, _, _, _, _, _, _, _, _, _, _, _, _, _, _, _ => none
  | fuel + 1, v1, v3, v4, v5, seed, now, nbt, nki, npl, nva, nwr, tow, tbt, tki, tpl, tva, twr, trm, trs, trz =>
  clt v5 v1 (bnd (m_Mind_playLot seed now nbt nki npl nva nwr tow tbt tki tpl tva twr trm trs trz) (fun r1 => ceq v3 0 (bnd (m_Disk_lookedAtRuns r1.2.1 r1.2.2.2.2.2.2.2.1 r1.2.2.2.2.2.2.2.2.1 r1.2.2.2.2.2.2.2.2.2) (fun r3 => m_Mind_sumOfLots_11 fuel v1 v3 (v4 + r3.1) (v5 + 1) r1.1 now nbt nki npl nva nwr r1.2.1 r1.2.2.1 r1.2.2.2.1 r1.2.2.2.2.1 r1.2.2.2.2.2.1 r1.2.2.2.2.2.2.1 r3.1 r3.2.1 r3.2.2)) (bnd (m_Disk_extentsInAll r1.2.2.2.2.1 r1.2.2.2.2.2.2.1) (fun r5 => m_Mind_sumOfLots_11 fuel v1 v3 (v4 + r5) (v5 + 1) r1.1 now nbt nki npl nva nwr r1.2.1 r1.2.2.1 r1.2.2.2.1 r1.2.2.2.2.1 r1.2.2.2.2.2.1 r1.2.2.2.2.2.2.1 r1.2.2.2.2.2.2.2.1 r1.2.2.2.2.2.2.2.2.1 r1.2.2.2.2.2.2.2.2.2)))) (some (v4, seed, tow, tbt, tki, tpl, tva, twr, trm, trs, trz))
def m_Mind_sumOfLots (x1 : Int) (x2 : Int) (x3 : Int) (seed : Int) (now : Int → Int) (nbt : Int → Int) (nki : Int → Int) (npl : Int → Int) (nva : Int → Int) (nwr : Int → Int) (tow : Int → Int) (tbt : Int → Int) (tki : Int → Int) (tpl : Int → Int) (tva : Int → Int) (twr : Int → Int) (trm : Int) (trs : Int → Int) (trz : Int → Int) : Option (Int × Int × (Int → Int) × (Int → Int) × (Int → Int) × (Int → Int) × (Int → Int) × (Int → Int) × Int × (Int → Int) × (Int → Int)) :=
  m_Mind_sumOfLots_11 5000 x1 x3 0 0 x2 now nbt nki npl nva nwr tow tbt tki tpl tva twr trm trs trz
set_option maxHeartbeats 4000000 in
set_option maxRecDepth 100000 in
theorem l_Mind_sumOfLots_11 {G : GT} {l : Launch} {D : va_G} {cI cB : ClassId} {a0 a1 a2 a3 a4 a5 a6 a7 a8 a9 a10 a11 a12 a13 a14 a15 a16 a17 a18 a19 a20 : Nat} {nrm : Int} {nrs : Int → Int} {nrz : Int → Int} (X : Cx G l D cI cB b_Mind_sumOfLots y_Mind_sumOfLots.cls 6 { frames := 5, cells := 0, slots := 0, locals := 127 }) : ∀ (fuel : Nat) (v1 : Int) (v3 : Int) (v4 : Int) (v5 : Int) (seed : Int) (now : Int → Int) (nbt : Int → Int) (nki : Int → Int) (npl : Int → Int) (nva : Int → Int) (nwr : Int → Int) (tow : Int → Int) (tbt : Int → Int) (tki : Int → Int) (tpl : Int → Int) (tva : Int → Int) (twr : Int → Int) (trm : Int) (trs : Int → Int) (trz : Int → Int) (o : Int × Int × (Int → Int) × (Int → Int) × (Int → Int) × (Int → Int) × (Int → Int) × (Int → Int) × Int × (Int → Int) × (Int → Int)), m_Mind_sumOfLots_11 fuel v1 v3 v4 v5 seed now nbt nki npl nva nwr tow tbt tki tpl tva twr trm trs trz = some o → Rt G (some .int) (some (.int (zi o.1))) (w_Mind cI cB a0 a1 a2 a3 a4 a5 a6 a7 a8 a9 a10 a11 a12 a13 a14 a15 a16 a17 a18 a19 a20 o.2.1 now nbt nki npl nva nwr nrm nrs nrz o.2.2.1 o.2.2.2.1 o.2.2.2.2.1 o.2.2.2.2.2.1 o.2.2.2.2.2.2.1 o.2.2.2.2.2.2.2.1 o.2.2.2.2.2.2.2.2.1 o.2.2.2.2.2.2.2.2.2.1 o.2.2.2.2.2.2.2.2.2.2) → Wx G 0 0 11 [(0, .ref a0), (1, .int (zi v1)), (3, .int (zi v3)), (4, .int (zi v4)), (5, .int (zi v5))] [] (w_Mind cI cB a0 a1 a2 a3 a4 a5 a6 a7 a8 a9 a10 a11 a12 a13 a14 a15 a16 a17 a18 a19 a20 seed now nbt nki npl nva nwr nrm nrs nrz tow tbt tki tpl tva twr trm trs trz) := by
  intro fuel
  induction fuel with
  | zero =>
    intro v1 v3 v4 v5 seed now nbt nki npl nva nwr tow tbt tki tpl tva twr trm trs trz o h
    exact absurd h (by simp [m_Mind_sumOfLots_11])
  | succ fuel ih =>
    intro v1 v3 v4 v5 seed now nbt nki npl nva nwr tow tbt tki tpl tva twr trm trs trz o h hR
    rw [m_Mind_sumOfLots_11] at h
    refine x_iload (pc := 11) X d_Mind_sumOfLots_11 4 rfl ?_
    refine x_iload_n (pc := 13) X d_Mind_sumOfLots_13 1 rfl rfl ?_
    refine x_icmpge (pc := 14) (tgt := 56) X d_Mind_sumOfLots_14 rfl h (fun h => ?_) (fun h => ?_)
    · skip
      refine x_iload (pc := 56) X d_Mind_sumOfLots_56 3 rfl ?_
      cases h
      exact x_iret (pc := 58) X hR d_Mind_sumOfLots_58
    · skip
      refine x_aload_n (pc := 17) X d_Mind_sumOfLots_17 0 rfl rfl ?_
      obtain ⟨r1, h2, h⟩ := bnd_e h
      refine x_callV (pc := 18) (As := []) (rest := []) (w2 := (w_Mind cI cB a0 a1 a2 a3 a4 a5 a6 a7 a8 a9 a10 a11 a12 a13 a14 a15 a16 a17 a18 a19 a20 r1.1 now nbt nki npl nva nwr nrm nrs nrz r1.2.1 r1.2.2.1 r1.2.2.2.1 r1.2.2.2.2.1 r1.2.2.2.2.2.1 r1.2.2.2.2.2.2.1 r1.2.2.2.2.2.2.2.1 r1.2.2.2.2.2.2.2.2.1 r1.2.2.2.2.2.2.2.2.2)) X d_Mind_sumOfLots_18 lk_Mind_97 mv_Mind_playLot (c_Mind_playLot l D cI cB a0 a1 a2 a3 a4 a5 a6 a7 a8 a9 a10 a11 a12 a13 a14 a15 a16 a17 a18 a19 a20 seed now nbt nki npl nva nwr nrm nrs nrz tow tbt tki tpl tva twr trm trs trz h2) ⟨(Nat.le_of_ble_eq_true rfl), (Nat.le_of_ble_eq_true rfl), (Nat.le_of_ble_eq_true rfl), (Nat.le_of_ble_eq_true rfl)⟩ 0 rfl rfl [0, 1, 2, 3, 4, 5, 6, 7, 8, 9, 10, 11, 12, 13, 14, 15, 16, 17, 18, 19, 20] rfl rfl rfl (Up.of [] [] rfl rfl rfl 21 rfl (by decide +kernel)) rfl rfl (Nat.le_of_ble_eq_true rfl) ?_
      refine x_iload (pc := 21) X d_Mind_sumOfLots_21 3 rfl ?_
      refine x_iload_n (pc := 23) X d_Mind_sumOfLots_23 2 rfl rfl ?_
      refine x_ifeq (pc := 24) (tgt := 37) X d_Mind_sumOfLots_24 rfl h (fun h => ?_) (fun h => ?_)
      · skip
        refine x_aload_n (pc := 37) X d_Mind_sumOfLots_37 0 rfl rfl ?_
        refine x_get (pc := 38) X d_Mind_sumOfLots_38 0 rfl fl_Mind_15 rfl ?_
        obtain ⟨r3, h4, h⟩ := bnd_e h
        refine x_callV (pc := 41) (As := []) (rest := [.int (zi v4)]) (w2 := (w_Mind cI cB a0 a1 a2 a3 a4 a5 a6 a7 a8 a9 a10 a11 a12 a13 a14 a15 a16 a17 a18 a19 a20 r1.1 now nbt nki npl nva nwr nrm nrs nrz r1.2.1 r1.2.2.1 r1.2.2.2.1 r1.2.2.2.2.1 r1.2.2.2.2.2.1 r1.2.2.2.2.2.2.1 r3.1 r3.2.1 r3.2.2)) X d_Mind_sumOfLots_41 lk_Mind_100 mv_Disk_lookedAtRuns (c_Disk_lookedAtRuns l D cI cB a11 a12 a13 a14 a15 a16 a17 a18 a19 a20 r1.2.1 r1.2.2.1 r1.2.2.2.1 r1.2.2.2.2.1 r1.2.2.2.2.2.1 r1.2.2.2.2.2.2.1 r1.2.2.2.2.2.2.2.1 r1.2.2.2.2.2.2.2.2.1 r1.2.2.2.2.2.2.2.2.2 h4) ⟨(Nat.le_of_ble_eq_true rfl), (Nat.le_of_ble_eq_true rfl), (Nat.le_of_ble_eq_true rfl), (Nat.le_of_ble_eq_true rfl)⟩ 11 rfl rfl [11, 12, 13, 14, 15, 16, 17, 18, 19, 20] rfl rfl rfl (Up.of [0, 1, 2, 3, 4, 5, 6, 7, 8, 9, 10] [(a0, .inr (1, [.ref a1, .ref a11, .int (zi r1.1)])), (a1, .inr (0, [.ref a2, .ref a3, .ref a4, .ref a5, .ref a6, .ref a7, .ref a8])), (a2, zA cI 64 now), (a3, zA cI 64 nbt), (a4, zA cI 4 nki), (a5, zA cI 96 npl), (a6, zA cI 96 nva), (a7, zA cB 96 nwr), (a8, .inr (3, [.ref a9, .ref a10, .int (zi nrm)])), (a9, zA cI 32 nrs), (a10, zA cI 32 nrz)] rfl rfl rfl 21 rfl (by decide +kernel)) rfl rfl (Nat.le_of_ble_eq_true rfl) ?_
        refine x_get (pc := 44) X d_Mind_sumOfLots_44 18 rfl fl_Mind_104 rfl ?_
        refine x_iadd (pc := 47) X d_Mind_sumOfLots_47  ?_
        refine x_istore (pc := 48) (ls2 := [(4, .int (zi (v4 + r3.1))), (0, .ref a0), (1, .int (zi v1)), (3, .int (zi v3)), (5, .int (zi v5))]) X d_Mind_sumOfLots_48 (Nat.le_of_ble_eq_true rfl) rfl ?_
        refine x_iinc (pc := 50) (ls2 := [(5, .int (zi (v5 + 1))), (4, .int (zi (v4 + r3.1))), (0, .ref a0), (1, .int (zi v1)), (3, .int (zi v3))]) X d_Mind_sumOfLots_50 4 (Nat.le_of_ble_eq_true rfl) rfl rfl ?_
        refine x_goto (pc := 53) (tgt := 11) X d_Mind_sumOfLots_53 rfl ?_
        refine x_ls (ls2 := [(0, .ref a0), (1, .int (zi v1)), (3, .int (zi v3)), (4, .int (zi (v4 + r3.1))), (5, .int (zi (v5 + 1)))]) [2, 3, 4, 1, 0] rfl ?_
        exact ih v1 v3 (v4 + r3.1) (v5 + 1) r1.1 now nbt nki npl nva nwr r1.2.1 r1.2.2.1 r1.2.2.2.1 r1.2.2.2.2.1 r1.2.2.2.2.2.1 r1.2.2.2.2.2.2.1 r3.1 r3.2.1 r3.2.2 o h hR
      · skip
        refine x_aload_n (pc := 27) X d_Mind_sumOfLots_27 0 rfl rfl ?_
        refine x_get (pc := 28) X d_Mind_sumOfLots_28 0 rfl fl_Mind_15 rfl ?_
        obtain ⟨r5, h6, h⟩ := bnd_e h
        refine x_callV (pc := 31) (As := []) (rest := [.int (zi v4)]) (w2 := (w_Mind cI cB a0 a1 a2 a3 a4 a5 a6 a7 a8 a9 a10 a11 a12 a13 a14 a15 a16 a17 a18 a19 a20 r1.1 now nbt nki npl nva nwr nrm nrs nrz r1.2.1 r1.2.2.1 r1.2.2.2.1 r1.2.2.2.2.1 r1.2.2.2.2.2.1 r1.2.2.2.2.2.2.1 r1.2.2.2.2.2.2.2.1 r1.2.2.2.2.2.2.2.2.1 r1.2.2.2.2.2.2.2.2.2)) X d_Mind_sumOfLots_31 lk_Mind_53 mv_Disk_extentsInAll (c_Disk_extentsInAll l D cI cB a11 a12 a13 a14 a15 a16 a17 a18 a19 a20 r1.2.1 r1.2.2.1 r1.2.2.2.1 r1.2.2.2.2.1 r1.2.2.2.2.2.1 r1.2.2.2.2.2.2.1 r1.2.2.2.2.2.2.2.1 r1.2.2.2.2.2.2.2.2.1 r1.2.2.2.2.2.2.2.2.2 h6) ⟨(Nat.le_of_ble_eq_true rfl), (Nat.le_of_ble_eq_true rfl), (Nat.le_of_ble_eq_true rfl), (Nat.le_of_ble_eq_true rfl)⟩ 11 rfl rfl [11, 12, 13, 14, 15, 16, 17, 18, 19, 20] rfl rfl rfl (Up.same rfl) rfl rfl (Nat.le_of_ble_eq_true rfl) ?_
        refine x_goto (pc := 34) (tgt := 47) X d_Mind_sumOfLots_34 rfl ?_
        refine x_iadd (pc := 47) X d_Mind_sumOfLots_47  ?_
        refine x_istore (pc := 48) (ls2 := [(4, .int (zi (v4 + r5))), (0, .ref a0), (1, .int (zi v1)), (3, .int (zi v3)), (5, .int (zi v5))]) X d_Mind_sumOfLots_48 (Nat.le_of_ble_eq_true rfl) rfl ?_
        refine x_iinc (pc := 50) (ls2 := [(5, .int (zi (v5 + 1))), (4, .int (zi (v4 + r5))), (0, .ref a0), (1, .int (zi v1)), (3, .int (zi v3))]) X d_Mind_sumOfLots_50 4 (Nat.le_of_ble_eq_true rfl) rfl rfl ?_
        refine x_goto (pc := 53) (tgt := 11) X d_Mind_sumOfLots_53 rfl ?_
        refine x_ls (ls2 := [(0, .ref a0), (1, .int (zi v1)), (3, .int (zi v3)), (4, .int (zi (v4 + r5))), (5, .int (zi (v5 + 1)))]) [2, 3, 4, 1, 0] rfl ?_
        exact ih v1 v3 (v4 + r5) (v5 + 1) r1.1 now nbt nki npl nva nwr r1.2.1 r1.2.2.1 r1.2.2.2.1 r1.2.2.2.2.1 r1.2.2.2.2.2.1 r1.2.2.2.2.2.2.1 r1.2.2.2.2.2.2.2.1 r1.2.2.2.2.2.2.2.2.1 r1.2.2.2.2.2.2.2.2.2 o h hR
set_option maxHeartbeats 4000000 in
set_option maxRecDepth 100000 in
theorem c_Mind_sumOfLots (l : Launch) (D : va_G) (cI cB : ClassId) (a0 a1 a2 a3 a4 a5 a6 a7 a8 a9 a10 a11 a12 a13 a14 a15 a16 a17 a18 a19 a20 : Nat) (seed : Int) (now : Int → Int) (nbt : Int → Int) (nki : Int → Int) (npl : Int → Int) (nva : Int → Int) (nwr : Int → Int) (nrm : Int) (nrs : Int → Int) (nrz : Int → Int) (tow : Int → Int) (tbt : Int → Int) (tki : Int → Int) (tpl : Int → Int) (tva : Int → Int) (twr : Int → Int) (trm : Int) (trs : Int → Int) (trz : Int → Int) (x1 : Int) (x2 : Int) (x3 : Int) {o : Int × Int × (Int → Int) × (Int → Int) × (Int → Int) × (Int → Int) × (Int → Int) × (Int → Int) × Int × (Int → Int) × (Int → Int)} (h : m_Mind_sumOfLots x1 x2 x3 seed now nbt nki npl nva nwr tow tbt tki tpl tva twr trm trs trz = some o) : Ct l D cI cB y_Mind_sumOfLots b_Mind_sumOfLots 6 (some .int) { frames := 5, cells := 0, slots := 0, locals := 127 } [.ref a0, .int (zi x1), .int (zi x2), .int (zi x3)] (w_Mind cI cB a0 a1 a2 a3 a4 a5 a6 a7 a8 a9 a10 a11 a12 a13 a14 a15 a16 a17 a18 a19 a20 seed now nbt nki npl nva nwr nrm nrs nrz tow tbt tki tpl tva twr trm trs trz) (w_Mind cI cB a0 a1 a2 a3 a4 a5 a6 a7 a8 a9 a10 a11 a12 a13 a14 a15 a16 a17 a18 a19 a20 o.2.1 now nbt nki npl nva nwr nrm nrs nrz o.2.2.1 o.2.2.2.1 o.2.2.2.2.1 o.2.2.2.2.2.1 o.2.2.2.2.2.2.1 o.2.2.2.2.2.2.2.1 o.2.2.2.2.2.2.2.2.1 o.2.2.2.2.2.2.2.2.2.1 o.2.2.2.2.2.2.2.2.2.2) (some (.int (zi o.1))) := by
  refine Ct.start (by decide) (Nat.le_of_ble_eq_true rfl) (fun G X hR => ?_)
  refine x_ls (ls2 := [(0, .ref a0), (1, .int (zi x1)), (2, .int (zi x2)), (3, .int (zi x3))]) [0, 1, 2, 3] rfl ?_
  unfold m_Mind_sumOfLots at h
  refine x_aload_n (pc := 0) X d_Mind_sumOfLots_0 0 rfl rfl ?_
  refine x_iload_n (pc := 1) X d_Mind_sumOfLots_1 2 rfl rfl ?_
  refine x_put (pc := 2) (w2 := (w_Mind cI cB a0 a1 a2 a3 a4 a5 a6 a7 a8 a9 a10 a11 a12 a13 a14 a15 a16 a17 a18 a19 a20 x2 now nbt nki npl nva nwr nrm nrs nrz tow tbt tki tpl tva twr trm trs trz)) X d_Mind_sumOfLots_2 0 rfl (fp_Mind_18 _) (Nat.le_of_ble_eq_true rfl) rfl ?_
  refine x_iconst (pc := 5) X d_Mind_sumOfLots_5  ?_
  refine x_istore (pc := 6) (ls2 := [(4, .int (zi 0)), (0, .ref a0), (1, .int (zi x1)), (2, .int (zi x2)), (3, .int (zi x3))]) X d_Mind_sumOfLots_6 (Nat.le_of_ble_eq_true rfl) rfl ?_
  refine x_iconst (pc := 8) X d_Mind_sumOfLots_8  ?_
  refine x_istore (pc := 9) (ls2 := [(5, .int (zi 0)), (4, .int (zi 0)), (0, .ref a0), (1, .int (zi x1)), (2, .int (zi x2)), (3, .int (zi x3))]) X d_Mind_sumOfLots_9 (Nat.le_of_ble_eq_true rfl) rfl ?_
  refine x_ls (ls2 := [(0, .ref a0), (1, .int (zi x1)), (3, .int (zi x3)), (4, .int (zi 0)), (5, .int (zi 0))]) [2, 3, 5, 1, 0] rfl ?_
  exact l_Mind_sumOfLots_11 X 5000 x1 x3 0 0 x2 now nbt nki npl nva nwr tow tbt tki tpl tva twr trm trs trz o h hR
