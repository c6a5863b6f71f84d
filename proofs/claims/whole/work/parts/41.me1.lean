theorem d_Vol_first_0 : decode b_Vol_first 0 = .ok (.iload_n 1, 1) := by decide +kernel
theorem d_Vol_first_1 : decode b_Vol_first 1 = .ok (.invokestatic 84, 3) := by decide +kernel
theorem d_Vol_first_4 : decode b_Vol_first 4 = .ok (.ifCond .eq 15, 3) := by decide +kernel
theorem d_Vol_first_7 : decode b_Vol_first 7 = .ok (.iload_n 2, 1) := by decide +kernel
theorem d_Vol_first_8 : decode b_Vol_first 8 = .ok (.invokestatic 84, 3) := by decide +kernel
theorem d_Vol_first_11 : decode b_Vol_first 11 = .ok (.ifCond .eq 8, 3) := by decide +kernel
theorem d_Vol_first_14 : decode b_Vol_first 14 = .ok (.iload_n 1, 1) := by decide +kernel
theorem d_Vol_first_15 : decode b_Vol_first 15 = .ok (.iload_n 2, 1) := by decide +kernel
theorem d_Vol_first_16 : decode b_Vol_first 16 = .ok (.if_icmp .ne 9, 3) := by decide +kernel
theorem d_Vol_first_19 : decode b_Vol_first 19 = .ok (.aload_n 0, 1) := by decide +kernel
theorem d_Vol_first_20 : decode b_Vol_first 20 = .ok (.iconst (-1), 1) := by decide +kernel
theorem d_Vol_first_21 : decode b_Vol_first 21 = .ok (.invokevirtual 55, 3) := by decide +kernel
theorem d_Vol_first_24 : decode b_Vol_first 24 = .ok (.ireturn, 1) := by decide +kernel
theorem d_Vol_first_25 : decode b_Vol_first 25 = .ok (.aload_n 0, 1) := by decide +kernel
theorem d_Vol_first_26 : decode b_Vol_first 26 = .ok (.getfield 27, 3) := by decide +kernel
theorem d_Vol_first_29 : decode b_Vol_first 29 = .ok (.iload_n 1, 1) := by decide +kernel
theorem d_Vol_first_30 : decode b_Vol_first 30 = .ok (.iload_n 2, 1) := by decide +kernel
theorem d_Vol_first_31 : decode b_Vol_first 31 = .ok (.invokevirtual 230, 3) := by decide +kernel
theorem d_Vol_first_34 : decode b_Vol_first 34 = .ok (.istore_n 3, 1) := by decide +kernel
theorem d_Vol_first_35 : decode b_Vol_first 35 = .ok (.aload_n 0, 1) := by decide +kernel
theorem d_Vol_first_36 : decode b_Vol_first 36 = .ok (.getfield 27, 3) := by decide +kernel
theorem d_Vol_first_39 : decode b_Vol_first 39 = .ok (.iload_n 2, 1) := by decide +kernel
theorem d_Vol_first_40 : decode b_Vol_first 40 = .ok (.iload_n 1, 1) := by decide +kernel
theorem d_Vol_first_41 : decode b_Vol_first 41 = .ok (.invokevirtual 230, 3) := by decide +kernel
theorem d_Vol_first_44 : decode b_Vol_first 44 = .ok (.istore 4, 2) := by decide +kernel
theorem d_Vol_first_46 : decode b_Vol_first 46 = .ok (.iload_n 3, 1) := by decide +kernel
theorem d_Vol_first_47 : decode b_Vol_first 47 = .ok (.iload 4, 2) := by decide +kernel
theorem d_Vol_first_49 : decode b_Vol_first 49 = .ok (.if_icmp .ne 6, 3) := by decide +kernel
theorem d_Vol_first_52 : decode b_Vol_first 52 = .ok (.bipush (-9), 2) := by decide +kernel
theorem d_Vol_first_54 : decode b_Vol_first 54 = .ok (.ireturn, 1) := by decide +kernel
theorem d_Vol_first_55 : decode b_Vol_first 55 = .ok (.iload_n 3, 1) := by decide +kernel
theorem d_Vol_first_56 : decode b_Vol_first 56 = .ok (.iload 4, 2) := by decide +kernel
theorem d_Vol_first_58 : decode b_Vol_first 58 = .ok (.if_icmp .ge 7, 3) := by decide +kernel
theorem d_Vol_first_61 : decode b_Vol_first 61 = .ok (.iconst 0, 1) := by decide +kernel
theorem d_Vol_first_62 : decode b_Vol_first 62 = .ok (.goto 4, 3) := by decide +kernel
theorem d_Vol_first_65 : decode b_Vol_first 65 = .ok (.iconst 1, 1) := by decide +kernel
theorem d_Vol_first_66 : decode b_Vol_first 66 = .ok (.ireturn, 1) := by decide +kernel
def m_Vol_first (x1 : Int) (x2 : Int) (now : Int → Int) (nbt : Int → Int) (nki : Int → Int) (npl : Int → Int) (nva : Int → Int) (nwr : Int → Int) (tow : Int → Int) (tbt : Int → Int) (tki : Int → Int) (tpl : Int → Int) (tva : Int → Int) (twr : Int → Int) (trm : Int) (trs : Int → Int) (trz : Int → Int) (rf : Int → Int) : Option (Int × (Int → Int) × (Int → Int) × (Int → Int) × (Int → Int) × (Int → Int) × (Int → Int) × Int × (Int → Int) × (Int → Int) × (Int → Int)) :=
  bnd (m_Vol_isFile x1) (fun r1 => jn (fun (c4 : Int → Int) (c5 : Int → Int) (c6 : Int → Int) (c7 : Int → Int) (c8 : Int → Int) (c9 : Int → Int) (c10 : Int) (c11 : Int → Int) (c12 : Int → Int) (c13 : Int → Int) => bnd (m_Vol_refuse (-1) c13) (fun r14 => some (r14.1, c4, c5, c6, c7, c8, c9, c10, c11, c12, r14.2))) (fun j3 => ceq r1 0 (j3 tow tbt tki tpl tva twr trm trs trz rf) (bnd (m_Vol_isFile x2) (fun r18 => ceq r18 0 (j3 tow tbt tki tpl tva twr trm trs trz rf) (ceq x1 x2 (j3 tow tbt tki tpl tva twr trm trs trz rf) (bnd (m_Mind_extentsOfPair x1 x2 now nbt nki npl nva nwr tow tbt tki tpl tva twr trm trs trz) (fun r20 => bnd (m_Mind_extentsOfPair x2 x1 now nbt nki npl nva nwr r20.2.1 r20.2.2.1 r20.2.2.2.1 r20.2.2.2.2.1 r20.2.2.2.2.2.1 r20.2.2.2.2.2.2.1 r20.2.2.2.2.2.2.2.1 r20.2.2.2.2.2.2.2.2.1 r20.2.2.2.2.2.2.2.2.2) (fun r22 => ceq r20.1 r22.1 (some ((-9), r22.2.1, r22.2.2.1, r22.2.2.2.1, r22.2.2.2.2.1, r22.2.2.2.2.2.1, r22.2.2.2.2.2.2.1, r22.2.2.2.2.2.2.2.1, r22.2.2.2.2.2.2.2.2.1, r22.2.2.2.2.2.2.2.2.2, rf)) (clt r20.1 r22.1 (some (0, r22.2.1, r22.2.2.1, r22.2.2.2.1, r22.2.2.2.2.1, r22.2.2.2.2.2.1, r22.2.2.2.2.2.2.1, r22.2.2.2.2.2.2.2.1, r22.2.2.2.2.2.2.2.2.1, r22.2.2.2.2.2.2.2.2.2, rf)) (some (1, r22.2.1, r22.2.2.1, r22.2.2.2.1, r22.2.2.2.2.1, r22.2.2.2.2.2.1, r22.2.2.2.2.2.2.1, r22.2.2.2.2.2.2.2.1, r22.2.2.2.2.2.2.2.2.1, r22.2.2.2.2.2.2.2.2.2, rf)))))))))))
set_option maxHeartbeats 4000000 in
set_option maxRecDepth 100000 in
theorem c_Vol_first (l : Launch) (D : va_G) (cI cB : ClassId) (a0 a1 a2 a3 a4 a5 a6 a7 a8 a9 a10 a11 a12 a13 a14 a15 a16 a17 a18 a19 a20 a21 a22 a23 a24 a25 a26 a27 a28 a29 a30 a31 a32 a33 a34 a35 a36 a37 : Nat) (ik : Int) (now : Int → Int) (nbt : Int → Int) (nki : Int → Int) (npl : Int → Int) (nva : Int → Int) (nwr : Int → Int) (nrm : Int) (nrs : Int → Int) (nrz : Int → Int) (kow : Int → Int) (kbt : Int → Int) (kki : Int → Int) (kpl : Int → Int) (kva : Int → Int) (kwr : Int → Int) (krm : Int) (krs : Int → Int) (krz : Int → Int) (tow : Int → Int) (tbt : Int → Int) (tki : Int → Int) (tpl : Int → Int) (tva : Int → Int) (twr : Int → Int) (trm : Int) (trs : Int → Int) (trz : Int → Int) (seed : Int) (smn : Int) (snu : Int → Int) (rmn : Int) (rnu : Int → Int) (rf : Int → Int) (x1 : Int) (x2 : Int) {o : Int × (Int → Int) × (Int → Int) × (Int → Int) × (Int → Int) × (Int → Int) × (Int → Int) × Int × (Int → Int) × (Int → Int) × (Int → Int)} (h : m_Vol_first x1 x2 now nbt nki npl nva nwr tow tbt tki tpl tva twr trm trs trz rf = some o) : Ct l D cI cB y_Vol_first b_Vol_first 5 (some .int) { frames := 5, cells := 0, slots := 0, locals := 125 } [.ref a0, .int (zi x1), .int (zi x2)] (w_Vol cI cB a0 a1 a2 a3 a4 a5 a6 a7 a8 a9 a10 a11 a12 a13 a14 a15 a16 a17 a18 a19 a20 a21 a22 a23 a24 a25 a26 a27 a28 a29 a30 a31 a32 a33 a34 a35 a36 a37 ik now nbt nki npl nva nwr nrm nrs nrz kow kbt kki kpl kva kwr krm krs krz tow tbt tki tpl tva twr trm trs trz seed smn snu rmn rnu rf) (w_Vol cI cB a0 a1 a2 a3 a4 a5 a6 a7 a8 a9 a10 a11 a12 a13 a14 a15 a16 a17 a18 a19 a20 a21 a22 a23 a24 a25 a26 a27 a28 a29 a30 a31 a32 a33 a34 a35 a36 a37 ik now nbt nki npl nva nwr nrm nrs nrz kow kbt kki kpl kva kwr krm krs krz o.2.1 o.2.2.1 o.2.2.2.1 o.2.2.2.2.1 o.2.2.2.2.2.1 o.2.2.2.2.2.2.1 o.2.2.2.2.2.2.2.1 o.2.2.2.2.2.2.2.2.1 o.2.2.2.2.2.2.2.2.2.1 seed smn snu rmn rnu o.2.2.2.2.2.2.2.2.2.2) (some (.int (zi o.1))) := by
  refine Ct.start (by decide) (Nat.le_of_ble_eq_true rfl) (fun G X hR => ?_)
  refine x_ls (ls2 := [(0, .ref a0), (1, .int (zi x1)), (2, .int (zi x2))]) [0, 1, 2] rfl ?_
  unfold m_Vol_first at h
  refine x_iload_n (pc := 0) X d_Vol_first_0 1 rfl rfl ?_
  obtain ⟨r1, h2, h⟩ := bnd_e h
  refine x_callS (pc := 1) (As := [.int (zi x1)]) (rest := []) (w2 := (w_Vol cI cB a0 a1 a2 a3 a4 a5 a6 a7 a8 a9 a10 a11 a12 a13 a14 a15 a16 a17 a18 a19 a20 a21 a22 a23 a24 a25 a26 a27 a28 a29 a30 a31 a32 a33 a34 a35 a36 a37 ik now nbt nki npl nva nwr nrm nrs nrz kow kbt kki kpl kva kwr krm krs krz tow tbt tki tpl tva twr trm trs trz seed smn snu rmn rnu rf)) X d_Vol_first_1 lk_Vol_84 mv_Vol_isFile (c_Vol_isFile l D cI cB x1 h2) ⟨(Nat.le_of_ble_eq_true rfl), (Nat.le_of_ble_eq_true rfl), (Nat.le_of_ble_eq_true rfl), (Nat.le_of_ble_eq_true rfl)⟩ [] rfl rfl rfl (Up.same rfl) rfl rfl (Nat.le_of_ble_eq_true rfl) ?_
  obtain ⟨j3, hj16, h⟩ := jn_e h
  have J17 : ∀ (c4 : Int → Int) (c5 : Int → Int) (c6 : Int → Int) (c7 : Int → Int) (c8 : Int → Int) (c9 : Int → Int) (c10 : Int) (c11 : Int → Int) (c12 : Int → Int) (c13 : Int → Int), j3 c4 c5 c6 c7 c8 c9 c10 c11 c12 c13 = some o → Wx G 0 0 19 [(0, .ref a0)] [] (w_Vol cI cB a0 a1 a2 a3 a4 a5 a6 a7 a8 a9 a10 a11 a12 a13 a14 a15 a16 a17 a18 a19 a20 a21 a22 a23 a24 a25 a26 a27 a28 a29 a30 a31 a32 a33 a34 a35 a36 a37 ik now nbt nki npl nva nwr nrm nrs nrz kow kbt kki kpl kva kwr krm krs krz c4 c5 c6 c7 c8 c9 c10 c11 c12 seed smn snu rmn rnu c13) := by
    intro c4 c5 c6 c7 c8 c9 c10 c11 c12 c13 h
    rw [hj16] at h
    (try dsimp only at h)
    refine x_aload_n (pc := 19) X d_Vol_first_19 0 rfl rfl ?_
    refine x_iconst (pc := 20) X d_Vol_first_20  ?_
    obtain ⟨r14, h15, h⟩ := bnd_e h
    refine x_callV (pc := 21) (As := [.int (zi (-1))]) (rest := []) (w2 := (w_Vol cI cB a0 a1 a2 a3 a4 a5 a6 a7 a8 a9 a10 a11 a12 a13 a14 a15 a16 a17 a18 a19 a20 a21 a22 a23 a24 a25 a26 a27 a28 a29 a30 a31 a32 a33 a34 a35 a36 a37 ik now nbt nki npl nva nwr nrm nrs nrz kow kbt kki kpl kva kwr krm krs krz c4 c5 c6 c7 c8 c9 c10 c11 c12 seed smn snu rmn rnu r14.2)) X d_Vol_first_21 lk_Vol_55 mv_Vol_refuse (c_Vol_refuse l D cI cB a0 a1 a2 a3 a4 a5 a6 a7 a8 a9 a10 a11 a12 a13 a14 a15 a16 a17 a18 a19 a20 a21 a22 a23 a24 a25 a26 a27 a28 a29 a30 a31 a32 a33 a34 a35 a36 a37 ik now nbt nki npl nva nwr nrm nrs nrz kow kbt kki kpl kva kwr krm krs krz c4 c5 c6 c7 c8 c9 c10 c11 c12 seed smn snu rmn rnu c13 (-1) h15) ⟨(Nat.le_of_ble_eq_true rfl), (Nat.le_of_ble_eq_true rfl), (Nat.le_of_ble_eq_true rfl), (Nat.le_of_ble_eq_true rfl)⟩ 0 rfl rfl [0, 1, 2, 3, 4, 5, 6, 7, 8, 9, 10, 11, 12, 13, 14, 15, 16, 17, 18, 19, 20, 21, 22, 23, 24, 25, 26, 27, 28, 29, 30, 31, 32, 33, 34, 35, 36, 37] rfl rfl rfl (Up.of [] [] rfl rfl rfl 38 rfl (by decide +kernel)) rfl rfl (Nat.le_of_ble_eq_true rfl) ?_
    cases h
    exact x_iret (pc := 24) X hR d_Vol_first_24
  clear hj16
  refine x_ifeq (pc := 4) (tgt := 19) X d_Vol_first_4 rfl h (fun h => ?_) (fun h => ?_)
  · skip
    refine x_ls (ls2 := [(0, .ref a0)]) [0] rfl ?_
    exact J17 tow tbt tki tpl tva twr trm trs trz rf h
  · skip
    refine x_iload_n (pc := 7) X d_Vol_first_7 2 rfl rfl ?_
    obtain ⟨r18, h19, h⟩ := bnd_e h
    refine x_callS (pc := 8) (As := [.int (zi x2)]) (rest := []) (w2 := (w_Vol cI cB a0 a1 a2 a3 a4 a5 a6 a7 a8 a9 a10 a11 a12 a13 a14 a15 a16 a17 a18 a19 a20 a21 a22 a23 a24 a25 a26 a27 a28 a29 a30 a31 a32 a33 a34 a35 a36 a37 ik now nbt nki npl nva nwr nrm nrs nrz kow kbt kki kpl kva kwr krm krs krz tow tbt tki tpl tva twr trm trs trz seed smn snu rmn rnu rf)) X d_Vol_first_8 lk_Vol_84 mv_Vol_isFile (c_Vol_isFile l D cI cB x2 h19) ⟨(Nat.le_of_ble_eq_true rfl), (Nat.le_of_ble_eq_true rfl), (Nat.le_of_ble_eq_true rfl), (Nat.le_of_ble_eq_true rfl)⟩ [] rfl rfl rfl (Up.same rfl) rfl rfl (Nat.le_of_ble_eq_true rfl) ?_
    refine x_ifeq (pc := 11) (tgt := 19) X d_Vol_first_11 rfl h (fun h => ?_) (fun h => ?_)
    · skip
      refine x_ls (ls2 := [(0, .ref a0)]) [0] rfl ?_
      exact J17 tow tbt tki tpl tva twr trm trs trz rf h
    · skip
      refine x_iload_n (pc := 14) X d_Vol_first_14 1 rfl rfl ?_
      refine x_iload_n (pc := 15) X d_Vol_first_15 2 rfl rfl ?_
      refine x_icmpne (pc := 16) (tgt := 25) X d_Vol_first_16 rfl h (fun h => ?_) (fun h => ?_)
      · skip
        refine x_aload_n (pc := 25) X d_Vol_first_25 0 rfl rfl ?_
        refine x_get (pc := 26) X d_Vol_first_26 0 rfl fl_Vol_27 rfl ?_
        refine x_iload_n (pc := 29) X d_Vol_first_29 1 rfl rfl ?_
        refine x_iload_n (pc := 30) X d_Vol_first_30 2 rfl rfl ?_
        obtain ⟨r20, h21, h⟩ := bnd_e h
        refine x_callV (pc := 31) (As := [.int (zi x1), .int (zi x2)]) (rest := []) (w2 := (w_Vol cI cB a0 a1 a2 a3 a4 a5 a6 a7 a8 a9 a10 a11 a12 a13 a14 a15 a16 a17 a18 a19 a20 a21 a22 a23 a24 a25 a26 a27 a28 a29 a30 a31 a32 a33 a34 a35 a36 a37 ik now nbt nki npl nva nwr nrm nrs nrz kow kbt kki kpl kva kwr krm krs krz r20.2.1 r20.2.2.1 r20.2.2.2.1 r20.2.2.2.2.1 r20.2.2.2.2.2.1 r20.2.2.2.2.2.2.1 r20.2.2.2.2.2.2.2.1 r20.2.2.2.2.2.2.2.2.1 r20.2.2.2.2.2.2.2.2.2 seed smn snu rmn rnu rf)) X d_Vol_first_31 lk_Vol_230 mv_Mind_extentsOfPair (c_Mind_extentsOfPair l D cI cB a31 a1 a2 a3 a4 a5 a6 a7 a8 a9 a10 a21 a22 a23 a24 a25 a26 a27 a28 a29 a30 seed now nbt nki npl nva nwr nrm nrs nrz tow tbt tki tpl tva twr trm trs trz x1 x2 h21) ⟨(Nat.le_of_ble_eq_true rfl), (Nat.le_of_ble_eq_true rfl), (Nat.le_of_ble_eq_true rfl), (Nat.le_of_ble_eq_true rfl)⟩ 31 rfl rfl [31, 1, 2, 3, 4, 5, 6, 7, 8, 9, 10, 21, 22, 23, 24, 25, 26, 27, 28, 29, 30] rfl rfl rfl (Up.of [0, 11, 12, 13, 14, 15, 16, 17, 18, 19, 20, 32, 33, 34, 35, 36, 37] [(a0, .inr (5, [.ref a1, .ref a11, .ref a21, .ref a31, .ref a32, .ref a35, .ref a37, .int (zi ik)])), (a11, .inr (0, [.ref a12, .ref a13, .ref a14, .ref a15, .ref a16, .ref a17, .ref a18])), (a12, zA cI 64 kow), (a13, zA cI 64 kbt), (a14, zA cI 4 kki), (a15, zA cI 96 kpl), (a16, zA cI 96 kva), (a17, zA cB 96 kwr), (a18, .inr (3, [.ref a19, .ref a20, .int (zi krm)])), (a19, zA cI 32 krs), (a20, zA cI 32 krz), (a32, .inr (4, [.ref a33])), (a33, .inr (2, [.ref a34, .int (zi smn)])), (a34, zA cI 96 snu), (a35, .inr (2, [.ref a36, .int (zi rmn)])), (a36, zA cI 32 rnu), (a37, zA cI 7 rf)] rfl rfl rfl 38 rfl (by decide +kernel)) rfl rfl (Nat.le_of_ble_eq_true rfl) ?_
        refine x_istore_n (pc := 34) (ls2 := [(3, .int (zi r20.1)), (0, .ref a0), (1, .int (zi x1)), (2, .int (zi x2))]) X d_Vol_first_34 rfl (Nat.le_of_ble_eq_true rfl) rfl ?_
        refine x_aload_n (pc := 35) X d_Vol_first_35 1 rfl rfl ?_
        refine x_get (pc := 36) X d_Vol_first_36 0 rfl fl_Vol_27 rfl ?_
        refine x_iload_n (pc := 39) X d_Vol_first_39 3 rfl rfl ?_
        refine x_iload_n (pc := 40) X d_Vol_first_40 2 rfl rfl ?_
        obtain ⟨r22, h23, h⟩ := bnd_e h
        refine x_callV (pc := 41) (As := [.int (zi x2), .int (zi x1)]) (rest := []) (w2 := (w_Vol cI cB a0 a1 a2 a3 a4 a5 a6 a7 a8 a9 a10 a11 a12 a13 a14 a15 a16 a17 a18 a19 a20 a21 a22 a23 a24 a25 a26 a27 a28 a29 a30 a31 a32 a33 a34 a35 a36 a37 ik now nbt nki npl nva nwr nrm nrs nrz kow kbt kki kpl kva kwr krm krs krz r22.2.1 r22.2.2.1 r22.2.2.2.1 r22.2.2.2.2.1 r22.2.2.2.2.2.1 r22.2.2.2.2.2.2.1 r22.2.2.2.2.2.2.2.1 r22.2.2.2.2.2.2.2.2.1 r22.2.2.2.2.2.2.2.2.2 seed smn snu rmn rnu rf)) X d_Vol_first_41 lk_Vol_230 mv_Mind_extentsOfPair (c_Mind_extentsOfPair l D cI cB a31 a1 a2 a3 a4 a5 a6 a7 a8 a9 a10 a21 a22 a23 a24 a25 a26 a27 a28 a29 a30 seed now nbt nki npl nva nwr nrm nrs nrz r20.2.1 r20.2.2.1 r20.2.2.2.1 r20.2.2.2.2.1 r20.2.2.2.2.2.1 r20.2.2.2.2.2.2.1 r20.2.2.2.2.2.2.2.1 r20.2.2.2.2.2.2.2.2.1 r20.2.2.2.2.2.2.2.2.2 x2 x1 h23) ⟨(Nat.le_of_ble_eq_true rfl), (Nat.le_of_ble_eq_true rfl), (Nat.le_of_ble_eq_true rfl), (Nat.le_of_ble_eq_true rfl)⟩ 31 rfl rfl [31, 1, 2, 3, 4, 5, 6, 7, 8, 9, 10, 21, 22, 23, 24, 25, 26, 27, 28, 29, 30] rfl rfl rfl (Up.of [0, 11, 12, 13, 14, 15, 16, 17, 18, 19, 20, 32, 33, 34, 35, 36, 37] [(a0, .inr (5, [.ref a1, .ref a11, .ref a21, .ref a31, .ref a32, .ref a35, .ref a37, .int (zi ik)])), (a11, .inr (0, [.ref a12, .ref a13, .ref a14, .ref a15, .ref a16, .ref a17, .ref a18])), (a12, zA cI 64 kow), (a13, zA cI 64 kbt), (a14, zA cI 4 kki), (a15, zA cI 96 kpl), (a16, zA cI 96 kva), (a17, zA cB 96 kwr), (a18, .inr (3, [.ref a19, .ref a20, .int (zi krm)])), (a19, zA cI 32 krs), (a20, zA cI 32 krz), (a32, .inr (4, [.ref a33])), (a33, .inr (2, [.ref a34, .int (zi smn)])), (a34, zA cI 96 snu), (a35, .inr (2, [.ref a36, .int (zi rmn)])), (a36, zA cI 32 rnu), (a37, zA cI 7 rf)] rfl rfl rfl 38 rfl (by decide +kernel)) rfl rfl (Nat.le_of_ble_eq_true rfl) ?_
        refine x_istore (pc := 44) (ls2 := [(4, .int (zi r22.1)), (3, .int (zi r20.1)), (0, .ref a0), (1, .int (zi x1)), (2, .int (zi x2))]) X d_Vol_first_44 (Nat.le_of_ble_eq_true rfl) rfl ?_
        refine x_iload_n (pc := 46) X d_Vol_first_46 1 rfl rfl ?_
        refine x_iload (pc := 47) X d_Vol_first_47 0 rfl ?_
        refine x_icmpne (pc := 49) (tgt := 55) X d_Vol_first_49 rfl h (fun h => ?_) (fun h => ?_)
        · skip
          refine x_iload_n (pc := 55) X d_Vol_first_55 1 rfl rfl ?_
          refine x_iload (pc := 56) X d_Vol_first_56 0 rfl ?_
          refine x_icmpge (pc := 58) (tgt := 65) X d_Vol_first_58 rfl h (fun h => ?_) (fun h => ?_)
          · skip
            refine x_iconst (pc := 65) X d_Vol_first_65  ?_
            cases h
            exact x_iret (pc := 66) X hR d_Vol_first_66
          · skip
            refine x_iconst (pc := 61) X d_Vol_first_61  ?_
            refine x_goto (pc := 62) (tgt := 66) X d_Vol_first_62 rfl ?_
            cases h
            exact x_iret (pc := 66) X hR d_Vol_first_66
        · skip
          refine x_bipush (pc := 52) (v := -9) X d_Vol_first_52 rfl ?_
          cases h
          exact x_iret (pc := 54) X hR d_Vol_first_54
      · skip
        refine x_ls (ls2 := [(0, .ref a0)]) [0] rfl ?_
        exact J17 tow tbt tki tpl tva twr trm trs trz rf h
theorem d_Vol_two_0 : decode b_Vol_two 0 = .ok (.iload_n 1, 1) := by decide +kernel
theorem d_Vol_two_1 : decode b_Vol_two 1 = .ok (.invokestatic 84, 3) := by decide +kernel
theorem d_Vol_two_4 : decode b_Vol_two 4 = .ok (.ifCond .eq 15, 3) := by decide +kernel
theorem d_Vol_two_7 : decode b_Vol_two 7 = .ok (.iload_n 2, 1) := by decide +kernel
theorem d_Vol_two_8 : decode b_Vol_two 8 = .ok (.invokestatic 84, 3) := by decide +kernel
theorem d_Vol_two_11 : decode b_Vol_two 11 = .ok (.ifCond .eq 8, 3) := by decide +kernel
theorem d_Vol_two_14 : decode b_Vol_two 14 = .ok (.iload_n 1, 1) := by decide +kernel
theorem d_Vol_two_15 : decode b_Vol_two 15 = .ok (.iload_n 2, 1) := by decide +kernel
theorem d_Vol_two_16 : decode b_Vol_two 16 = .ok (.if_icmp .ne 9, 3) := by decide +kernel
theorem d_Vol_two_19 : decode b_Vol_two 19 = .ok (.aload_n 0, 1) := by decide +kernel
theorem d_Vol_two_20 : decode b_Vol_two 20 = .ok (.iconst (-1), 1) := by decide +kernel
theorem d_Vol_two_21 : decode b_Vol_two 21 = .ok (.invokevirtual 55, 3) := by decide +kernel
theorem d_Vol_two_24 : decode b_Vol_two 24 = .ok (.ireturn, 1) := by decide +kernel
theorem d_Vol_two_25 : decode b_Vol_two 25 = .ok (.iconst 0, 1) := by decide +kernel
theorem d_Vol_two_26 : decode b_Vol_two 26 = .ok (.istore_n 3, 1) := by decide +kernel
theorem d_Vol_two_27 : decode b_Vol_two 27 = .ok (.iload_n 3, 1) := by decide +kernel
theorem d_Vol_two_28 : decode b_Vol_two 28 = .ok (.iconst 4, 1) := by decide +kernel
theorem d_Vol_two_29 : decode b_Vol_two 29 = .ok (.if_icmp .ge 38, 3) := by decide +kernel
theorem d_Vol_two_32 : decode b_Vol_two 32 = .ok (.aload_n 0, 1) := by decide +kernel
theorem d_Vol_two_33 : decode b_Vol_two 33 = .ok (.getfield 27, 3) := by decide +kernel
theorem d_Vol_two_36 : decode b_Vol_two 36 = .ok (.iload_n 1, 1) := by decide +kernel
theorem d_Vol_two_37 : decode b_Vol_two 37 = .ok (.iload_n 2, 1) := by decide +kernel
theorem d_Vol_two_38 : decode b_Vol_two 38 = .ok (.iload_n 3, 1) := by decide +kernel
theorem d_Vol_two_39 : decode b_Vol_two 39 = .ok (.iconst 2, 1) := by decide +kernel
theorem d_Vol_two_40 : decode b_Vol_two 40 = .ok (.idiv, 1) := by decide +kernel
theorem d_Vol_two_41 : decode b_Vol_two 41 = .ok (.iload_n 3, 1) := by decide +kernel
theorem d_Vol_two_42 : decode b_Vol_two 42 = .ok (.iconst 2, 1) := by decide +kernel
theorem d_Vol_two_43 : decode b_Vol_two 43 = .ok (.irem, 1) := by decide +kernel
theorem d_Vol_two_44 : decode b_Vol_two 44 = .ok (.invokevirtual 233, 3) := by decide +kernel
theorem d_Vol_two_47 : decode b_Vol_two 47 = .ok (.ifCond .eq 14, 3) := by decide +kernel
theorem d_Vol_two_50 : decode b_Vol_two 50 = .ok (.bipush 10, 2) := by decide +kernel
theorem d_Vol_two_52 : decode b_Vol_two 52 = .ok (.iload_n 3, 1) := by decide +kernel
theorem d_Vol_two_53 : decode b_Vol_two 53 = .ok (.iconst 2, 1) := by decide +kernel
theorem d_Vol_two_54 : decode b_Vol_two 54 = .ok (.idiv, 1) := by decide +kernel
theorem d_Vol_two_55 : decode b_Vol_two 55 = .ok (.imul, 1) := by decide +kernel
theorem d_Vol_two_56 : decode b_Vol_two 56 = .ok (.iload_n 3, 1) := by decide +kernel
theorem d_Vol_two_57 : decode b_Vol_two 57 = .ok (.iconst 2, 1) := by decide +kernel
theorem d_Vol_two_58 : decode b_Vol_two 58 = .ok (.irem, 1) := by decide +kernel
theorem d_Vol_two_59 : decode b_Vol_two 59 = .ok (.iadd, 1) := by decide +kernel
theorem d_Vol_two_60 : decode b_Vol_two 60 = .ok (.ireturn, 1) := by decide +kernel
theorem d_Vol_two_61 : decode b_Vol_two 61 = .ok (.iinc 3 1, 3) := by decide +kernel
theorem d_Vol_two_64 : decode b_Vol_two 64 = .ok (.goto (-37), 3) := by decide +kernel
theorem d_Vol_two_67 : decode b_Vol_two 67 = .ok (.bipush (-9), 2) := by decide +kernel
theorem d_Vol_two_69 : decode b_Vol_two 69 = .ok (.ireturn, 1) := by decide +kernel
def m_Vol_two_27 : Nat → Int → Int → Int → (Int → Int) → (Int → Int) → (Int → Int) → (Int → Int) → (Int → Int) → (Int → Int) → (Int → Int) → (Int → Int) → (Int → Int) → (Int → Int) → (Int → Int) → (Int → Int) → Int → (Int → Int) → (Int → Int) → (Int → Int) → Option (Int × (Int → Int) × (Int → Int) × (Int → Int) × (Int → Int) × (Int → Int) × (Int → Int) × Int × (Int → Int) × (Int → Int) × (Int → Int))
  | 0, _, _, _, _, _, _, _, _, _, _, _, _, _, _, _, _, _, _, _ => none
  | fuel + 1, v1, v2, v3, now, nbt, nki, npl, nva, nwr, tow, tbt, tki, tpl, tva, twr, trm, trs, trz, rf =>
  clt v3 4 (gd (zx v3 2147483648 ∧ zp 2 2147483648) (gd (zx v3 2147483648 ∧ zp 2 2147483648) (bnd (m_Mind_isSteady v1 v2 (v3 / 2) (v3 % 2) now nbt nki npl nva nwr tow tbt tki tpl tva twr trm trs trz) (fun r20 => ceq r20.1 0 (m_Vol_two_27 fuel v1 v2 (v3 + 1) now nbt nki npl nva nwr r20.2.1 r20.2.2.1 r20.2.2.2.1 r20.2.2.2.2.1 r20.2.2.2.2.2.1 r20.2.2.2.2.2.2.1 r20.2.2.2.2.2.2.2.1 r20.2.2.2.2.2.2.2.2.1 r20.2.2.2.2.2.2.2.2.2 rf) (gd (zx v3 2147483648 ∧ zp 2 2147483648) (gd (zx v3 2147483648 ∧ zp 2 2147483648) (some (((10 * (v3 / 2)) + (v3 % 2)), r20.2.1, r20.2.2.1, r20.2.2.2.1, r20.2.2.2.2.1, r20.2.2.2.2.2.1, r20.2.2.2.2.2.2.1, r20.2.2.2.2.2.2.2.1, r20.2.2.2.2.2.2.2.2.1, r20.2.2.2.2.2.2.2.2.2, rf)))))))) (some ((-9), tow, tbt, tki, tpl, tva, twr, trm, trs, trz, rf))
def m_Vol_two (x1 : Int) (x2 : Int) (now : Int → Int) (nbt : Int → Int) (nki : Int → Int) (npl : Int → Int) (nva : Int → Int) (nwr : Int → Int) (tow : Int → Int) (tbt : Int → Int) (tki : Int → Int) (tpl : Int → Int) (tva : Int → Int) (twr : Int → Int) (trm : Int) (trs : Int → Int) (trz : Int → Int) (rf : Int → Int) : Option (Int × (Int → Int) × (Int → Int) × (Int → Int) × (Int → Int) × (Int → Int) × (Int → Int) × Int × (Int → Int) × (Int → Int) × (Int → Int)) :=
  bnd (m_Vol_isFile x1) (fun r1 => jn (fun (c4 : Int → Int) (c5 : Int → Int) (c6 : Int → Int) (c7 : Int → Int) (c8 : Int → Int) (c9 : Int → Int) (c10 : Int) (c11 : Int → Int) (c12 : Int → Int) (c13 : Int → Int) => bnd (m_Vol_refuse (-1) c13) (fun r14 => some (r14.1, c4, c5, c6, c7, c8, c9, c10, c11, c12, r14.2))) (fun j3 => ceq r1 0 (j3 tow tbt tki tpl tva twr trm trs trz rf) (bnd (m_Vol_isFile x2) (fun r18 => ceq r18 0 (j3 tow tbt tki tpl tva twr trm trs trz rf) (ceq x1 x2 (j3 tow tbt tki tpl tva twr trm trs trz rf) (m_Vol_two_27 5000 x1 x2 0 now nbt nki npl nva nwr tow tbt tki tpl tva twr trm trs trz rf))))))
set_option maxHeartbeats 4000000 in
set_option maxRecDepth 100000 in
theorem l_Vol_two_27 {G : GT} {l : Launch} {D : va_G} {cI cB : ClassId} {a0 a1 a2 a3 a4 a5 a6 a7 a8 a9 a10 a11 a12 a13 a14 a15 a16 a17 a18 a19 a20 a21 a22 a23 a24 a25 a26 a27 a28 a29 a30 a31 a32 a33 a34 a35 a36 a37 : Nat} {ik : Int} {nrm : Int} {nrs : Int → Int} {nrz : Int → Int} {kow : Int → Int} {kbt : Int → Int} {kki : Int → Int} {kpl : Int → Int} {kva : Int → Int} {kwr : Int → Int} {krm : Int} {krs : Int → Int} {krz : Int → Int} {seed : Int} {smn : Int} {snu : Int → Int} {rmn : Int} {rnu : Int → Int} (X : Cx G l D cI cB b_Vol_two y_Vol_two.cls 4 { frames := 6, cells := 0, slots := 0, locals := 153 }) : ∀ (fuel : Nat) (v1 : Int) (v2 : Int) (v3 : Int) (now : Int → Int) (nbt : Int → Int) (nki : Int → Int) (npl : Int → Int) (nva : Int → Int) (nwr : Int → Int) (tow : Int → Int) (tbt : Int → Int) (tki : Int → Int) (tpl : Int → Int) (tva : Int → Int) (twr : Int → Int) (trm : Int) (trs : Int → Int) (trz : Int → Int) (rf : Int → Int) (o : Int × (Int → Int) × (Int → Int) × (Int → Int) × (Int → Int) × (Int → Int) × (Int → Int) × Int × (Int → Int) × (Int → Int) × (Int → Int)), m_Vol_two_27 fuel v1 v2 v3 now nbt nki npl nva nwr tow tbt tki tpl tva twr trm trs trz rf = some o → Rt G (some .int) (some (.int (zi o.1))) (w_Vol cI cB a0 a1 a2 a3 a4 a5 a6 a7 a8 a9 a10 a11 a12 a13 a14 a15 a16 a17 a18 a19 a20 a21 a22 a23 a24 a25 a26 a27 a28 a29 a30 a31 a32 a33 a34 a35 a36 a37 ik now nbt nki npl nva nwr nrm nrs nrz kow kbt kki kpl kva kwr krm krs krz o.2.1 o.2.2.1 o.2.2.2.1 o.2.2.2.2.1 o.2.2.2.2.2.1 o.2.2.2.2.2.2.1 o.2.2.2.2.2.2.2.1 o.2.2.2.2.2.2.2.2.1 o.2.2.2.2.2.2.2.2.2.1 seed smn snu rmn rnu o.2.2.2.2.2.2.2.2.2.2) → Wx G 0 0 27 [(0, .ref a0), (1, .int (zi v1)), (2, .int (zi v2)), (3, .int (zi v3))] [] (w_Vol cI cB a0 a1 a2 a3 a4 a5 a6 a7 a8 a9 a10 a11 a12 a13 a14 a15 a16 a17 a18 a19 a20 a21 a22 a23 a24 a25 a26 a27 a28 a29 a30 a31 a32 a33 a34 a35 a36 a37 ik now nbt nki npl nva nwr nrm nrs nrz kow kbt kki kpl kva kwr krm krs krz tow tbt tki tpl tva twr trm trs trz seed smn snu rmn rnu rf) := by
  intro fuel
  induction fuel with
  | zero =>
    intro v1 v2 v3 now nbt nki npl nva nwr tow tbt tki tpl tva twr trm trs trz rf o h
    exact absurd h (by simp [m_Vol_two_27])
  | succ fuel ih =>
    intro v1 v2 v3 now nbt nki npl nva nwr tow tbt tki tpl tva twr trm trs trz rf o h hR
    rw [m_Vol_two_27] at h
    refine x_iload_n (pc := 27) X d_Vol_two_27 3 rfl rfl ?_
    refine x_iconst (pc := 28) X d_Vol_two_28  ?_
    refine x_icmpge (pc := 29) (tgt := 67) X d_Vol_two_29 rfl h (fun h => ?_) (fun h => ?_)
    · skip
      refine x_bipush (pc := 67) (v := -9) X d_Vol_two_67 rfl ?_
      cases h
      exact x_iret (pc := 69) X hR d_Vol_two_69
    · skip
      refine x_aload_n (pc := 32) X d_Vol_two_32 0 rfl rfl ?_
      refine x_get (pc := 33) X d_Vol_two_33 0 rfl fl_Vol_27 rfl ?_
      refine x_iload_n (pc := 36) X d_Vol_two_36 1 rfl rfl ?_
      refine x_iload_n (pc := 37) X d_Vol_two_37 2 rfl rfl ?_
      refine x_iload_n (pc := 38) X d_Vol_two_38 3 rfl rfl ?_
      refine x_iconst (pc := 39) X d_Vol_two_39  ?_
      refine x_idiv (pc := 40) X d_Vol_two_40 h (fun h => ?_)
      refine x_iload_n (pc := 41) X d_Vol_two_41 3 rfl rfl ?_
      refine x_iconst (pc := 42) X d_Vol_two_42  ?_
      refine x_irem (pc := 43) X d_Vol_two_43 h (fun h => ?_)
      obtain ⟨r20, h21, h⟩ := bnd_e h
      refine x_callV (pc := 44) (As := [.int (zi v1), .int (zi v2), .int (zi (v3 / 2)), .int (zi (v3 % 2))]) (rest := []) (w2 := (w_Vol cI cB a0 a1 a2 a3 a4 a5 a6 a7 a8 a9 a10 a11 a12 a13 a14 a15 a16 a17 a18 a19 a20 a21 a22 a23 a24 a25 a26 a27 a28 a29 a30 a31 a32 a33 a34 a35 a36 a37 ik now nbt nki npl nva nwr nrm nrs nrz kow kbt kki kpl kva kwr krm krs krz r20.2.1 r20.2.2.1 r20.2.2.2.1 r20.2.2.2.2.1 r20.2.2.2.2.2.1 r20.2.2.2.2.2.2.1 r20.2.2.2.2.2.2.2.1 r20.2.2.2.2.2.2.2.2.1 r20.2.2.2.2.2.2.2.2.2 seed smn snu rmn rnu rf)) X d_Vol_two_44 lk_Vol_233 mv_Mind_isSteady (c_Mind_isSteady l D cI cB a31 a1 a2 a3 a4 a5 a6 a7 a8 a9 a10 a21 a22 a23 a24 a25 a26 a27 a28 a29 a30 seed now nbt nki npl nva nwr nrm nrs nrz tow tbt tki tpl tva twr trm trs trz v1 v2 (v3 / 2) (v3 % 2) h21) ⟨(Nat.le_of_ble_eq_true rfl), (Nat.le_of_ble_eq_true rfl), (Nat.le_of_ble_eq_true rfl), (Nat.le_of_ble_eq_true rfl)⟩ 31 rfl rfl [31, 1, 2, 3, 4, 5, 6, 7, 8, 9, 10, 21, 22, 23, 24, 25, 26, 27, 28, 29, 30] rfl rfl rfl (Up.of [0, 11, 12, 13, 14, 15, 16, 17, 18, 19, 20, 32, 33, 34, 35, 36, 37] [(a0, .inr (5, [.ref a1, .ref a11, .ref a21, .ref a31, .ref a32, .ref a35, .ref a37, .int (zi ik)])), (a11, .inr (0, [.ref a12, .ref a13, .ref a14, .ref a15, .ref a16, .ref a17, .ref a18])), (a12, zA cI 64 kow), (a13, zA cI 64 kbt), (a14, zA cI 4 kki), (a15, zA cI 96 kpl), (a16, zA cI 96 kva), (a17, zA cB 96 kwr), (a18, .inr (3, [.ref a19, .ref a20, .int (zi krm)])), (a19, zA cI 32 krs), (a20, zA cI 32 krz), (a32, .inr (4, [.ref a33])), (a33, .inr (2, [.ref a34, .int (zi smn)])), (a34, zA cI 96 snu), (a35, .inr (2, [.ref a36, .int (zi rmn)])), (a36, zA cI 32 rnu), (a37, zA cI 7 rf)] rfl rfl rfl 38 rfl (by decide +kernel)) rfl rfl (Nat.le_of_ble_eq_true rfl) ?_
      refine x_ifeq (pc := 47) (tgt := 61) X d_Vol_two_47 rfl h (fun h => ?_) (fun h => ?_)
      · skip
        refine x_iinc (pc := 61) (ls2 := [(3, .int (zi (v3 + 1))), (0, .ref a0), (1, .int (zi v1)), (2, .int (zi v2))]) X d_Vol_two_61 3 (Nat.le_of_ble_eq_true rfl) rfl rfl ?_
        refine x_goto (pc := 64) (tgt := 27) X d_Vol_two_64 rfl ?_
        refine x_ls (ls2 := [(0, .ref a0), (1, .int (zi v1)), (2, .int (zi v2)), (3, .int (zi (v3 + 1)))]) [1, 2, 3, 0] rfl ?_
        exact ih v1 v2 (v3 + 1) now nbt nki npl nva nwr r20.2.1 r20.2.2.1 r20.2.2.2.1 r20.2.2.2.2.1 r20.2.2.2.2.2.1 r20.2.2.2.2.2.2.1 r20.2.2.2.2.2.2.2.1 r20.2.2.2.2.2.2.2.2.1 r20.2.2.2.2.2.2.2.2.2 rf o h hR
      · skip
        refine x_bipush (pc := 50) (v := 10) X d_Vol_two_50 rfl ?_
        refine x_iload_n (pc := 52) X d_Vol_two_52 3 rfl rfl ?_
        refine x_iconst (pc := 53) X d_Vol_two_53  ?_
        refine x_idiv (pc := 54) X d_Vol_two_54 h (fun h => ?_)
        refine x_imul (pc := 55) X d_Vol_two_55  ?_
        refine x_iload_n (pc := 56) X d_Vol_two_56 3 rfl rfl ?_
        refine x_iconst (pc := 57) X d_Vol_two_57  ?_
        refine x_irem (pc := 58) X d_Vol_two_58 h (fun h => ?_)
        refine x_iadd (pc := 59) X d_Vol_two_59  ?_
        cases h
        exact x_iret (pc := 60) X hR d_Vol_two_60
set_option maxHeartbeats 4000000 in
set_option maxRecDepth 100000 in
theorem c_Vol_two (l : Launch) (D : va_G) (cI cB : ClassId) (a0 a1 a2 a3 a4 a5 a6 a7 a8 a9 a10 a11 a12 a13 a14 a15 a16 a17 a18 a19 a20 a21 a22 a23 a24 a25 a26 a27 a28 a29 a30 a31 a32 a33 a34 a35 a36 a37 : Nat) (ik : Int) (now : Int → Int) (nbt : Int → Int) (nki : Int → Int) (npl : Int → Int) (nva : Int → Int) (nwr : Int → Int) (nrm : Int) (nrs : Int → Int) (nrz : Int → Int) (kow : Int → Int) (kbt : Int → Int) (kki : Int → Int) (kpl : Int → Int) (kva : Int → Int) (kwr : Int → Int) (krm : Int) (krs : Int → Int) (krz : Int → Int) (tow : Int → Int) (tbt : Int → Int) (tki : Int → Int) (tpl : Int → Int) (tva : Int → Int) (twr : Int → Int) (trm : Int) (trs : Int → Int) (trz : Int → Int) (seed : Int) (smn : Int) (snu : Int → Int) (rmn : Int) (rnu : Int → Int) (rf : Int → Int) (x1 : Int) (x2 : Int) {o : Int × (Int → Int) × (Int → Int) × (Int → Int) × (Int → Int) × (Int → Int) × (Int → Int) × Int × (Int → Int) × (Int → Int) × (Int → Int)} (h : m_Vol_two x1 x2 now nbt nki npl nva nwr tow tbt tki tpl tva twr trm trs trz rf = some o) : Ct l D cI cB y_Vol_two b_Vol_two 4 (some .int) { frames := 6, cells := 0, slots := 0, locals := 153 } [.ref a0, .int (zi x1), .int (zi x2)] (w_Vol cI cB a0 a1 a2 a3 a4 a5 a6 a7 a8 a9 a10 a11 a12 a13 a14 a15 a16 a17 a18 a19 a20 a21 a22 a23 a24 a25 a26 a27 a28 a29 a30 a31 a32 a33 a34 a35 a36 a37 ik now nbt nki npl nva nwr nrm nrs nrz kow kbt kki kpl kva kwr krm krs krz tow tbt tki tpl tva twr trm trs trz seed smn snu rmn rnu rf) (w_Vol cI cB a0 a1 a2 a3 a4 a5 a6 a7 a8 a9 a10 a11 a12 a13 a14 a15 a16 a17 a18 a19 a20 a21 a22 a23 a24 a25 a26 a27 a28 a29 a30 a31 a32 a33 a34 a35 a36 a37 ik now nbt nki npl nva nwr nrm nrs nrz kow kbt kki kpl kva kwr krm krs krz o.2.1 o.2.2.1 o.2.2.2.1 o.2.2.2.2.1 o.2.2.2.2.2.1 o.2.2.2.2.2.2.1 o.2.2.2.2.2.2.2.1 o.2.2.2.2.2.2.2.2.1 o.2.2.2.2.2.2.2.2.2.1 seed smn snu rmn rnu o.2.2.2.2.2.2.2.2.2.2) (some (.int (zi o.1))) := by
  refine Ct.start (by decide) (Nat.le_of_ble_eq_true rfl) (fun G X hR => ?_)
  refine x_ls (ls2 := [(0, .ref a0), (1, .int (zi x1)), (2, .int (zi x2))]) [0, 1, 2] rfl ?_
  unfold m_Vol_two at h
  refine x_iload_n (pc := 0) X d_Vol_two_0 1 rfl rfl ?_
  obtain ⟨r1, h2, h⟩ := bnd_e h
  refine x_callS (pc := 1) (As := [.int (zi x1)]) (rest := []) (w2 := (w_Vol cI cB a0 a1 a2 a3 a4 a5 a6 a7 a8 a9 a10 a11 a12 a13 a14 a15 a16 a17 a18 a19 a20 a21 a22 a23 a24 a25 a26 a27 a28 a29 a30 a31 a32 a33 a34 a35 a36 a37 ik now nbt nki npl nva nwr nrm nrs nrz kow kbt kki kpl kva kwr krm krs krz tow tbt tki tpl tva twr trm trs trz seed smn snu rmn rnu rf)) X d_Vol_two_1 lk_Vol_84 mv_Vol_isFile (c_Vol_isFile l D cI cB x1 h2) ⟨(Nat.le_of_ble_eq_true rfl), (Nat.le_of_ble_eq_true rfl), (Nat.le_of_ble_eq_true rfl), (Nat.le_of_ble_eq_true rfl)⟩ [] rfl rfl rfl (Up.same rfl) rfl rfl (Nat.le_of_ble_eq_true rfl) ?_
  obtain ⟨j3, hj16, h⟩ := jn_e h
  have J17 : ∀ (c4 : Int → Int) (c5 : Int → Int) (c6 : Int → Int) (c7 : Int → Int) (c8 : Int → Int) (c9 : Int → Int) (c10 : Int) (c11 : Int → Int) (c12 : Int → Int) (c13 : Int → Int), j3 c4 c5 c6 c7 c8 c9 c10 c11 c12 c13 = some o → Wx G 0 0 19 [(0, .ref a0)] [] (w_Vol cI cB a0 a1 a2 a3 a4 a5 a6 a7 a8 a9 a10 a11 a12 a13 a14 a15 a16 a17 a18 a19 a20 a21 a22 a23 a24 a25 a26 a27 a28 a29 a30 a31 a32 a33 a34 a35 a36 a37 ik now nbt nki npl nva nwr nrm nrs nrz kow kbt kki kpl kva kwr krm krs krz c4 c5 c6 c7 c8 c9 c10 c11 c12 seed smn snu rmn rnu c13) := by
    intro c4 c5 c6 c7 c8 c9 c10 c11 c12 c13 h
    rw [hj16] at h
    (try dsimp only at h)
    refine x_aload_n (pc := 19) X d_Vol_two_19 0 rfl rfl ?_
    refine x_iconst (pc := 20) X d_Vol_two_20  ?_
    obtain ⟨r14, h15, h⟩ := bnd_e h
    refine x_callV (pc := 21) (As := [.int (zi (-1))]) (rest := []) (w2 := (w_Vol cI cB a0 a1 a2 a3 a4 a5 a6 a7 a8 a9 a10 a11 a12 a13 a14 a15 a16 a17 a18 a19 a20 a21 a22 a23 a24 a25 a26 a27 a28 a29 a30 a31 a32 a33 a34 a35 a36 a37 ik now nbt nki npl nva nwr nrm nrs nrz kow kbt kki kpl kva kwr krm krs krz c4 c5 c6 c7 c8 c9 c10 c11 c12 seed smn snu rmn rnu r14.2)) X d_Vol_two_21 lk_Vol_55 mv_Vol_refuse (c_Vol_refuse l D cI cB a0 a1 a2 a3 a4 a5 a6 a7 a8 a9 a10 a11 a12 a13 a14 a15 a16 a17 a18 a19 a20 a21 a22 a23 a24 a25 a26 a27 a28 a29 a30 a31 a32 a33 a34 a35 a36 a37 ik now nbt nki npl nva nwr nrm nrs nrz kow kbt kki kpl kva kwr krm krs krz c4 c5 c6 c7 c8 c9 c10 c11 c12 seed smn snu rmn rnu c13 (-1) h15) ⟨(Nat.le_of_ble_eq_true rfl), (Nat.le_of_ble_eq_true rfl), (Nat.le_of_ble_eq_true rfl), (Nat.le_of_ble_eq_true rfl)⟩ 0 rfl rfl [0, 1, 2, 3, 4, 5, 6, 7, 8, 9, 10, 11, 12, 13, 14, 15, 16, 17, 18, 19, 20, 21, 22, 23, 24, 25, 26, 27, 28, 29, 30, 31, 32, 33, 34, 35, 36, 37] rfl rfl rfl (Up.of [] [] rfl rfl rfl 38 rfl (by decide +kernel)) rfl rfl (Nat.le_of_ble_eq_true rfl) ?_
    cases h
    exact x_iret (pc := 24) X hR d_Vol_two_24
  clear hj16
  refine x_ifeq (pc := 4) (tgt := 19) X d_Vol_two_4 rfl h (fun h => ?_) (fun h => ?_)
  · skip
    refine x_ls (ls2 := [(0, .ref a0)]) [0] rfl ?_
    exact J17 tow tbt tki tpl tva twr trm trs trz rf h
  · skip
    refine x_iload_n (pc := 7) X d_Vol_two_7 2 rfl rfl ?_
    obtain ⟨r18, h19, h⟩ := bnd_e h
    refine x_callS (pc := 8) (As := [.int (zi x2)]) (rest := []) (w2 := (w_Vol cI cB a0 a1 a2 a3 a4 a5 a6 a7 a8 a9 a10 a11 a12 a13 a14 a15 a16 a17 a18 a19 a20 a21 a22 a23 a24 a25 a26 a27 a28 a29 a30 a31 a32 a33 a34 a35 a36 a37 ik now nbt nki npl nva nwr nrm nrs nrz kow kbt kki kpl kva kwr krm krs krz tow tbt tki tpl tva twr trm trs trz seed smn snu rmn rnu rf)) X d_Vol_two_8 lk_Vol_84 mv_Vol_isFile (c_Vol_isFile l D cI cB x2 h19) ⟨(Nat.le_of_ble_eq_true rfl), (Nat.le_of_ble_eq_true rfl), (Nat.le_of_ble_eq_true rfl), (Nat.le_of_ble_eq_true rfl)⟩ [] rfl rfl rfl (Up.same rfl) rfl rfl (Nat.le_of_ble_eq_true rfl) ?_
    refine x_ifeq (pc := 11) (tgt := 19) X d_Vol_two_11 rfl h (fun h => ?_) (fun h => ?_)
    · skip
      refine x_ls (ls2 := [(0, .ref a0)]) [0] rfl ?_
      exact J17 tow tbt tki tpl tva twr trm trs trz rf h
    · skip
      refine x_iload_n (pc := 14) X d_Vol_two_14 1 rfl rfl ?_
      refine x_iload_n (pc := 15) X d_Vol_two_15 2 rfl rfl ?_
      refine x_icmpne (pc := 16) (tgt := 25) X d_Vol_two_16 rfl h (fun h => ?_) (fun h => ?_)
      · skip
        refine x_iconst (pc := 25) X d_Vol_two_25  ?_
        refine x_istore_n (pc := 26) (ls2 := [(3, .int (zi 0)), (0, .ref a0), (1, .int (zi x1)), (2, .int (zi x2))]) X d_Vol_two_26 rfl (Nat.le_of_ble_eq_true rfl) rfl ?_
        refine x_ls (ls2 := [(0, .ref a0), (1, .int (zi x1)), (2, .int (zi x2)), (3, .int (zi 0))]) [1, 2, 3, 0] rfl ?_
        exact l_Vol_two_27 X 5000 x1 x2 0 now nbt nki npl nva nwr tow tbt tki tpl tva twr trm trs trz rf o h hR
      · skip
        refine x_ls (ls2 := [(0, .ref a0)]) [0] rfl ?_
        exact J17 tow tbt tki tpl tva twr trm trs trz rf h
theorem d_Vol_most_0 : decode b_Vol_most 0 = .ok (.iload_n 1, 1) := by decide +kernel
theorem d_Vol_most_1 : decode b_Vol_most 1 = .ok (.invokestatic 84, 3) := by decide +kernel
theorem d_Vol_most_4 : decode b_Vol_most 4 = .ok (.ifCond .ne 9, 3) := by decide +kernel
theorem d_Vol_most_7 : decode b_Vol_most 7 = .ok (.aload_n 0, 1) := by decide +kernel
theorem d_Vol_most_8 : decode b_Vol_most 8 = .ok (.iconst (-1), 1) := by decide +kernel
theorem d_Vol_most_9 : decode b_Vol_most 9 = .ok (.invokevirtual 55, 3) := by decide +kernel
theorem d_Vol_most_12 : decode b_Vol_most 12 = .ok (.ireturn, 1) := by decide +kernel
theorem d_Vol_most_13 : decode b_Vol_most 13 = .ok (.aload_n 0, 1) := by decide +kernel
theorem d_Vol_most_14 : decode b_Vol_most 14 = .ok (.getfield 10, 3) := by decide +kernel
theorem d_Vol_most_17 : decode b_Vol_most 17 = .ok (.iload_n 1, 1) := by decide +kernel
theorem d_Vol_most_18 : decode b_Vol_most 18 = .ok (.iconst 0, 1) := by decide +kernel
theorem d_Vol_most_19 : decode b_Vol_most 19 = .ok (.bipush 24, 2) := by decide +kernel
theorem d_Vol_most_21 : decode b_Vol_most 21 = .ok (.invokevirtual 237, 3) := by decide +kernel
theorem d_Vol_most_24 : decode b_Vol_most 24 = .ok (.aload_n 0, 1) := by decide +kernel
theorem d_Vol_most_25 : decode b_Vol_most 25 = .ok (.getfield 10, 3) := by decide +kernel
theorem d_Vol_most_28 : decode b_Vol_most 28 = .ok (.invokevirtual 240, 3) := by decide +kernel
theorem d_Vol_most_31 : decode b_Vol_most 31 = .ok (.invokestatic 243, 3) := by decide +kernel
theorem d_Vol_most_34 : decode b_Vol_most 34 = .ok (.ireturn, 1) := by decide +kernel
def m_Vol_most (x1 : Int) (now : Int → Int) (npl : Int → Int) (nva : Int → Int) (rf : Int → Int) : Option (Int × (Int → Int)) :=
  bnd (m_Vol_isFile x1) (fun r1 => ceq r1 0 (bnd (m_Vol_refuse (-1) rf) (fun r7 => some (r7.1, r7.2))) (bnd (m_Disk_holesAmong x1 0 24 npl nva) (fun r3 => bnd (m_Disk_roomLeft now npl nva) (fun r5 => gd (zr r3 ∧ zr r5) (some ((min r3 r5), rf))))))
set_option maxHeartbeats 4000000 in
set_option maxRecDepth 100000 in
theorem c_Vol_most (l : Launch) (D : va_G) (cI cB : ClassId) (a0 a1 a2 a3 a4 a5 a6 a7 a8 a9 a10 a11 a12 a13 a14 a15 a16 a17 a18 a19 a20 a21 a22 a23 a24 a25 a26 a27 a28 a29 a30 a31 a32 a33 a34 a35 a36 a37 : Nat) (ik : Int) (now : Int → Int) (nbt : Int → Int) (nki : Int → Int) (npl : Int → Int) (nva : Int → Int) (nwr : Int → Int) (nrm : Int) (nrs : Int → Int) (nrz : Int → Int) (kow : Int → Int) (kbt : Int → Int) (kki : Int → Int) (kpl : Int → Int) (kva : Int → Int) (kwr : Int → Int) (krm : Int) (krs : Int → Int) (krz : Int → Int) (tow : Int → Int) (tbt : Int → Int) (tki : Int → Int) (tpl : Int → Int) (tva : Int → Int) (twr : Int → Int) (trm : Int) (trs : Int → Int) (trz : Int → Int) (seed : Int) (smn : Int) (snu : Int → Int) (rmn : Int) (rnu : Int → Int) (rf : Int → Int) (x1 : Int) {o : Int × (Int → Int)} (h : m_Vol_most x1 now npl nva rf = some o) : Ct l D cI cB y_Vol_most b_Vol_most 2 (some .int) { frames := 3, cells := 0, slots := 0, locals := 70 } [.ref a0, .int (zi x1)] (w_Vol cI cB a0 a1 a2 a3 a4 a5 a6 a7 a8 a9 a10 a11 a12 a13 a14 a15 a16 a17 a18 a19 a20 a21 a22 a23 a24 a25 a26 a27 a28 a29 a30 a31 a32 a33 a34 a35 a36 a37 ik now nbt nki npl nva nwr nrm nrs nrz kow kbt kki kpl kva kwr krm krs krz tow tbt tki tpl tva twr trm trs trz seed smn snu rmn rnu rf) (w_Vol cI cB a0 a1 a2 a3 a4 a5 a6 a7 a8 a9 a10 a11 a12 a13 a14 a15 a16 a17 a18 a19 a20 a21 a22 a23 a24 a25 a26 a27 a28 a29 a30 a31 a32 a33 a34 a35 a36 a37 ik now nbt nki npl nva nwr nrm nrs nrz kow kbt kki kpl kva kwr krm krs krz tow tbt tki tpl tva twr trm trs trz seed smn snu rmn rnu o.2) (some (.int (zi o.1))) := by
  refine Ct.start (by decide) (Nat.le_of_ble_eq_true rfl) (fun G X hR => ?_)
  refine x_ls (ls2 := [(0, .ref a0), (1, .int (zi x1))]) [0, 1] rfl ?_
  unfold m_Vol_most at h
  refine x_iload_n (pc := 0) X d_Vol_most_0 1 rfl rfl ?_
  obtain ⟨r1, h2, h⟩ := bnd_e h
  refine x_callS (pc := 1) (As := [.int (zi x1)]) (rest := []) (w2 := (w_Vol cI cB a0 a1 a2 a3 a4 a5 a6 a7 a8 a9 a10 a11 a12 a13 a14 a15 a16 a17 a18 a19 a20 a21 a22 a23 a24 a25 a26 a27 a28 a29 a30 a31 a32 a33 a34 a35 a36 a37 ik now nbt nki npl nva nwr nrm nrs nrz kow kbt kki kpl kva kwr krm krs krz tow tbt tki tpl tva twr trm trs trz seed smn snu rmn rnu rf)) X d_Vol_most_1 lk_Vol_84 mv_Vol_isFile (c_Vol_isFile l D cI cB x1 h2) ⟨(Nat.le_of_ble_eq_true rfl), (Nat.le_of_ble_eq_true rfl), (Nat.le_of_ble_eq_true rfl), (Nat.le_of_ble_eq_true rfl)⟩ [] rfl rfl rfl (Up.same rfl) rfl rfl (Nat.le_of_ble_eq_true rfl) ?_
  refine x_ifne (pc := 4) (tgt := 13) X d_Vol_most_4 rfl h (fun h => ?_) (fun h => ?_)
  · skip
    refine x_aload_n (pc := 13) X d_Vol_most_13 0 rfl rfl ?_
    refine x_get (pc := 14) X d_Vol_most_14 0 rfl fl_Vol_10 rfl ?_
    refine x_iload_n (pc := 17) X d_Vol_most_17 1 rfl rfl ?_
    refine x_iconst (pc := 18) X d_Vol_most_18  ?_
    refine x_bipush (pc := 19) (v := 24) X d_Vol_most_19 rfl ?_
    obtain ⟨r3, h4, h⟩ := bnd_e h
    refine x_callV (pc := 21) (As := [.int (zi x1), .int (zi 0), .int (zi 24)]) (rest := []) (w2 := (w_Vol cI cB a0 a1 a2 a3 a4 a5 a6 a7 a8 a9 a10 a11 a12 a13 a14 a15 a16 a17 a18 a19 a20 a21 a22 a23 a24 a25 a26 a27 a28 a29 a30 a31 a32 a33 a34 a35 a36 a37 ik now nbt nki npl nva nwr nrm nrs nrz kow kbt kki kpl kva kwr krm krs krz tow tbt tki tpl tva twr trm trs trz seed smn snu rmn rnu rf)) X d_Vol_most_21 lk_Vol_237 mv_Disk_holesAmong (c_Disk_holesAmong l D cI cB a1 a2 a3 a4 a5 a6 a7 a8 a9 a10 now nbt nki npl nva nwr nrm nrs nrz x1 0 24 h4) ⟨(Nat.le_of_ble_eq_true rfl), (Nat.le_of_ble_eq_true rfl), (Nat.le_of_ble_eq_true rfl), (Nat.le_of_ble_eq_true rfl)⟩ 1 rfl rfl [1, 2, 3, 4, 5, 6, 7, 8, 9, 10] rfl rfl rfl (Up.same rfl) rfl rfl (Nat.le_of_ble_eq_true rfl) ?_
    refine x_aload_n (pc := 24) X d_Vol_most_24 0 rfl rfl ?_
    refine x_get (pc := 25) X d_Vol_most_25 0 rfl fl_Vol_10 rfl ?_
    obtain ⟨r5, h6, h⟩ := bnd_e h
    refine x_callV (pc := 28) (As := []) (rest := [.int (zi r3)]) (w2 := (w_Vol cI cB a0 a1 a2 a3 a4 a5 a6 a7 a8 a9 a10 a11 a12 a13 a14 a15 a16 a17 a18 a19 a20 a21 a22 a23 a24 a25 a26 a27 a28 a29 a30 a31 a32 a33 a34 a35 a36 a37 ik now nbt nki npl nva nwr nrm nrs nrz kow kbt kki kpl kva kwr krm krs krz tow tbt tki tpl tva twr trm trs trz seed smn snu rmn rnu rf)) X d_Vol_most_28 lk_Vol_240 mv_Disk_roomLeft (c_Disk_roomLeft l D cI cB a1 a2 a3 a4 a5 a6 a7 a8 a9 a10 now nbt nki npl nva nwr nrm nrs nrz h6) ⟨(Nat.le_of_ble_eq_true rfl), (Nat.le_of_ble_eq_true rfl), (Nat.le_of_ble_eq_true rfl), (Nat.le_of_ble_eq_true rfl)⟩ 1 rfl rfl [1, 2, 3, 4, 5, 6, 7, 8, 9, 10] rfl rfl rfl (Up.same rfl) rfl rfl (Nat.le_of_ble_eq_true rfl) ?_
    refine x_mmin (pc := 31) X d_Vol_most_31 (tm_3 _ (List.mem_of_getElem? (i := 154) rfl)) mm_min ⟨(Nat.le_of_ble_eq_true rfl), (Nat.le_of_ble_eq_true rfl), (Nat.le_of_ble_eq_true rfl), (Nat.le_of_ble_eq_true rfl)⟩ h (fun h => ?_)
    cases h
    exact x_iret (pc := 34) X hR d_Vol_most_34
  · skip
    refine x_aload_n (pc := 7) X d_Vol_most_7 0 rfl rfl ?_
    refine x_iconst (pc := 8) X d_Vol_most_8  ?_
    obtain ⟨r7, h8, h⟩ := bnd_e h
    refine x_callV (pc := 9) (As := [.int (zi (-1))]) (rest := []) (w2 := (w_Vol cI cB a0 a1 a2 a3 a4 a5 a6 a7 a8 a9 a10 a11 a12 a13 a14 a15 a16 a17 a18 a19 a20 a21 a22 a23 a24 a25 a26 a27 a28 a29 a30 a31 a32 a33 a34 a35 a36 a37 ik now nbt nki npl nva nwr nrm nrs nrz kow kbt kki kpl kva kwr krm krs krz tow tbt tki tpl tva twr trm trs trz seed smn snu rmn rnu r7.2)) X d_Vol_most_9 lk_Vol_55 mv_Vol_refuse (c_Vol_refuse l D cI cB a0 a1 a2 a3 a4 a5 a6 a7 a8 a9 a10 a11 a12 a13 a14 a15 a16 a17 a18 a19 a20 a21 a22 a23 a24 a25 a26 a27 a28 a29 a30 a31 a32 a33 a34 a35 a36 a37 ik now nbt nki npl nva nwr nrm nrs nrz kow kbt kki kpl kva kwr krm krs krz tow tbt tki tpl tva twr trm trs trz seed smn snu rmn rnu rf (-1) h8) ⟨(Nat.le_of_ble_eq_true rfl), (Nat.le_of_ble_eq_true rfl), (Nat.le_of_ble_eq_true rfl), (Nat.le_of_ble_eq_true rfl)⟩ 0 rfl rfl [0, 1, 2, 3, 4, 5, 6, 7, 8, 9, 10, 11, 12, 13, 14, 15, 16, 17, 18, 19, 20, 21, 22, 23, 24, 25, 26, 27, 28, 29, 30, 31, 32, 33, 34, 35, 36, 37] rfl rfl rfl (Up.of [] [] rfl rfl rfl 38 rfl (by decide +kernel)) rfl rfl (Nat.le_of_ble_eq_true rfl) ?_
    cases h
    exact x_iret (pc := 12) X hR d_Vol_most_12
theorem d_Vol_larger_0 : decode b_Vol_larger 0 = .ok (.iload_n 1, 1) := by decide +kernel
theorem d_Vol_larger_1 : decode b_Vol_larger 1 = .ok (.invokestatic 84, 3) := by decide +kernel
theorem d_Vol_larger_4 : decode b_Vol_larger 4 = .ok (.ifCond .ne 12, 3) := by decide +kernel
theorem d_Vol_larger_7 : decode b_Vol_larger 7 = .ok (.ldc 248, 2) := by decide +kernel
theorem d_Vol_larger_9 : decode b_Vol_larger 9 = .ok (.aload_n 0, 1) := by decide +kernel
theorem d_Vol_larger_10 : decode b_Vol_larger 10 = .ok (.iconst (-1), 1) := by decide +kernel
theorem d_Vol_larger_11 : decode b_Vol_larger 11 = .ok (.invokevirtual 55, 3) := by decide +kernel
theorem d_Vol_larger_14 : decode b_Vol_larger 14 = .ok (.isub, 1) := by decide +kernel
theorem d_Vol_larger_15 : decode b_Vol_larger 15 = .ok (.ireturn, 1) := by decide +kernel
theorem d_Vol_larger_16 : decode b_Vol_larger 16 = .ok (.aload_n 0, 1) := by decide +kernel
theorem d_Vol_larger_17 : decode b_Vol_larger 17 = .ok (.getfield 27, 3) := by decide +kernel
theorem d_Vol_larger_20 : decode b_Vol_larger 20 = .ok (.iload_n 1, 1) := by decide +kernel
theorem d_Vol_larger_21 : decode b_Vol_larger 21 = .ok (.invokevirtual 249, 3) := by decide +kernel
theorem d_Vol_larger_24 : decode b_Vol_larger 24 = .ok (.ireturn, 1) := by decide +kernel
def m_Vol_larger (x1 : Int) (now : Int → Int) (nbt : Int → Int) (nki : Int → Int) (npl : Int → Int) (nva : Int → Int) (nwr : Int → Int) (nrm : Int) (nrs : Int → Int) (nrz : Int → Int) (tow : Int → Int) (tbt : Int → Int) (tki : Int → Int) (tpl : Int → Int) (tva : Int → Int) (twr : Int → Int) (trm : Int) (trs : Int → Int) (trz : Int → Int) (rf : Int → Int) : Option (Int × Int × (Int → Int) × (Int → Int) × (Int → Int) × (Int → Int) × (Int → Int) × (Int → Int) × (Int → Int) × (Int → Int) × Int × (Int → Int) × (Int → Int) × (Int → Int)) :=
  bnd (m_Vol_isFile x1) (fun r1 => ceq r1 0 (bnd (m_Vol_refuse (-1) rf) (fun r5 => some ((1000000000 - r5.1), nrm, nrs, nrz, tow, tbt, tki, tpl, tva, twr, trm, trs, trz, r5.2))) (bnd (m_Mind_growthBySettling x1 now nbt nki npl nva nwr nrm nrs nrz tow tbt tki tpl tva twr trm trs trz) (fun r3 => some (r3.1, r3.2.1, r3.2.2.1, r3.2.2.2.1, r3.2.2.2.2.1, r3.2.2.2.2.2.1, r3.2.2.2.2.2.2.1, r3.2.2.2.2.2.2.2.1, r3.2.2.2.2.2.2.2.2.1, r3.2.2.2.2.2.2.2.2.2.1, r3.2.2.2.2.2.2.2.2.2.2.1, r3.2.2.2.2.2.2.2.2.2.2.2.1, r3.2.2.2.2.2.2.2.2.2.2.2.2, rf))))
set_option maxHeartbeats 4000000 in
set_option maxRecDepth 100000 in
theorem c_Vol_larger (l : Launch) (D : va_G) (cI cB : ClassId) (a0 a1 a2 a3 a4 a5 a6 a7 a8 a9 a10 a11 a12 a13 a14 a15 a16 a17 a18 a19 a20 a21 a22 a23 a24 a25 a26 a27 a28 a29 a30 a31 a32 a33 a34 a35 a36 a37 : Nat) (ik : Int) (now : Int → Int) (nbt : Int → Int) (nki : Int → Int) (npl : Int → Int) (nva : Int → Int) (nwr : Int → Int) (nrm : Int) (nrs : Int → Int) (nrz : Int → Int) (kow : Int → Int) (kbt : Int → Int) (kki : Int → Int) (kpl : Int → Int) (kva : Int → Int) (kwr : Int → Int) (krm : Int) (krs : Int → Int) (krz : Int → Int) (tow : Int → Int) (tbt : Int → Int) (tki : Int → Int) (tpl : Int → Int) (tva : Int → Int) (twr : Int → Int) (trm : Int) (trs : Int → Int) (trz : Int → Int) (seed : Int) (smn : Int) (snu : Int → Int) (rmn : Int) (rnu : Int → Int) (rf : Int → Int) (x1 : Int) {o : Int × Int × (Int → Int) × (Int → Int) × (Int → Int) × (Int → Int) × (Int → Int) × (Int → Int) × (Int → Int) × (Int → Int) × Int × (Int → Int) × (Int → Int) × (Int → Int)} (h : m_Vol_larger x1 now nbt nki npl nva nwr nrm nrs nrz tow tbt tki tpl tva twr trm trs trz rf = some o) : Ct l D cI cB y_Vol_larger b_Vol_larger 2 (some .int) { frames := 5, cells := 0, slots := 0, locals := 113 } [.ref a0, .int (zi x1)] (w_Vol cI cB a0 a1 a2 a3 a4 a5 a6 a7 a8 a9 a10 a11 a12 a13 a14 a15 a16 a17 a18 a19 a20 a21 a22 a23 a24 a25 a26 a27 a28 a29 a30 a31 a32 a33 a34 a35 a36 a37 ik now nbt nki npl nva nwr nrm nrs nrz kow kbt kki kpl kva kwr krm krs krz tow tbt tki tpl tva twr trm trs trz seed smn snu rmn rnu rf) (w_Vol cI cB a0 a1 a2 a3 a4 a5 a6 a7 a8 a9 a10 a11 a12 a13 a14 a15 a16 a17 a18 a19 a20 a21 a22 a23 a24 a25 a26 a27 a28 a29 a30 a31 a32 a33 a34 a35 a36 a37 ik now nbt nki npl nva nwr o.2.1 o.2.2.1 o.2.2.2.1 kow kbt kki kpl kva kwr krm krs krz o.2.2.2.2.1 o.2.2.2.2.2.1 o.2.2.2.2.2.2.1 o.2.2.2.2.2.2.2.1 o.2.2.2.2.2.2.2.2.1 o.2.2.2.2.2.2.2.2.2.1 o.2.2.2.2.2.2.2.2.2.2.1 o.2.2.2.2.2.2.2.2.2.2.2.1 o.2.2.2.2.2.2.2.2.2.2.2.2.1 seed smn snu rmn rnu o.2.2.2.2.2.2.2.2.2.2.2.2.2) (some (.int (zi o.1))) := by
  refine Ct.start (by decide) (Nat.le_of_ble_eq_true rfl) (fun G X hR => ?_)
  refine x_ls (ls2 := [(0, .ref a0), (1, .int (zi x1))]) [0, 1] rfl ?_
  unfold m_Vol_larger at h
  refine x_iload_n (pc := 0) X d_Vol_larger_0 1 rfl rfl ?_
  obtain ⟨r1, h2, h⟩ := bnd_e h
  refine x_callS (pc := 1) (As := [.int (zi x1)]) (rest := []) (w2 := (w_Vol cI cB a0 a1 a2 a3 a4 a5 a6 a7 a8 a9 a10 a11 a12 a13 a14 a15 a16 a17 a18 a19 a20 a21 a22 a23 a24 a25 a26 a27 a28 a29 a30 a31 a32 a33 a34 a35 a36 a37 ik now nbt nki npl nva nwr nrm nrs nrz kow kbt kki kpl kva kwr krm krs krz tow tbt tki tpl tva twr trm trs trz seed smn snu rmn rnu rf)) X d_Vol_larger_1 lk_Vol_84 mv_Vol_isFile (c_Vol_isFile l D cI cB x1 h2) ⟨(Nat.le_of_ble_eq_true rfl), (Nat.le_of_ble_eq_true rfl), (Nat.le_of_ble_eq_true rfl), (Nat.le_of_ble_eq_true rfl)⟩ [] rfl rfl rfl (Up.same rfl) rfl rfl (Nat.le_of_ble_eq_true rfl) ?_
  refine x_ifne (pc := 4) (tgt := 16) X d_Vol_larger_4 rfl h (fun h => ?_) (fun h => ?_)
  · skip
    refine x_aload_n (pc := 16) X d_Vol_larger_16 0 rfl rfl ?_
    refine x_get (pc := 17) X d_Vol_larger_17 0 rfl fl_Vol_27 rfl ?_
    refine x_iload_n (pc := 20) X d_Vol_larger_20 1 rfl rfl ?_
    obtain ⟨r3, h4, h⟩ := bnd_e h
    refine x_callV (pc := 21) (As := [.int (zi x1)]) (rest := []) (w2 := (w_Vol cI cB a0 a1 a2 a3 a4 a5 a6 a7 a8 a9 a10 a11 a12 a13 a14 a15 a16 a17 a18 a19 a20 a21 a22 a23 a24 a25 a26 a27 a28 a29 a30 a31 a32 a33 a34 a35 a36 a37 ik now nbt nki npl nva nwr r3.2.1 r3.2.2.1 r3.2.2.2.1 kow kbt kki kpl kva kwr krm krs krz r3.2.2.2.2.1 r3.2.2.2.2.2.1 r3.2.2.2.2.2.2.1 r3.2.2.2.2.2.2.2.1 r3.2.2.2.2.2.2.2.2.1 r3.2.2.2.2.2.2.2.2.2.1 r3.2.2.2.2.2.2.2.2.2.2.1 r3.2.2.2.2.2.2.2.2.2.2.2.1 r3.2.2.2.2.2.2.2.2.2.2.2.2 seed smn snu rmn rnu rf)) X d_Vol_larger_21 lk_Vol_249 mv_Mind_growthBySettling (c_Mind_growthBySettling l D cI cB a31 a1 a2 a3 a4 a5 a6 a7 a8 a9 a10 a21 a22 a23 a24 a25 a26 a27 a28 a29 a30 seed now nbt nki npl nva nwr nrm nrs nrz tow tbt tki tpl tva twr trm trs trz x1 h4) ⟨(Nat.le_of_ble_eq_true rfl), (Nat.le_of_ble_eq_true rfl), (Nat.le_of_ble_eq_true rfl), (Nat.le_of_ble_eq_true rfl)⟩ 31 rfl rfl [31, 1, 2, 3, 4, 5, 6, 7, 8, 9, 10, 21, 22, 23, 24, 25, 26, 27, 28, 29, 30] rfl rfl rfl (Up.of [0, 11, 12, 13, 14, 15, 16, 17, 18, 19, 20, 32, 33, 34, 35, 36, 37] [(a0, .inr (5, [.ref a1, .ref a11, .ref a21, .ref a31, .ref a32, .ref a35, .ref a37, .int (zi ik)])), (a11, .inr (0, [.ref a12, .ref a13, .ref a14, .ref a15, .ref a16, .ref a17, .ref a18])), (a12, zA cI 64 kow), (a13, zA cI 64 kbt), (a14, zA cI 4 kki), (a15, zA cI 96 kpl), (a16, zA cI 96 kva), (a17, zA cB 96 kwr), (a18, .inr (3, [.ref a19, .ref a20, .int (zi krm)])), (a19, zA cI 32 krs), (a20, zA cI 32 krz), (a32, .inr (4, [.ref a33])), (a33, .inr (2, [.ref a34, .int (zi smn)])), (a34, zA cI 96 snu), (a35, .inr (2, [.ref a36, .int (zi rmn)])), (a36, zA cI 32 rnu), (a37, zA cI 7 rf)] rfl rfl rfl 38 rfl (by decide +kernel)) rfl rfl (Nat.le_of_ble_eq_true rfl) ?_
    cases h
    exact x_iret (pc := 24) X hR d_Vol_larger_24
  · skip
    refine x_ldc (pc := 7) X d_Vol_larger_7 cw_Vol_248 cg_Vol_248 ?_
    refine x_aload_n (pc := 9) X d_Vol_larger_9 0 rfl rfl ?_
    refine x_iconst (pc := 10) X d_Vol_larger_10  ?_
    obtain ⟨r5, h6, h⟩ := bnd_e h
    refine x_callV (pc := 11) (As := [.int (zi (-1))]) (rest := [.int (zi 1000000000)]) (w2 := (w_Vol cI cB a0 a1 a2 a3 a4 a5 a6 a7 a8 a9 a10 a11 a12 a13 a14 a15 a16 a17 a18 a19 a20 a21 a22 a23 a24 a25 a26 a27 a28 a29 a30 a31 a32 a33 a34 a35 a36 a37 ik now nbt nki npl nva nwr nrm nrs nrz kow kbt kki kpl kva kwr krm krs krz tow tbt tki tpl tva twr trm trs trz seed smn snu rmn rnu r5.2)) X d_Vol_larger_11 lk_Vol_55 mv_Vol_refuse (c_Vol_refuse l D cI cB a0 a1 a2 a3 a4 a5 a6 a7 a8 a9 a10 a11 a12 a13 a14 a15 a16 a17 a18 a19 a20 a21 a22 a23 a24 a25 a26 a27 a28 a29 a30 a31 a32 a33 a34 a35 a36 a37 ik now nbt nki npl nva nwr nrm nrs nrz kow kbt kki kpl kva kwr krm krs krz tow tbt tki tpl tva twr trm trs trz seed smn snu rmn rnu rf (-1) h6) ⟨(Nat.le_of_ble_eq_true rfl), (Nat.le_of_ble_eq_true rfl), (Nat.le_of_ble_eq_true rfl), (Nat.le_of_ble_eq_true rfl)⟩ 0 rfl rfl [0, 1, 2, 3, 4, 5, 6, 7, 8, 9, 10, 11, 12, 13, 14, 15, 16, 17, 18, 19, 20, 21, 22, 23, 24, 25, 26, 27, 28, 29, 30, 31, 32, 33, 34, 35, 36, 37] rfl rfl rfl (Up.of [] [] rfl rfl rfl 38 rfl (by decide +kernel)) rfl rfl (Nat.le_of_ble_eq_true rfl) ?_
    refine x_isub (pc := 14) X d_Vol_larger_14  ?_
    cases h
    exact x_iret (pc := 15) X hR d_Vol_larger_15
theorem d_Vol_lost_0 : decode b_Vol_lost 0 = .ok (.iload_n 1, 1) := by decide +kernel
theorem d_Vol_lost_1 : decode b_Vol_lost 1 = .ok (.invokestatic 84, 3) := by decide +kernel
theorem d_Vol_lost_4 : decode b_Vol_lost 4 = .ok (.ifCond .ne 14, 3) := by decide +kernel
theorem d_Vol_lost_7 : decode b_Vol_lost 7 = .ok (.ldc2_w 252, 3) := by decide +kernel
theorem d_Vol_lost_10 : decode b_Vol_lost 10 = .ok (.aload_n 0, 1) := by decide +kernel
theorem d_Vol_lost_11 : decode b_Vol_lost 11 = .ok (.iconst (-1), 1) := by decide +kernel
theorem d_Vol_lost_12 : decode b_Vol_lost 12 = .ok (.invokevirtual 55, 3) := by decide +kernel
theorem d_Vol_lost_15 : decode b_Vol_lost 15 = .ok (.i2l, 1) := by decide +kernel
theorem d_Vol_lost_16 : decode b_Vol_lost 16 = .ok (.lsub, 1) := by decide +kernel
theorem d_Vol_lost_17 : decode b_Vol_lost 17 = .ok (.lreturn, 1) := by decide +kernel
theorem d_Vol_lost_18 : decode b_Vol_lost 18 = .ok (.iload_n 2, 1) := by decide +kernel
theorem d_Vol_lost_19 : decode b_Vol_lost 19 = .ok (.invokestatic 153, 3) := by decide +kernel
theorem d_Vol_lost_22 : decode b_Vol_lost 22 = .ok (.ifCond .ne 15, 3) := by decide +kernel
theorem d_Vol_lost_25 : decode b_Vol_lost 25 = .ok (.ldc2_w 252, 3) := by decide +kernel
theorem d_Vol_lost_28 : decode b_Vol_lost 28 = .ok (.aload_n 0, 1) := by decide +kernel
theorem d_Vol_lost_29 : decode b_Vol_lost 29 = .ok (.bipush (-2), 2) := by decide +kernel
theorem d_Vol_lost_31 : decode b_Vol_lost 31 = .ok (.invokevirtual 55, 3) := by decide +kernel
theorem d_Vol_lost_34 : decode b_Vol_lost 34 = .ok (.i2l, 1) := by decide +kernel
theorem d_Vol_lost_35 : decode b_Vol_lost 35 = .ok (.lsub, 1) := by decide +kernel
theorem d_Vol_lost_36 : decode b_Vol_lost 36 = .ok (.lreturn, 1) := by decide +kernel
theorem d_Vol_lost_37 : decode b_Vol_lost 37 = .ok (.aload_n 0, 1) := by decide +kernel
theorem d_Vol_lost_38 : decode b_Vol_lost 38 = .ok (.getfield 27, 3) := by decide +kernel
theorem d_Vol_lost_41 : decode b_Vol_lost 41 = .ok (.iload_n 1, 1) := by decide +kernel
theorem d_Vol_lost_42 : decode b_Vol_lost 42 = .ok (.invokevirtual 254, 3) := by decide +kernel
theorem d_Vol_lost_45 : decode b_Vol_lost 45 = .ok (.aload_n 0, 1) := by decide +kernel
theorem d_Vol_lost_46 : decode b_Vol_lost 46 = .ok (.getfield 27, 3) := by decide +kernel
theorem d_Vol_lost_49 : decode b_Vol_lost 49 = .ok (.iload_n 1, 1) := by decide +kernel
theorem d_Vol_lost_50 : decode b_Vol_lost 50 = .ok (.invokevirtual 212, 3) := by decide +kernel
theorem d_Vol_lost_53 : decode b_Vol_lost 53 = .ok (.iconst 1, 1) := by decide +kernel
theorem d_Vol_lost_54 : decode b_Vol_lost 54 = .ok (.iadd, 1) := by decide +kernel
theorem d_Vol_lost_55 : decode b_Vol_lost 55 = .ok (.iload_n 2, 1) := by decide +kernel
theorem d_Vol_lost_56 : decode b_Vol_lost 56 = .ok (.invokestatic 257, 3) := by decide +kernel
theorem d_Vol_lost_59 : decode b_Vol_lost 59 = .ok (.lreturn, 1) := by decide +kernel
def m_Vol_lost (x1 : Int) (x2 : Int) (now : Int → Int) (nbt : Int → Int) (nki : Int → Int) (npl : Int → Int) (nva : Int → Int) (nwr : Int → Int) (tow : Int → Int) (tbt : Int → Int) (tki : Int → Int) (tpl : Int → Int) (tva : Int → Int) (twr : Int → Int) (trm : Int) (trs : Int → Int) (trz : Int → Int) (rf : Int → Int) : Option (Int × (Int → Int) × (Int → Int) × (Int → Int) × (Int → Int) × (Int → Int) × (Int → Int) × Int × (Int → Int) × (Int → Int) × (Int → Int)) :=
  bnd (m_Vol_isFile x1) (fun r1 => ceq r1 0 (bnd (m_Vol_refuse (-1) rf) (fun r13 => gd (zr r13.1) (some ((4000000000000000000 - r13.1), tow, tbt, tki, tpl, tva, twr, trm, trs, trz, r13.2)))) (bnd (m_Vol_isEither x2) (fun r3 => ceq r3 0 (bnd (m_Vol_refuse (-2) rf) (fun r11 => gd (zr r11.1) (some ((4000000000000000000 - r11.1), tow, tbt, tki, tpl, tva, twr, trm, trs, trz, r11.2)))) (bnd (m_Mind_lossOfAllCrashes x1 now nbt nki npl nva nwr tow tbt tki tpl tva twr trm trs trz) (fun r5 => bnd (m_Mind_stepsOf x1 now nbt nki npl nva nwr r5.2.1 r5.2.2.1 r5.2.2.2.1 r5.2.2.2.2.1 r5.2.2.2.2.2.1 r5.2.2.2.2.2.2.1 r5.2.2.2.2.2.2.2.1 r5.2.2.2.2.2.2.2.2.1 r5.2.2.2.2.2.2.2.2.2) (fun r7 => bnd (m_Vol_partOf r5.1 (r7.1 + 1) x2) (fun r9 => some (r9, r7.2.1, r7.2.2.1, r7.2.2.2.1, r7.2.2.2.2.1, r7.2.2.2.2.2.1, r7.2.2.2.2.2.2.1, r7.2.2.2.2.2.2.2.1, r7.2.2.2.2.2.2.2.2.1, r7.2.2.2.2.2.2.2.2.2, rf))))))))
set_option maxHeartbeats 4000000 in
set_option maxRecDepth 100000 in
theorem c_Vol_lost (l : Launch) (D : va_G) (cI cB : ClassId) (a0 a1 a2 a3 a4 a5 a6 a7 a8 a9 a10 a11 a12 a13 a14 a15 a16 a17 a18 a19 a20 a21 a22 a23 a24 a25 a26 a27 a28 a29 a30 a31 a32 a33 a34 a35 a36 a37 : Nat) (ik : Int) (now : Int → Int) (nbt : Int → Int) (nki : Int → Int) (npl : Int → Int) (nva : Int → Int) (nwr : Int → Int) (nrm : Int) (nrs : Int → Int) (nrz : Int → Int) (kow : Int → Int) (kbt : Int → Int) (kki : Int → Int) (kpl : Int → Int) (kva : Int → Int) (kwr : Int → Int) (krm : Int) (krs : Int → Int) (krz : Int → Int) (tow : Int → Int) (tbt : Int → Int) (tki : Int → Int) (tpl : Int → Int) (tva : Int → Int) (twr : Int → Int) (trm : Int) (trs : Int → Int) (trz : Int → Int) (seed : Int) (smn : Int) (snu : Int → Int) (rmn : Int) (rnu : Int → Int) (rf : Int → Int) (x1 : Int) (x2 : Int) {o : Int × (Int → Int) × (Int → Int) × (Int → Int) × (Int → Int) × (Int → Int) × (Int → Int) × Int × (Int → Int) × (Int → Int) × (Int → Int)} (h : m_Vol_lost x1 x2 now nbt nki npl nva nwr tow tbt tki tpl tva twr trm trs trz rf = some o) : Ct l D cI cB y_Vol_lost b_Vol_lost 3 (some .long) { frames := 6, cells := 0, slots := 0, locals := 149 } [.ref a0, .int (zi x1), .int (zi x2)] (w_Vol cI cB a0 a1 a2 a3 a4 a5 a6 a7 a8 a9 a10 a11 a12 a13 a14 a15 a16 a17 a18 a19 a20 a21 a22 a23 a24 a25 a26 a27 a28 a29 a30 a31 a32 a33 a34 a35 a36 a37 ik now nbt nki npl nva nwr nrm nrs nrz kow kbt kki kpl kva kwr krm krs krz tow tbt tki tpl tva twr trm trs trz seed smn snu rmn rnu rf) (w_Vol cI cB a0 a1 a2 a3 a4 a5 a6 a7 a8 a9 a10 a11 a12 a13 a14 a15 a16 a17 a18 a19 a20 a21 a22 a23 a24 a25 a26 a27 a28 a29 a30 a31 a32 a33 a34 a35 a36 a37 ik now nbt nki npl nva nwr nrm nrs nrz kow kbt kki kpl kva kwr krm krs krz o.2.1 o.2.2.1 o.2.2.2.1 o.2.2.2.2.1 o.2.2.2.2.2.1 o.2.2.2.2.2.2.1 o.2.2.2.2.2.2.2.1 o.2.2.2.2.2.2.2.2.1 o.2.2.2.2.2.2.2.2.2.1 seed smn snu rmn rnu o.2.2.2.2.2.2.2.2.2.2) (some (.long (zl o.1))) := by
  refine Ct.start (by decide) (Nat.le_of_ble_eq_true rfl) (fun G X hR => ?_)
  refine x_ls (ls2 := [(0, .ref a0), (1, .int (zi x1)), (2, .int (zi x2))]) [0, 1, 2] rfl ?_
  unfold m_Vol_lost at h
  refine x_iload_n (pc := 0) X d_Vol_lost_0 1 rfl rfl ?_
  obtain ⟨r1, h2, h⟩ := bnd_e h
  refine x_callS (pc := 1) (As := [.int (zi x1)]) (rest := []) (w2 := (w_Vol cI cB a0 a1 a2 a3 a4 a5 a6 a7 a8 a9 a10 a11 a12 a13 a14 a15 a16 a17 a18 a19 a20 a21 a22 a23 a24 a25 a26 a27 a28 a29 a30 a31 a32 a33 a34 a35 a36 a37 ik now nbt nki npl nva nwr nrm nrs nrz kow kbt kki kpl kva kwr krm krs krz tow tbt tki tpl tva twr trm trs trz seed smn snu rmn rnu rf)) X d_Vol_lost_1 lk_Vol_84 mv_Vol_isFile (c_Vol_isFile l D cI cB x1 h2) ⟨(Nat.le_of_ble_eq_true rfl), (Nat.le_of_ble_eq_true rfl), (Nat.le_of_ble_eq_true rfl), (Nat.le_of_ble_eq_true rfl)⟩ [] rfl rfl rfl (Up.same rfl) rfl rfl (Nat.le_of_ble_eq_true rfl) ?_
  refine x_ifne (pc := 4) (tgt := 18) X d_Vol_lost_4 rfl h (fun h => ?_) (fun h => ?_)
  · skip
    refine x_iload_n (pc := 18) X d_Vol_lost_18 2 rfl rfl ?_
    obtain ⟨r3, h4, h⟩ := bnd_e h
    refine x_callS (pc := 19) (As := [.int (zi x2)]) (rest := []) (w2 := (w_Vol cI cB a0 a1 a2 a3 a4 a5 a6 a7 a8 a9 a10 a11 a12 a13 a14 a15 a16 a17 a18 a19 a20 a21 a22 a23 a24 a25 a26 a27 a28 a29 a30 a31 a32 a33 a34 a35 a36 a37 ik now nbt nki npl nva nwr nrm nrs nrz kow kbt kki kpl kva kwr krm krs krz tow tbt tki tpl tva twr trm trs trz seed smn snu rmn rnu rf)) X d_Vol_lost_19 lk_Vol_153 mv_Vol_isEither (c_Vol_isEither l D cI cB x2 h4) ⟨(Nat.le_of_ble_eq_true rfl), (Nat.le_of_ble_eq_true rfl), (Nat.le_of_ble_eq_true rfl), (Nat.le_of_ble_eq_true rfl)⟩ [] rfl rfl rfl (Up.same rfl) rfl rfl (Nat.le_of_ble_eq_true rfl) ?_
    refine x_ifne (pc := 22) (tgt := 37) X d_Vol_lost_22 rfl h (fun h => ?_) (fun h => ?_)
    · skip
      refine x_aload_n (pc := 37) X d_Vol_lost_37 0 rfl rfl ?_
      refine x_get (pc := 38) X d_Vol_lost_38 0 rfl fl_Vol_27 rfl ?_
      refine x_iload_n (pc := 41) X d_Vol_lost_41 1 rfl rfl ?_
      obtain ⟨r5, h6, h⟩ := bnd_e h
      refine x_callV (pc := 42) (As := [.int (zi x1)]) (rest := []) (w2 := (w_Vol cI cB a0 a1 a2 a3 a4 a5 a6 a7 a8 a9 a10 a11 a12 a13 a14 a15 a16 a17 a18 a19 a20 a21 a22 a23 a24 a25 a26 a27 a28 a29 a30 a31 a32 a33 a34 a35 a36 a37 ik now nbt nki npl nva nwr nrm nrs nrz kow kbt kki kpl kva kwr krm krs krz r5.2.1 r5.2.2.1 r5.2.2.2.1 r5.2.2.2.2.1 r5.2.2.2.2.2.1 r5.2.2.2.2.2.2.1 r5.2.2.2.2.2.2.2.1 r5.2.2.2.2.2.2.2.2.1 r5.2.2.2.2.2.2.2.2.2 seed smn snu rmn rnu rf)) X d_Vol_lost_42 lk_Vol_254 mv_Mind_lossOfAllCrashes (c_Mind_lossOfAllCrashes l D cI cB a31 a1 a2 a3 a4 a5 a6 a7 a8 a9 a10 a21 a22 a23 a24 a25 a26 a27 a28 a29 a30 seed now nbt nki npl nva nwr nrm nrs nrz tow tbt tki tpl tva twr trm trs trz x1 h6) ⟨(Nat.le_of_ble_eq_true rfl), (Nat.le_of_ble_eq_true rfl), (Nat.le_of_ble_eq_true rfl), (Nat.le_of_ble_eq_true rfl)⟩ 31 rfl rfl [31, 1, 2, 3, 4, 5, 6, 7, 8, 9, 10, 21, 22, 23, 24, 25, 26, 27, 28, 29, 30] rfl rfl rfl (Up.of [0, 11, 12, 13, 14, 15, 16, 17, 18, 19, 20, 32, 33, 34, 35, 36, 37] [(a0, .inr (5, [.ref a1, .ref a11, .ref a21, .ref a31, .ref a32, .ref a35, .ref a37, .int (zi ik)])), (a11, .inr (0, [.ref a12, .ref a13, .ref a14, .ref a15, .ref a16, .ref a17, .ref a18])), (a12, zA cI 64 kow), (a13, zA cI 64 kbt), (a14, zA cI 4 kki), (a15, zA cI 96 kpl), (a16, zA cI 96 kva), (a17, zA cB 96 kwr), (a18, .inr (3, [.ref a19, .ref a20, .int (zi krm)])), (a19, zA cI 32 krs), (a20, zA cI 32 krz), (a32, .inr (4, [.ref a33])), (a33, .inr (2, [.ref a34, .int (zi smn)])), (a34, zA cI 96 snu), (a35, .inr (2, [.ref a36, .int (zi rmn)])), (a36, zA cI 32 rnu), (a37, zA cI 7 rf)] rfl rfl rfl 38 rfl (by decide +kernel)) rfl rfl (Nat.le_of_ble_eq_true rfl) ?_
      refine x_aload_n (pc := 45) X d_Vol_lost_45 0 rfl rfl ?_
      refine x_get (pc := 46) X d_Vol_lost_46 0 rfl fl_Vol_27 rfl ?_
      refine x_iload_n (pc := 49) X d_Vol_lost_49 1 rfl rfl ?_
      obtain ⟨r7, h8, h⟩ := bnd_e h
      refine x_callV (pc := 50) (As := [.int (zi x1)]) (rest := [.int (zi r5.1)]) (w2 := (w_Vol cI cB a0 a1 a2 a3 a4 a5 a6 a7 a8 a9 a10 a11 a12 a13 a14 a15 a16 a17 a18 a19 a20 a21 a22 a23 a24 a25 a26 a27 a28 a29 a30 a31 a32 a33 a34 a35 a36 a37 ik now nbt nki npl nva nwr nrm nrs nrz kow kbt kki kpl kva kwr krm krs krz r7.2.1 r7.2.2.1 r7.2.2.2.1 r7.2.2.2.2.1 r7.2.2.2.2.2.1 r7.2.2.2.2.2.2.1 r7.2.2.2.2.2.2.2.1 r7.2.2.2.2.2.2.2.2.1 r7.2.2.2.2.2.2.2.2.2 seed smn snu rmn rnu rf)) X d_Vol_lost_50 lk_Vol_212 mv_Mind_stepsOf (c_Mind_stepsOf l D cI cB a31 a1 a2 a3 a4 a5 a6 a7 a8 a9 a10 a21 a22 a23 a24 a25 a26 a27 a28 a29 a30 seed now nbt nki npl nva nwr nrm nrs nrz r5.2.1 r5.2.2.1 r5.2.2.2.1 r5.2.2.2.2.1 r5.2.2.2.2.2.1 r5.2.2.2.2.2.2.1 r5.2.2.2.2.2.2.2.1 r5.2.2.2.2.2.2.2.2.1 r5.2.2.2.2.2.2.2.2.2 x1 h8) ⟨(Nat.le_of_ble_eq_true rfl), (Nat.le_of_ble_eq_true rfl), (Nat.le_of_ble_eq_true rfl), (Nat.le_of_ble_eq_true rfl)⟩ 31 rfl rfl [31, 1, 2, 3, 4, 5, 6, 7, 8, 9, 10, 21, 22, 23, 24, 25, 26, 27, 28, 29, 30] rfl rfl rfl (Up.of [0, 11, 12, 13, 14, 15, 16, 17, 18, 19, 20, 32, 33, 34, 35, 36, 37] [(a0, .inr (5, [.ref a1, .ref a11, .ref a21, .ref a31, .ref a32, .ref a35, .ref a37, .int (zi ik)])), (a11, .inr (0, [.ref a12, .ref a13, .ref a14, .ref a15, .ref a16, .ref a17, .ref a18])), (a12, zA cI 64 kow), (a13, zA cI 64 kbt), (a14, zA cI 4 kki), (a15, zA cI 96 kpl), (a16, zA cI 96 kva), (a17, zA cB 96 kwr), (a18, .inr (3, [.ref a19, .ref a20, .int (zi krm)])), (a19, zA cI 32 krs), (a20, zA cI 32 krz), (a32, .inr (4, [.ref a33])), (a33, .inr (2, [.ref a34, .int (zi smn)])), (a34, zA cI 96 snu), (a35, .inr (2, [.ref a36, .int (zi rmn)])), (a36, zA cI 32 rnu), (a37, zA cI 7 rf)] rfl rfl rfl 38 rfl (by decide +kernel)) rfl rfl (Nat.le_of_ble_eq_true rfl) ?_
      refine x_iconst (pc := 53) X d_Vol_lost_53  ?_
      refine x_iadd (pc := 54) X d_Vol_lost_54  ?_
      refine x_iload_n (pc := 55) X d_Vol_lost_55 2 rfl rfl ?_
      obtain ⟨r9, h10, h⟩ := bnd_e h
      refine x_callS (pc := 56) (As := [.int (zi r5.1), .int (zi (r7.1 + 1)), .int (zi x2)]) (rest := []) (w2 := (w_Vol cI cB a0 a1 a2 a3 a4 a5 a6 a7 a8 a9 a10 a11 a12 a13 a14 a15 a16 a17 a18 a19 a20 a21 a22 a23 a24 a25 a26 a27 a28 a29 a30 a31 a32 a33 a34 a35 a36 a37 ik now nbt nki npl nva nwr nrm nrs nrz kow kbt kki kpl kva kwr krm krs krz r7.2.1 r7.2.2.1 r7.2.2.2.1 r7.2.2.2.2.1 r7.2.2.2.2.2.1 r7.2.2.2.2.2.2.1 r7.2.2.2.2.2.2.2.1 r7.2.2.2.2.2.2.2.2.1 r7.2.2.2.2.2.2.2.2.2 seed smn snu rmn rnu rf)) X d_Vol_lost_56 lk_Vol_257 mv_Vol_partOf (c_Vol_partOf l D cI cB r5.1 (r7.1 + 1) x2 h10) ⟨(Nat.le_of_ble_eq_true rfl), (Nat.le_of_ble_eq_true rfl), (Nat.le_of_ble_eq_true rfl), (Nat.le_of_ble_eq_true rfl)⟩ [] rfl rfl rfl (Up.same rfl) rfl rfl (Nat.le_of_ble_eq_true rfl) ?_
      cases h
      exact x_lret (pc := 59) X hR d_Vol_lost_59
    · skip
      refine x_ldc2 (pc := 25) X d_Vol_lost_25 cw_Vol_252 cg_Vol_252 ?_
      refine x_aload_n (pc := 28) X d_Vol_lost_28 0 rfl rfl ?_
      refine x_bipush (pc := 29) (v := -2) X d_Vol_lost_29 rfl ?_
      obtain ⟨r11, h12, h⟩ := bnd_e h
      refine x_callV (pc := 31) (As := [.int (zi (-2))]) (rest := [.long (zl 4000000000000000000)]) (w2 := (w_Vol cI cB a0 a1 a2 a3 a4 a5 a6 a7 a8 a9 a10 a11 a12 a13 a14 a15 a16 a17 a18 a19 a20 a21 a22 a23 a24 a25 a26 a27 a28 a29 a30 a31 a32 a33 a34 a35 a36 a37 ik now nbt nki npl nva nwr nrm nrs nrz kow kbt kki kpl kva kwr krm krs krz tow tbt tki tpl tva twr trm trs trz seed smn snu rmn rnu r11.2)) X d_Vol_lost_31 lk_Vol_55 mv_Vol_refuse (c_Vol_refuse l D cI cB a0 a1 a2 a3 a4 a5 a6 a7 a8 a9 a10 a11 a12 a13 a14 a15 a16 a17 a18 a19 a20 a21 a22 a23 a24 a25 a26 a27 a28 a29 a30 a31 a32 a33 a34 a35 a36 a37 ik now nbt nki npl nva nwr nrm nrs nrz kow kbt kki kpl kva kwr krm krs krz tow tbt tki tpl tva twr trm trs trz seed smn snu rmn rnu rf (-2) h12) ⟨(Nat.le_of_ble_eq_true rfl), (Nat.le_of_ble_eq_true rfl), (Nat.le_of_ble_eq_true rfl), (Nat.le_of_ble_eq_true rfl)⟩ 0 rfl rfl [0, 1, 2, 3, 4, 5, 6, 7, 8, 9, 10, 11, 12, 13, 14, 15, 16, 17, 18, 19, 20, 21, 22, 23, 24, 25, 26, 27, 28, 29, 30, 31, 32, 33, 34, 35, 36, 37] rfl rfl rfl (Up.of [] [] rfl rfl rfl 38 rfl (by decide +kernel)) rfl rfl (Nat.le_of_ble_eq_true rfl) ?_
      refine x_i2l (pc := 34) X d_Vol_lost_34 h (fun h => ?_)
      refine x_lsub (pc := 35) X d_Vol_lost_35  ?_
      cases h
      exact x_lret (pc := 36) X hR d_Vol_lost_36
  · skip
    refine x_ldc2 (pc := 7) X d_Vol_lost_7 cw_Vol_252 cg_Vol_252 ?_
    refine x_aload_n (pc := 10) X d_Vol_lost_10 0 rfl rfl ?_
    refine x_iconst (pc := 11) X d_Vol_lost_11  ?_
    obtain ⟨r13, h14, h⟩ := bnd_e h
    refine x_callV (pc := 12) (As := [.int (zi (-1))]) (rest := [.long (zl 4000000000000000000)]) (w2 := (w_Vol cI cB a0 a1 a2 a3 a4 a5 a6 a7 a8 a9 a10 a11 a12 a13 a14 a15 a16 a17 a18 a19 a20 a21 a22 a23 a24 a25 a26 a27 a28 a29 a30 a31 a32 a33 a34 a35 a36 a37 ik now nbt nki npl nva nwr nrm nrs nrz kow kbt kki kpl kva kwr krm krs krz tow tbt tki tpl tva twr trm trs trz seed smn snu rmn rnu r13.2)) X d_Vol_lost_12 lk_Vol_55 mv_Vol_refuse (c_Vol_refuse l D cI cB a0 a1 a2 a3 a4 a5 a6 a7 a8 a9 a10 a11 a12 a13 a14 a15 a16 a17 a18 a19 a20 a21 a22 a23 a24 a25 a26 a27 a28 a29 a30 a31 a32 a33 a34 a35 a36 a37 ik now nbt nki npl nva nwr nrm nrs nrz kow kbt kki kpl kva kwr krm krs krz tow tbt tki tpl tva twr trm trs trz seed smn snu rmn rnu rf (-1) h14) ⟨(Nat.le_of_ble_eq_true rfl), (Nat.le_of_ble_eq_true rfl), (Nat.le_of_ble_eq_true rfl), (Nat.le_of_ble_eq_true rfl)⟩ 0 rfl rfl [0, 1, 2, 3, 4, 5, 6, 7, 8, 9, 10, 11, 12, 13, 14, 15, 16, 17, 18, 19, 20, 21, 22, 23, 24, 25, 26, 27, 28, 29, 30, 31, 32, 33, 34, 35, 36, 37] rfl rfl rfl (Up.of [] [] rfl rfl rfl 38 rfl (by decide +kernel)) rfl rfl (Nat.le_of_ble_eq_true rfl) ?_
    refine x_i2l (pc := 15) X d_Vol_lost_15 h (fun h => ?_)
    refine x_lsub (pc := 16) X d_Vol_lost_16  ?_
    cases h
    exact x_lret (pc := 17) X hR d_Vol_lost_17
theorem d_Vol_sure_0 : decode b_Vol_sure 0 = .ok (.iload_n 1, 1) := by decide +kernel
theorem d_Vol_sure_1 : decode b_Vol_sure 1 = .ok (.invokestatic 84, 3) := by decide +kernel
theorem d_Vol_sure_4 : decode b_Vol_sure 4 = .ok (.ifCond .eq 10, 3) := by decide +kernel
theorem d_Vol_sure_7 : decode b_Vol_sure 7 = .ok (.iload_n 2, 1) := by decide +kernel
theorem d_Vol_sure_8 : decode b_Vol_sure 8 = .ok (.invokestatic 88, 3) := by decide +kernel
theorem d_Vol_sure_11 : decode b_Vol_sure 11 = .ok (.ifCond .ne 14, 3) := by decide +kernel
theorem d_Vol_sure_14 : decode b_Vol_sure 14 = .ok (.ldc2_w 252, 3) := by decide +kernel
theorem d_Vol_sure_17 : decode b_Vol_sure 17 = .ok (.aload_n 0, 1) := by decide +kernel
theorem d_Vol_sure_18 : decode b_Vol_sure 18 = .ok (.iconst (-1), 1) := by decide +kernel
theorem d_Vol_sure_19 : decode b_Vol_sure 19 = .ok (.invokevirtual 55, 3) := by decide +kernel
theorem d_Vol_sure_22 : decode b_Vol_sure 22 = .ok (.i2l, 1) := by decide +kernel
theorem d_Vol_sure_23 : decode b_Vol_sure 23 = .ok (.lsub, 1) := by decide +kernel
theorem d_Vol_sure_24 : decode b_Vol_sure 24 = .ok (.lreturn, 1) := by decide +kernel
theorem d_Vol_sure_25 : decode b_Vol_sure 25 = .ok (.iload_n 3, 1) := by decide +kernel
theorem d_Vol_sure_26 : decode b_Vol_sure 26 = .ok (.invokestatic 153, 3) := by decide +kernel
theorem d_Vol_sure_29 : decode b_Vol_sure 29 = .ok (.ifCond .ne 15, 3) := by decide +kernel
theorem d_Vol_sure_32 : decode b_Vol_sure 32 = .ok (.ldc2_w 252, 3) := by decide +kernel
theorem d_Vol_sure_35 : decode b_Vol_sure 35 = .ok (.aload_n 0, 1) := by decide +kernel
theorem d_Vol_sure_36 : decode b_Vol_sure 36 = .ok (.bipush (-2), 2) := by decide +kernel
theorem d_Vol_sure_38 : decode b_Vol_sure 38 = .ok (.invokevirtual 55, 3) := by decide +kernel
theorem d_Vol_sure_41 : decode b_Vol_sure 41 = .ok (.i2l, 1) := by decide +kernel
theorem d_Vol_sure_42 : decode b_Vol_sure 42 = .ok (.lsub, 1) := by decide +kernel
theorem d_Vol_sure_43 : decode b_Vol_sure 43 = .ok (.lreturn, 1) := by decide +kernel
theorem d_Vol_sure_44 : decode b_Vol_sure 44 = .ok (.aload_n 0, 1) := by decide +kernel
theorem d_Vol_sure_45 : decode b_Vol_sure 45 = .ok (.getfield 27, 3) := by decide +kernel
theorem d_Vol_sure_48 : decode b_Vol_sure 48 = .ok (.iload_n 1, 1) := by decide +kernel
theorem d_Vol_sure_49 : decode b_Vol_sure 49 = .ok (.iload_n 2, 1) := by decide +kernel
theorem d_Vol_sure_50 : decode b_Vol_sure 50 = .ok (.invokevirtual 261, 3) := by decide +kernel
theorem d_Vol_sure_53 : decode b_Vol_sure 53 = .ok (.aload_n 0, 1) := by decide +kernel
theorem d_Vol_sure_54 : decode b_Vol_sure 54 = .ok (.getfield 27, 3) := by decide +kernel
theorem d_Vol_sure_57 : decode b_Vol_sure 57 = .ok (.iload_n 1, 1) := by decide +kernel
theorem d_Vol_sure_58 : decode b_Vol_sure 58 = .ok (.invokevirtual 212, 3) := by decide +kernel
theorem d_Vol_sure_61 : decode b_Vol_sure 61 = .ok (.iconst 1, 1) := by decide +kernel
theorem d_Vol_sure_62 : decode b_Vol_sure 62 = .ok (.iadd, 1) := by decide +kernel
theorem d_Vol_sure_63 : decode b_Vol_sure 63 = .ok (.iload_n 3, 1) := by decide +kernel
theorem d_Vol_sure_64 : decode b_Vol_sure 64 = .ok (.invokestatic 257, 3) := by decide +kernel
theorem d_Vol_sure_67 : decode b_Vol_sure 67 = .ok (.lreturn, 1) := by decide +kernel
def m_Vol_sure (x1 : Int) (x2 : Int) (x3 : Int) (now : Int → Int) (nbt : Int → Int) (nki : Int → Int) (npl : Int → Int) (nva : Int → Int) (nwr : Int → Int) (tow : Int → Int) (tbt : Int → Int) (tki : Int → Int) (tpl : Int → Int) (tva : Int → Int) (twr : Int → Int) (trm : Int) (trs : Int → Int) (trz : Int → Int) (rf : Int → Int) : Option (Int × (Int → Int) × (Int → Int) × (Int → Int) × (Int → Int) × (Int → Int) × (Int → Int) × Int × (Int → Int) × (Int → Int) × (Int → Int)) :=
  bnd (m_Vol_isFile x1) (fun r1 => jn (fun (c4 : Int → Int) (c5 : Int → Int) (c6 : Int → Int) (c7 : Int → Int) (c8 : Int → Int) (c9 : Int → Int) (c10 : Int) (c11 : Int → Int) (c12 : Int → Int) (c13 : Int → Int) => bnd (m_Vol_refuse (-1) c13) (fun r14 => gd (zr r14.1) (some ((4000000000000000000 - r14.1), c4, c5, c6, c7, c8, c9, c10, c11, c12, r14.2)))) (fun j3 => ceq r1 0 (j3 tow tbt tki tpl tva twr trm trs trz rf) (bnd (m_Vol_isPage x2) (fun r18 => ceq r18 0 (j3 tow tbt tki tpl tva twr trm trs trz rf) (bnd (m_Vol_isEither x3) (fun r20 => ceq r20 0 (bnd (m_Vol_refuse (-2) rf) (fun r28 => gd (zr r28.1) (some ((4000000000000000000 - r28.1), tow, tbt, tki, tpl, tva, twr, trm, trs, trz, r28.2)))) (bnd (m_Mind_crashesThatKeep x1 x2 now nbt nki npl nva nwr tow tbt tki tpl tva twr trm trs trz) (fun r22 => bnd (m_Mind_stepsOf x1 now nbt nki npl nva nwr r22.2.1 r22.2.2.1 r22.2.2.2.1 r22.2.2.2.2.1 r22.2.2.2.2.2.1 r22.2.2.2.2.2.2.1 r22.2.2.2.2.2.2.2.1 r22.2.2.2.2.2.2.2.2.1 r22.2.2.2.2.2.2.2.2.2) (fun r24 => bnd (m_Vol_partOf r22.1 (r24.1 + 1) x3) (fun r26 => some (r26, r24.2.1, r24.2.2.1, r24.2.2.2.1, r24.2.2.2.2.1, r24.2.2.2.2.2.1, r24.2.2.2.2.2.2.1, r24.2.2.2.2.2.2.2.1, r24.2.2.2.2.2.2.2.2.1, r24.2.2.2.2.2.2.2.2.2, rf)))))))))))
set_option maxHeartbeats 4000000 in
set_option maxRecDepth 100000 in
theorem c_Vol_sure (l : Launch) (D : va_G) (cI cB : ClassId) (a0 a1 a2 a3 a4 a5 a6 a7 a8 a9 a10 a11 a12 a13 a14 a15 a16 a17 a18 a19 a20 a21 a22 a23 a24 a25 a26 a27 a28 a29 a30 a31 a32 a33 a34 a35 a36 a37 : Nat) (ik : Int) (now : Int → Int) (nbt : Int → Int) (nki : Int → Int) (npl : Int → Int) (nva : Int → Int) (nwr : Int → Int) (nrm : Int) (nrs : Int → Int) (nrz : Int → Int) (kow : Int → Int) (kbt : Int → Int) (kki : Int → Int) (kpl : Int → Int) (kva : Int → Int) (kwr : Int → Int) (krm : Int) (krs : Int → Int) (krz : Int → Int) (tow : Int → Int) (tbt : Int → Int) (tki : Int → Int) (tpl : Int → Int) (tva : Int → Int) (twr : Int → Int) (trm : Int) (trs : Int → Int) (trz : Int → Int) (seed : Int) (smn : Int) (snu : Int → Int) (rmn : Int) (rnu : Int → Int) (rf : Int → Int) (x1 : Int) (x2 : Int) (x3 : Int) {o : Int × (Int → Int) × (Int → Int) × (Int → Int) × (Int → Int) × (Int → Int) × (Int → Int) × Int × (Int → Int) × (Int → Int) × (Int → Int)} (h : m_Vol_sure x1 x2 x3 now nbt nki npl nva nwr tow tbt tki tpl tva twr trm trs trz rf = some o) : Ct l D cI cB y_Vol_sure b_Vol_sure 4 (some .long) { frames := 6, cells := 0, slots := 0, locals := 150 } [.ref a0, .int (zi x1), .int (zi x2), .int (zi x3)] (w_Vol cI cB a0 a1 a2 a3 a4 a5 a6 a7 a8 a9 a10 a11 a12 a13 a14 a15 a16 a17 a18 a19 a20 a21 a22 a23 a24 a25 a26 a27 a28 a29 a30 a31 a32 a33 a34 a35 a36 a37 ik now nbt nki npl nva nwr nrm nrs nrz kow kbt kki kpl kva kwr krm krs krz tow tbt tki tpl tva twr trm trs trz seed smn snu rmn rnu rf) (w_Vol cI cB a0 a1 a2 a3 a4 a5 a6 a7 a8 a9 a10 a11 a12 a13 a14 a15 a16 a17 a18 a19 a20 a21 a22 a23 a24 a25 a26 a27 a28 a29 a30 a31 a32 a33 a34 a35 a36 a37 ik now nbt nki npl nva nwr nrm nrs nrz kow kbt kki kpl kva kwr krm krs krz o.2.1 o.2.2.1 o.2.2.2.1 o.2.2.2.2.1 o.2.2.2.2.2.1 o.2.2.2.2.2.2.1 o.2.2.2.2.2.2.2.1 o.2.2.2.2.2.2.2.2.1 o.2.2.2.2.2.2.2.2.2.1 seed smn snu rmn rnu o.2.2.2.2.2.2.2.2.2.2) (some (.long (zl o.1))) := by
  refine Ct.start (by decide) (Nat.le_of_ble_eq_true rfl) (fun G X hR => ?_)
  refine x_ls (ls2 := [(0, .ref a0), (1, .int (zi x1)), (2, .int (zi x2)), (3, .int (zi x3))]) [0, 1, 2, 3] rfl ?_
  unfold m_Vol_sure at h
  refine x_iload_n (pc := 0) X d_Vol_sure_0 1 rfl rfl ?_
  obtain ⟨r1, h2, h⟩ := bnd_e h
  refine x_callS (pc := 1) (As := [.int (zi x1)]) (rest := []) (w2 := (w_Vol cI cB a0 a1 a2 a3 a4 a5 a6 a7 a8 a9 a10 a11 a12 a13 a14 a15 a16 a17 a18 a19 a20 a21 a22 a23 a24 a25 a26 a27 a28 a29 a30 a31 a32 a33 a34 a35 a36 a37 ik now nbt nki npl nva nwr nrm nrs nrz kow kbt kki kpl kva kwr krm krs krz tow tbt tki tpl tva twr trm trs trz seed smn snu rmn rnu rf)) X d_Vol_sure_1 lk_Vol_84 mv_Vol_isFile (c_Vol_isFile l D cI cB x1 h2) ⟨(Nat.le_of_ble_eq_true rfl), (Nat.le_of_ble_eq_true rfl), (Nat.le_of_ble_eq_true rfl), (Nat.le_of_ble_eq_true rfl)⟩ [] rfl rfl rfl (Up.same rfl) rfl rfl (Nat.le_of_ble_eq_true rfl) ?_
  obtain ⟨j3, hj16, h⟩ := jn_e h
  have J17 : ∀ (c4 : Int → Int) (c5 : Int → Int) (c6 : Int → Int) (c7 : Int → Int) (c8 : Int → Int) (c9 : Int → Int) (c10 : Int) (c11 : Int → Int) (c12 : Int → Int) (c13 : Int → Int), j3 c4 c5 c6 c7 c8 c9 c10 c11 c12 c13 = some o → Wx G 0 0 14 [(0, .ref a0)] [] (w_Vol cI cB a0 a1 a2 a3 a4 a5 a6 a7 a8 a9 a10 a11 a12 a13 a14 a15 a16 a17 a18 a19 a20 a21 a22 a23 a24 a25 a26 a27 a28 a29 a30 a31 a32 a33 a34 a35 a36 a37 ik now nbt nki npl nva nwr nrm nrs nrz kow kbt kki kpl kva kwr krm krs krz c4 c5 c6 c7 c8 c9 c10 c11 c12 seed smn snu rmn rnu c13) := by
    intro c4 c5 c6 c7 c8 c9 c10 c11 c12 c13 h
    rw [hj16] at h
    (try dsimp only at h)
    refine x_ldc2 (pc := 14) X d_Vol_sure_14 cw_Vol_252 cg_Vol_252 ?_
    refine x_aload_n (pc := 17) X d_Vol_sure_17 0 rfl rfl ?_
    refine x_iconst (pc := 18) X d_Vol_sure_18  ?_
    obtain ⟨r14, h15, h⟩ := bnd_e h
    refine x_callV (pc := 19) (As := [.int (zi (-1))]) (rest := [.long (zl 4000000000000000000)]) (w2 := (w_Vol cI cB a0 a1 a2 a3 a4 a5 a6 a7 a8 a9 a10 a11 a12 a13 a14 a15 a16 a17 a18 a19 a20 a21 a22 a23 a24 a25 a26 a27 a28 a29 a30 a31 a32 a33 a34 a35 a36 a37 ik now nbt nki npl nva nwr nrm nrs nrz kow kbt kki kpl kva kwr krm krs krz c4 c5 c6 c7 c8 c9 c10 c11 c12 seed smn snu rmn rnu r14.2)) X d_Vol_sure_19 lk_Vol_55 mv_Vol_refuse (c_Vol_refuse l D cI cB a0 a1 a2 a3 a4 a5 a6 a7 a8 a9 a10 a11 a12 a13 a14 a15 a16 a17 a18 a19 a20 a21 a22 a23 a24 a25 a26 a27 a28 a29 a30 a31 a32 a33 a34 a35 a36 a37 ik now nbt nki npl nva nwr nrm nrs nrz kow kbt kki kpl kva kwr krm krs krz c4 c5 c6 c7 c8 c9 c10 c11 c12 seed smn snu rmn rnu c13 (-1) h15) ⟨(Nat.le_of_ble_eq_true rfl), (Nat.le_of_ble_eq_true rfl), (Nat.le_of_ble_eq_true rfl), (Nat.le_of_ble_eq_true rfl)⟩ 0 rfl rfl [0, 1, 2, 3, 4, 5, 6, 7, 8, 9, 10, 11, 12, 13, 14, 15, 16, 17, 18, 19, 20, 21, 22, 23, 24, 25, 26, 27, 28, 29, 30, 31, 32, 33, 34, 35, 36, 37] rfl rfl rfl (Up.of [] [] rfl rfl rfl 38 rfl (by decide +kernel)) rfl rfl (Nat.le_of_ble_eq_true rfl) ?_
    refine x_i2l (pc := 22) X d_Vol_sure_22 h (fun h => ?_)
    refine x_lsub (pc := 23) X d_Vol_sure_23  ?_
    cases h
    exact x_lret (pc := 24) X hR d_Vol_sure_24
  clear hj16
  refine x_ifeq (pc := 4) (tgt := 14) X d_Vol_sure_4 rfl h (fun h => ?_) (fun h => ?_)
  · skip
    refine x_ls (ls2 := [(0, .ref a0)]) [0] rfl ?_
    exact J17 tow tbt tki tpl tva twr trm trs trz rf h
  · skip
    refine x_iload_n (pc := 7) X d_Vol_sure_7 2 rfl rfl ?_
    obtain ⟨r18, h19, h⟩ := bnd_e h
    refine x_callS (pc := 8) (As := [.int (zi x2)]) (rest := []) (w2 := (w_Vol cI cB a0 a1 a2 a3 a4 a5 a6 a7 a8 a9 a10 a11 a12 a13 a14 a15 a16 a17 a18 a19 a20 a21 a22 a23 a24 a25 a26 a27 a28 a29 a30 a31 a32 a33 a34 a35 a36 a37 ik now nbt nki npl nva nwr nrm nrs nrz kow kbt kki kpl kva kwr krm krs krz tow tbt tki tpl tva twr trm trs trz seed smn snu rmn rnu rf)) X d_Vol_sure_8 lk_Vol_88 mv_Vol_isPage (c_Vol_isPage l D cI cB x2 h19) ⟨(Nat.le_of_ble_eq_true rfl), (Nat.le_of_ble_eq_true rfl), (Nat.le_of_ble_eq_true rfl), (Nat.le_of_ble_eq_true rfl)⟩ [] rfl rfl rfl (Up.same rfl) rfl rfl (Nat.le_of_ble_eq_true rfl) ?_
    refine x_ifne (pc := 11) (tgt := 25) X d_Vol_sure_11 rfl h (fun h => ?_) (fun h => ?_)
    · skip
      refine x_iload_n (pc := 25) X d_Vol_sure_25 3 rfl rfl ?_
      obtain ⟨r20, h21, h⟩ := bnd_e h
      refine x_callS (pc := 26) (As := [.int (zi x3)]) (rest := []) (w2 := (w_Vol cI cB a0 a1 a2 a3 a4 a5 a6 a7 a8 a9 a10 a11 a12 a13 a14 a15 a16 a17 a18 a19 a20 a21 a22 a23 a24 a25 a26 a27 a28 a29 a30 a31 a32 a33 a34 a35 a36 a37 ik now nbt nki npl nva nwr nrm nrs nrz kow kbt kki kpl kva kwr krm krs krz tow tbt tki tpl tva twr trm trs trz seed smn snu rmn rnu rf)) X d_Vol_sure_26 lk_Vol_153 mv_Vol_isEither (c_Vol_isEither l D cI cB x3 h21) ⟨(Nat.le_of_ble_eq_true rfl), (Nat.le_of_ble_eq_true rfl), (Nat.le_of_ble_eq_true rfl), (Nat.le_of_ble_eq_true rfl)⟩ [] rfl rfl rfl (Up.same rfl) rfl rfl (Nat.le_of_ble_eq_true rfl) ?_
      refine x_ifne (pc := 29) (tgt := 44) X d_Vol_sure_29 rfl h (fun h => ?_) (fun h => ?_)
      · skip
        refine x_aload_n (pc := 44) X d_Vol_sure_44 0 rfl rfl ?_
        refine x_get (pc := 45) X d_Vol_sure_45 0 rfl fl_Vol_27 rfl ?_
        refine x_iload_n (pc := 48) X d_Vol_sure_48 1 rfl rfl ?_
        refine x_iload_n (pc := 49) X d_Vol_sure_49 2 rfl rfl ?_
        obtain ⟨r22, h23, h⟩ := bnd_e h
        refine x_callV (pc := 50) (As := [.int (zi x1), .int (zi x2)]) (rest := []) (w2 := (w_Vol cI cB a0 a1 a2 a3 a4 a5 a6 a7 a8 a9 a10 a11 a12 a13 a14 a15 a16 a17 a18 a19 a20 a21 a22 a23 a24 a25 a26 a27 a28 a29 a30 a31 a32 a33 a34 a35 a36 a37 ik now nbt nki npl nva nwr nrm nrs nrz kow kbt kki kpl kva kwr krm krs krz r22.2.1 r22.2.2.1 r22.2.2.2.1 r22.2.2.2.2.1 r22.2.2.2.2.2.1 r22.2.2.2.2.2.2.1 r22.2.2.2.2.2.2.2.1 r22.2.2.2.2.2.2.2.2.1 r22.2.2.2.2.2.2.2.2.2 seed smn snu rmn rnu rf)) X d_Vol_sure_50 lk_Vol_261 mv_Mind_crashesThatKeep (c_Mind_crashesThatKeep l D cI cB a31 a1 a2 a3 a4 a5 a6 a7 a8 a9 a10 a21 a22 a23 a24 a25 a26 a27 a28 a29 a30 seed now nbt nki npl nva nwr nrm nrs nrz tow tbt tki tpl tva twr trm trs trz x1 x2 h23) ⟨(Nat.le_of_ble_eq_true rfl), (Nat.le_of_ble_eq_true rfl), (Nat.le_of_ble_eq_true rfl), (Nat.le_of_ble_eq_true rfl)⟩ 31 rfl rfl [31, 1, 2, 3, 4, 5, 6, 7, 8, 9, 10, 21, 22, 23, 24, 25, 26, 27, 28, 29, 30] rfl rfl rfl (Up.of [0, 11, 12, 13, 14, 15, 16, 17, 18, 19, 20, 32, 33, 34, 35, 36, 37] [(a0, .inr (5, [.ref a1, .ref a11, .ref a21, .ref a31, .ref a32, .ref a35, .ref a37, .int (zi ik)])), (a11, .inr (0, [.ref a12, .ref a13, .ref a14, .ref a15, .ref a16, .ref a17, .ref a18])), (a12, zA cI 64 kow), (a13, zA cI 64 kbt), (a14, zA cI 4 kki), (a15, zA cI 96 kpl), (a16, zA cI 96 kva), (a17, zA cB 96 kwr), (a18, .inr (3, [.ref a19, .ref a20, .int (zi krm)])), (a19, zA cI 32 krs), (a20, zA cI 32 krz), (a32, .inr (4, [.ref a33])), (a33, .inr (2, [.ref a34, .int (zi smn)])), (a34, zA cI 96 snu), (a35, .inr (2, [.ref a36, .int (zi rmn)])), (a36, zA cI 32 rnu), (a37, zA cI 7 rf)] rfl rfl rfl 38 rfl (by decide +kernel)) rfl rfl (Nat.le_of_ble_eq_true rfl) ?_
        refine x_aload_n (pc := 53) X d_Vol_sure_53 0 rfl rfl ?_
        refine x_get (pc := 54) X d_Vol_sure_54 0 rfl fl_Vol_27 rfl ?_
        refine x_iload_n (pc := 57) X d_Vol_sure_57 1 rfl rfl ?_
        obtain ⟨r24, h25, h⟩ := bnd_e h
        refine x_callV (pc := 58) (As := [.int (zi x1)]) (rest := [.int (zi r22.1)]) (w2 := (w_Vol cI cB a0 a1 a2 a3 a4 a5 a6 a7 a8 a9 a10 a11 a12 a13 a14 a15 a16 a17 a18 a19 a20 a21 a22 a23 a24 a25 a26 a27 a28 a29 a30 a31 a32 a33 a34 a35 a36 a37 ik now nbt nki npl nva nwr nrm nrs nrz kow kbt kki kpl kva kwr krm krs krz r24.2.1 r24.2.2.1 r24.2.2.2.1 r24.2.2.2.2.1 r24.2.2.2.2.2.1 r24.2.2.2.2.2.2.1 r24.2.2.2.2.2.2.2.1 r24.2.2.2.2.2.2.2.2.1 r24.2.2.2.2.2.2.2.2.2 seed smn snu rmn rnu rf)) X d_Vol_sure_58 lk_Vol_212 mv_Mind_stepsOf (c_Mind_stepsOf l D cI cB a31 a1 a2 a3 a4 a5 a6 a7 a8 a9 a10 a21 a22 a23 a24 a25 a26 a27 a28 a29 a30 seed now nbt nki npl nva nwr nrm nrs nrz r22.2.1 r22.2.2.1 r22.2.2.2.1 r22.2.2.2.2.1 r22.2.2.2.2.2.1 r22.2.2.2.2.2.2.1 r22.2.2.2.2.2.2.2.1 r22.2.2.2.2.2.2.2.2.1 r22.2.2.2.2.2.2.2.2.2 x1 h25) ⟨(Nat.le_of_ble_eq_true rfl), (Nat.le_of_ble_eq_true rfl), (Nat.le_of_ble_eq_true rfl), (Nat.le_of_ble_eq_true rfl)⟩ 31 rfl rfl [31, 1, 2, 3, 4, 5, 6, 7, 8, 9, 10, 21, 22, 23, 24, 25, 26, 27, 28, 29, 30] rfl rfl rfl (Up.of [0, 11, 12, 13, 14, 15, 16, 17, 18, 19, 20, 32, 33, 34, 35, 36, 37] [(a0, .inr (5, [.ref a1, .ref a11, .ref a21, .ref a31, .ref a32, .ref a35, .ref a37, .int (zi ik)])), (a11, .inr (0, [.ref a12, .ref a13, .ref a14, .ref a15, .ref a16, .ref a17, .ref a18])), (a12, zA cI 64 kow), (a13, zA cI 64 kbt), (a14, zA cI 4 kki), (a15, zA cI 96 kpl), (a16, zA cI 96 kva), (a17, zA cB 96 kwr), (a18, .inr (3, [.ref a19, .ref a20, .int (zi krm)])), (a19, zA cI 32 krs), (a20, zA cI 32 krz), (a32, .inr (4, [.ref a33])), (a33, .inr (2, [.ref a34, .int (zi smn)])), (a34, zA cI 96 snu), (a35, .inr (2, [.ref a36, .int (zi rmn)])), (a36, zA cI 32 rnu), (a37, zA cI 7 rf)] rfl rfl rfl 38 rfl (by decide +kernel)) rfl rfl (Nat.le_of_ble_eq_true rfl) ?_
        refine x_iconst (pc := 61) X d_Vol_sure_61  ?_
        refine x_iadd (pc := 62) X d_Vol_sure_62  ?_
        refine x_iload_n (pc := 63) X d_Vol_sure_63 3 rfl rfl ?_
        obtain ⟨r26, h27, h⟩ := bnd_e h
        refine x_callS (pc := 64) (As := [.int (zi r22.1), .int (zi (r24.1 + 1)), .int (zi x3)]) (rest := []) (w2 := (w_Vol cI cB a0 a1 a2 a3 a4 a5 a6 a7 a8 a9 a10 a11 a12 a13 a14 a15 a16 a17 a18 a19 a20 a21 a22 a23 a24 a25 a26 a27 a28 a29 a30 a31 a32 a33 a34 a35 a36 a37 ik now nbt nki npl nva nwr nrm nrs nrz kow kbt kki kpl kva kwr krm krs krz r24.2.1 r24.2.2.1 r24.2.2.2.1 r24.2.2.2.2.1 r24.2.2.2.2.2.1 r24.2.2.2.2.2.2.1 r24.2.2.2.2.2.2.2.1 r24.2.2.2.2.2.2.2.2.1 r24.2.2.2.2.2.2.2.2.2 seed smn snu rmn rnu rf)) X d_Vol_sure_64 lk_Vol_257 mv_Vol_partOf (c_Vol_partOf l D cI cB r22.1 (r24.1 + 1) x3 h27) ⟨(Nat.le_of_ble_eq_true rfl), (Nat.le_of_ble_eq_true rfl), (Nat.le_of_ble_eq_true rfl), (Nat.le_of_ble_eq_true rfl)⟩ [] rfl rfl rfl (Up.same rfl) rfl rfl (Nat.le_of_ble_eq_true rfl) ?_
        cases h
        exact x_lret (pc := 67) X hR d_Vol_sure_67
      · skip
        refine x_ldc2 (pc := 32) X d_Vol_sure_32 cw_Vol_252 cg_Vol_252 ?_
        refine x_aload_n (pc := 35) X d_Vol_sure_35 0 rfl rfl ?_
        refine x_bipush (pc := 36) (v := -2) X d_Vol_sure_36 rfl ?_
        obtain ⟨r28, h29, h⟩ := bnd_e h
        refine x_callV (pc := 38) (As := [.int (zi (-2))]) (rest := [.long (zl 4000000000000000000)]) (w2 := (w_Vol cI cB a0 a1 a2 a3 a4 a5 a6 a7 a8 a9 a10 a11 a12 a13 a14 a15 a16 a17 a18 a19 a20 a21 a22 a23 a24 a25 a26 a27 a28 a29 a30 a31 a32 a33 a34 a35 a36 a37 ik now nbt nki npl nva nwr nrm nrs nrz kow kbt kki kpl kva kwr krm krs krz tow tbt tki tpl tva twr trm trs trz seed smn snu rmn rnu r28.2)) X d_Vol_sure_38 lk_Vol_55 mv_Vol_refuse (c_Vol_refuse l D cI cB a0 a1 a2 a3 a4 a5 a6 a7 a8 a9 a10 a11 a12 a13 a14 a15 a16 a17 a18 a19 a20 a21 a22 a23 a24 a25 a26 a27 a28 a29 a30 a31 a32 a33 a34 a35 a36 a37 ik now nbt nki npl nva nwr nrm nrs nrz kow kbt kki kpl kva kwr krm krs krz tow tbt tki tpl tva twr trm trs trz seed smn snu rmn rnu rf (-2) h29) ⟨(Nat.le_of_ble_eq_true rfl), (Nat.le_of_ble_eq_true rfl), (Nat.le_of_ble_eq_true rfl), (Nat.le_of_ble_eq_true rfl)⟩ 0 rfl rfl [0, 1, 2, 3, 4, 5, 6, 7, 8, 9, 10, 11, 12, 13, 14, 15, 16, 17, 18, 19, 20, 21, 22, 23, 24, 25, 26, 27, 28, 29, 30, 31, 32, 33, 34, 35, 36, 37] rfl rfl rfl (Up.of [] [] rfl rfl rfl 38 rfl (by decide +kernel)) rfl rfl (Nat.le_of_ble_eq_true rfl) ?_
        refine x_i2l (pc := 41) X d_Vol_sure_41 h (fun h => ?_)
        refine x_lsub (pc := 42) X d_Vol_sure_42  ?_
        cases h
        exact x_lret (pc := 43) X hR d_Vol_sure_43
    · skip
      refine x_ls (ls2 := [(0, .ref a0)]) [0] rfl ?_
      exact J17 tow tbt tki tpl tva twr trm trs trz rf h
theorem d_Vol_mean_0 : decode b_Vol_mean 0 = .ok (.iload_n 1, 1) := by decide +kernel
theorem d_Vol_mean_1 : decode b_Vol_mean 1 = .ok (.invokestatic 153, 3) := by decide +kernel
theorem d_Vol_mean_4 : decode b_Vol_mean 4 = .ok (.ifCond .ne 15, 3) := by decide +kernel
theorem d_Vol_mean_7 : decode b_Vol_mean 7 = .ok (.ldc2_w 252, 3) := by decide +kernel
theorem d_Vol_mean_10 : decode b_Vol_mean 10 = .ok (.aload_n 0, 1) := by decide +kernel
theorem d_Vol_mean_11 : decode b_Vol_mean 11 = .ok (.bipush (-2), 2) := by decide +kernel
theorem d_Vol_mean_13 : decode b_Vol_mean 13 = .ok (.invokevirtual 55, 3) := by decide +kernel
theorem d_Vol_mean_16 : decode b_Vol_mean 16 = .ok (.i2l, 1) := by decide +kernel
theorem d_Vol_mean_17 : decode b_Vol_mean 17 = .ok (.lsub, 1) := by decide +kernel
theorem d_Vol_mean_18 : decode b_Vol_mean 18 = .ok (.lreturn, 1) := by decide +kernel
theorem d_Vol_mean_19 : decode b_Vol_mean 19 = .ok (.bipush 64, 2) := by decide +kernel
theorem d_Vol_mean_21 : decode b_Vol_mean 21 = .ok (.aload_n 0, 1) := by decide +kernel
theorem d_Vol_mean_22 : decode b_Vol_mean 22 = .ok (.getfield 10, 3) := by decide +kernel
theorem d_Vol_mean_25 : decode b_Vol_mean 25 = .ok (.invokevirtual 264, 3) := by decide +kernel
theorem d_Vol_mean_28 : decode b_Vol_mean 28 = .ok (.isub, 1) := by decide +kernel
theorem d_Vol_mean_29 : decode b_Vol_mean 29 = .ok (.aload_n 0, 1) := by decide +kernel
theorem d_Vol_mean_30 : decode b_Vol_mean 30 = .ok (.getfield 10, 3) := by decide +kernel
theorem d_Vol_mean_33 : decode b_Vol_mean 33 = .ok (.invokevirtual 267, 3) := by decide +kernel
theorem d_Vol_mean_36 : decode b_Vol_mean 36 = .ok (.iload_n 1, 1) := by decide +kernel
theorem d_Vol_mean_37 : decode b_Vol_mean 37 = .ok (.invokestatic 257, 3) := by decide +kernel
theorem d_Vol_mean_40 : decode b_Vol_mean 40 = .ok (.lreturn, 1) := by decide +kernel
def m_Vol_mean (x1 : Int) (now : Int → Int) (npl : Int → Int) (nwr : Int → Int) (rf : Int → Int) : Option (Int × (Int → Int)) :=
  bnd (m_Vol_isEither x1) (fun r1 => ceq r1 0 (bnd (m_Vol_refuse (-2) rf) (fun r9 => gd (zr r9.1) (some ((4000000000000000000 - r9.1), r9.2)))) (bnd (m_Disk_freeBlocks now) (fun r3 => bnd (m_Disk_extentsInAll npl nwr) (fun r5 => bnd (m_Vol_partOf (64 - r3) r5 x1) (fun r7 => some (r7, rf))))))
set_option maxHeartbeats 4000000 in
set_option maxRecDepth 100000 in
theorem c_Vol_mean (l : Launch) (D : va_G) (cI cB : ClassId) (a0 a1 a2 a3 a4 a5 a6 a7 a8 a9 a10 a11 a12 a13 a14 a15 a16 a17 a18 a19 a20 a21 a22 a23 a24 a25 a26 a27 a28 a29 a30 a31 a32 a33 a34 a35 a36 a37 : Nat) (ik : Int) (now : Int → Int) (nbt : Int → Int) (nki : Int → Int) (npl : Int → Int) (nva : Int → Int) (nwr : Int → Int) (nrm : Int) (nrs : Int → Int) (nrz : Int → Int) (kow : Int → Int) (kbt : Int → Int) (kki : Int → Int) (kpl : Int → Int) (kva : Int → Int) (kwr : Int → Int) (krm : Int) (krs : Int → Int) (krz : Int → Int) (tow : Int → Int) (tbt : Int → Int) (tki : Int → Int) (tpl : Int → Int) (tva : Int → Int) (twr : Int → Int) (trm : Int) (trs : Int → Int) (trz : Int → Int) (seed : Int) (smn : Int) (snu : Int → Int) (rmn : Int) (rnu : Int → Int) (rf : Int → Int) (x1 : Int) {o : Int × (Int → Int)} (h : m_Vol_mean x1 now npl nwr rf = some o) : Ct l D cI cB y_Vol_mean b_Vol_mean 2 (some .long) { frames := 4, cells := 0, slots := 0, locals := 91 } [.ref a0, .int (zi x1)] (w_Vol cI cB a0 a1 a2 a3 a4 a5 a6 a7 a8 a9 a10 a11 a12 a13 a14 a15 a16 a17 a18 a19 a20 a21 a22 a23 a24 a25 a26 a27 a28 a29 a30 a31 a32 a33 a34 a35 a36 a37 ik now nbt nki npl nva nwr nrm nrs nrz kow kbt kki kpl kva kwr krm krs krz tow tbt tki tpl tva twr trm trs trz seed smn snu rmn rnu rf) (w_Vol cI cB a0 a1 a2 a3 a4 a5 a6 a7 a8 a9 a10 a11 a12 a13 a14 a15 a16 a17 a18 a19 a20 a21 a22 a23 a24 a25 a26 a27 a28 a29 a30 a31 a32 a33 a34 a35 a36 a37 ik now nbt nki npl nva nwr nrm nrs nrz kow kbt kki kpl kva kwr krm krs krz tow tbt tki tpl tva twr trm trs trz seed smn snu rmn rnu o.2) (some (.long (zl o.1))) := by
  refine Ct.start (by decide) (Nat.le_of_ble_eq_true rfl) (fun G X hR => ?_)
  refine x_ls (ls2 := [(0, .ref a0), (1, .int (zi x1))]) [0, 1] rfl ?_
  unfold m_Vol_mean at h
  refine x_iload_n (pc := 0) X d_Vol_mean_0 1 rfl rfl ?_
  obtain ⟨r1, h2, h⟩ := bnd_e h
  refine x_callS (pc := 1) (As := [.int (zi x1)]) (rest := []) (w2 := (w_Vol cI cB a0 a1 a2 a3 a4 a5 a6 a7 a8 a9 a10 a11 a12 a13 a14 a15 a16 a17 a18 a19 a20 a21 a22 a23 a24 a25 a26 a27 a28 a29 a30 a31 a32 a33 a34 a35 a36 a37 ik now nbt nki npl nva nwr nrm nrs nrz kow kbt kki kpl kva kwr krm krs krz tow tbt tki tpl tva twr trm trs trz seed smn snu rmn rnu rf)) X d_Vol_mean_1 lk_Vol_153 mv_Vol_isEither (c_Vol_isEither l D cI cB x1 h2) ⟨(Nat.le_of_ble_eq_true rfl), (Nat.le_of_ble_eq_true rfl), (Nat.le_of_ble_eq_true rfl), (Nat.le_of_ble_eq_true rfl)⟩ [] rfl rfl rfl (Up.same rfl) rfl rfl (Nat.le_of_ble_eq_true rfl) ?_
  refine x_ifne (pc := 4) (tgt := 19) X d_Vol_mean_4 rfl h (fun h => ?_) (fun h => ?_)
  · skip
    refine x_bipush (pc := 19) (v := 64) X d_Vol_mean_19 rfl ?_
    refine x_aload_n (pc := 21) X d_Vol_mean_21 0 rfl rfl ?_
    refine x_get (pc := 22) X d_Vol_mean_22 0 rfl fl_Vol_10 rfl ?_
    obtain ⟨r3, h4, h⟩ := bnd_e h
    refine x_callV (pc := 25) (As := []) (rest := [.int (zi 64)]) (w2 := (w_Vol cI cB a0 a1 a2 a3 a4 a5 a6 a7 a8 a9 a10 a11 a12 a13 a14 a15 a16 a17 a18 a19 a20 a21 a22 a23 a24 a25 a26 a27 a28 a29 a30 a31 a32 a33 a34 a35 a36 a37 ik now nbt nki npl nva nwr nrm nrs nrz kow kbt kki kpl kva kwr krm krs krz tow tbt tki tpl tva twr trm trs trz seed smn snu rmn rnu rf)) X d_Vol_mean_25 lk_Vol_264 mv_Disk_freeBlocks (c_Disk_freeBlocks l D cI cB a1 a2 a3 a4 a5 a6 a7 a8 a9 a10 now nbt nki npl nva nwr nrm nrs nrz h4) ⟨(Nat.le_of_ble_eq_true rfl), (Nat.le_of_ble_eq_true rfl), (Nat.le_of_ble_eq_true rfl), (Nat.le_of_ble_eq_true rfl)⟩ 1 rfl rfl [1, 2, 3, 4, 5, 6, 7, 8, 9, 10] rfl rfl rfl (Up.same rfl) rfl rfl (Nat.le_of_ble_eq_true rfl) ?_
    refine x_isub (pc := 28) X d_Vol_mean_28  ?_
    refine x_aload_n (pc := 29) X d_Vol_mean_29 0 rfl rfl ?_
    refine x_get (pc := 30) X d_Vol_mean_30 0 rfl fl_Vol_10 rfl ?_
    obtain ⟨r5, h6, h⟩ := bnd_e h
    refine x_callV (pc := 33) (As := []) (rest := [.int (zi (64 - r3))]) (w2 := (w_Vol cI cB a0 a1 a2 a3 a4 a5 a6 a7 a8 a9 a10 a11 a12 a13 a14 a15 a16 a17 a18 a19 a20 a21 a22 a23 a24 a25 a26 a27 a28 a29 a30 a31 a32 a33 a34 a35 a36 a37 ik now nbt nki npl nva nwr nrm nrs nrz kow kbt kki kpl kva kwr krm krs krz tow tbt tki tpl tva twr trm trs trz seed smn snu rmn rnu rf)) X d_Vol_mean_33 lk_Vol_267 mv_Disk_extentsInAll (c_Disk_extentsInAll l D cI cB a1 a2 a3 a4 a5 a6 a7 a8 a9 a10 now nbt nki npl nva nwr nrm nrs nrz h6) ⟨(Nat.le_of_ble_eq_true rfl), (Nat.le_of_ble_eq_true rfl), (Nat.le_of_ble_eq_true rfl), (Nat.le_of_ble_eq_true rfl)⟩ 1 rfl rfl [1, 2, 3, 4, 5, 6, 7, 8, 9, 10] rfl rfl rfl (Up.same rfl) rfl rfl (Nat.le_of_ble_eq_true rfl) ?_
    refine x_iload_n (pc := 36) X d_Vol_mean_36 1 rfl rfl ?_
    obtain ⟨r7, h8, h⟩ := bnd_e h
    refine x_callS (pc := 37) (As := [.int (zi (64 - r3)), .int (zi r5), .int (zi x1)]) (rest := []) (w2 := (w_Vol cI cB a0 a1 a2 a3 a4 a5 a6 a7 a8 a9 a10 a11 a12 a13 a14 a15 a16 a17 a18 a19 a20 a21 a22 a23 a24 a25 a26 a27 a28 a29 a30 a31 a32 a33 a34 a35 a36 a37 ik now nbt nki npl nva nwr nrm nrs nrz kow kbt kki kpl kva kwr krm krs krz tow tbt tki tpl tva twr trm trs trz seed smn snu rmn rnu rf)) X d_Vol_mean_37 lk_Vol_257 mv_Vol_partOf (c_Vol_partOf l D cI cB (64 - r3) r5 x1 h8) ⟨(Nat.le_of_ble_eq_true rfl), (Nat.le_of_ble_eq_true rfl), (Nat.le_of_ble_eq_true rfl), (Nat.le_of_ble_eq_true rfl)⟩ [] rfl rfl rfl (Up.same rfl) rfl rfl (Nat.le_of_ble_eq_true rfl) ?_
    cases h
    exact x_lret (pc := 40) X hR d_Vol_mean_40
  · skip
    refine x_ldc2 (pc := 7) X d_Vol_mean_7 cw_Vol_252 cg_Vol_252 ?_
    refine x_aload_n (pc := 10) X d_Vol_mean_10 0 rfl rfl ?_
    refine x_bipush (pc := 11) (v := -2) X d_Vol_mean_11 rfl ?_
    obtain ⟨r9, h10, h⟩ := bnd_e h
    refine x_callV (pc := 13) (As := [.int (zi (-2))]) (rest := [.long (zl 4000000000000000000)]) (w2 := (w_Vol cI cB a0 a1 a2 a3 a4 a5 a6 a7 a8 a9 a10 a11 a12 a13 a14 a15 a16 a17 a18 a19 a20 a21 a22 a23 a24 a25 a26 a27 a28 a29 a30 a31 a32 a33 a34 a35 a36 a37 ik now nbt nki npl nva nwr nrm nrs nrz kow kbt kki kpl kva kwr krm krs krz tow tbt tki tpl tva twr trm trs trz seed smn snu rmn rnu r9.2)) X d_Vol_mean_13 lk_Vol_55 mv_Vol_refuse (c_Vol_refuse l D cI cB a0 a1 a2 a3 a4 a5 a6 a7 a8 a9 a10 a11 a12 a13 a14 a15 a16 a17 a18 a19 a20 a21 a22 a23 a24 a25 a26 a27 a28 a29 a30 a31 a32 a33 a34 a35 a36 a37 ik now nbt nki npl nva nwr nrm nrs nrz kow kbt kki kpl kva kwr krm krs krz tow tbt tki tpl tva twr trm trs trz seed smn snu rmn rnu rf (-2) h10) ⟨(Nat.le_of_ble_eq_true rfl), (Nat.le_of_ble_eq_true rfl), (Nat.le_of_ble_eq_true rfl), (Nat.le_of_ble_eq_true rfl)⟩ 0 rfl rfl [0, 1, 2, 3, 4, 5, 6, 7, 8, 9, 10, 11, 12, 13, 14, 15, 16, 17, 18, 19, 20, 21, 22, 23, 24, 25, 26, 27, 28, 29, 30, 31, 32, 33, 34, 35, 36, 37] rfl rfl rfl (Up.of [] [] rfl rfl rfl 38 rfl (by decide +kernel)) rfl rfl (Nat.le_of_ble_eq_true rfl) ?_
    refine x_i2l (pc := 16) X d_Vol_mean_16 h (fun h => ?_)
    refine x_lsub (pc := 17) X d_Vol_mean_17  ?_
    cases h
    exact x_lret (pc := 18) X hR d_Vol_mean_18
theorem d_Vol_which_0 : decode b_Vol_which 0 = .ok (.iload_n 1, 1) := by decide +kernel
theorem d_Vol_which_1 : decode b_Vol_which 1 = .ok (.invokestatic 84, 3) := by decide +kernel
theorem d_Vol_which_4 : decode b_Vol_which 4 = .ok (.ifCond .ne 9, 3) := by decide +kernel
theorem d_Vol_which_7 : decode b_Vol_which 7 = .ok (.aload_n 0, 1) := by decide +kernel
theorem d_Vol_which_8 : decode b_Vol_which 8 = .ok (.iconst (-1), 1) := by decide +kernel
theorem d_Vol_which_9 : decode b_Vol_which 9 = .ok (.invokevirtual 55, 3) := by decide +kernel
theorem d_Vol_which_12 : decode b_Vol_which 12 = .ok (.ireturn, 1) := by decide +kernel
theorem d_Vol_which_13 : decode b_Vol_which 13 = .ok (.aload_n 0, 1) := by decide +kernel
theorem d_Vol_which_14 : decode b_Vol_which 14 = .ok (.getfield 43, 3) := by decide +kernel
theorem d_Vol_which_17 : decode b_Vol_which 17 = .ok (.getfield 270, 3) := by decide +kernel
theorem d_Vol_which_20 : decode b_Vol_which 20 = .ok (.aload_n 0, 1) := by decide +kernel
theorem d_Vol_which_21 : decode b_Vol_which 21 = .ok (.getfield 10, 3) := by decide +kernel
theorem d_Vol_which_24 : decode b_Vol_which 24 = .ok (.iload_n 1, 1) := by decide +kernel
theorem d_Vol_which_25 : decode b_Vol_which 25 = .ok (.invokevirtual 114, 3) := by decide +kernel
theorem d_Vol_which_28 : decode b_Vol_which 28 = .ok (.if_icmp .le 10, 3) := by decide +kernel
theorem d_Vol_which_31 : decode b_Vol_which 31 = .ok (.aload_n 0, 1) := by decide +kernel
theorem d_Vol_which_32 : decode b_Vol_which 32 = .ok (.bipush (-3), 2) := by decide +kernel
theorem d_Vol_which_34 : decode b_Vol_which 34 = .ok (.invokevirtual 55, 3) := by decide +kernel
theorem d_Vol_which_37 : decode b_Vol_which 37 = .ok (.ireturn, 1) := by decide +kernel
theorem d_Vol_which_38 : decode b_Vol_which 38 = .ok (.iconst 0, 1) := by decide +kernel
theorem d_Vol_which_39 : decode b_Vol_which 39 = .ok (.istore_n 2, 1) := by decide +kernel
theorem d_Vol_which_40 : decode b_Vol_which 40 = .ok (.iconst 0, 1) := by decide +kernel
theorem d_Vol_which_41 : decode b_Vol_which 41 = .ok (.istore_n 3, 1) := by decide +kernel
theorem d_Vol_which_42 : decode b_Vol_which 42 = .ok (.iload_n 3, 1) := by decide +kernel
theorem d_Vol_which_43 : decode b_Vol_which 43 = .ok (.bipush 6, 2) := by decide +kernel
theorem d_Vol_which_45 : decode b_Vol_which 45 = .ok (.if_icmp .ge 31, 3) := by decide +kernel
theorem d_Vol_which_48 : decode b_Vol_which 48 = .ok (.aload_n 0, 1) := by decide +kernel
theorem d_Vol_which_49 : decode b_Vol_which 49 = .ok (.getfield 27, 3) := by decide +kernel
theorem d_Vol_which_52 : decode b_Vol_which 52 = .ok (.iload_n 1, 1) := by decide +kernel
theorem d_Vol_which_53 : decode b_Vol_which 53 = .ok (.iload_n 3, 1) := by decide +kernel
theorem d_Vol_which_54 : decode b_Vol_which 54 = .ok (.aload_n 0, 1) := by decide +kernel
theorem d_Vol_which_55 : decode b_Vol_which 55 = .ok (.getfield 43, 3) := by decide +kernel
theorem d_Vol_which_58 : decode b_Vol_which 58 = .ok (.invokevirtual 271, 3) := by decide +kernel
theorem d_Vol_which_61 : decode b_Vol_which 61 = .ok (.ifCond .eq 9, 3) := by decide +kernel
theorem d_Vol_which_64 : decode b_Vol_which 64 = .ok (.iload_n 2, 1) := by decide +kernel
theorem d_Vol_which_65 : decode b_Vol_which 65 = .ok (.iconst 1, 1) := by decide +kernel
theorem d_Vol_which_66 : decode b_Vol_which 66 = .ok (.iload_n 3, 1) := by decide +kernel
theorem d_Vol_which_67 : decode b_Vol_which 67 = .ok (.ishl, 1) := by decide +kernel
theorem d_Vol_which_68 : decode b_Vol_which 68 = .ok (.ior, 1) := by decide +kernel
theorem d_Vol_which_69 : decode b_Vol_which 69 = .ok (.istore_n 2, 1) := by decide +kernel
theorem d_Vol_which_70 : decode b_Vol_which 70 = .ok (.iinc 3 1, 3) := by decide +kernel
theorem d_Vol_which_73 : decode b_Vol_which 73 = .ok (.goto (-31), 3) := by decide +kernel
theorem d_Vol_which_76 : decode b_Vol_which 76 = .ok (.iload_n 2, 1) := by decide +kernel
theorem d_Vol_which_77 : decode b_Vol_which 77 = .ok (.ireturn, 1) := by decide +kernel
def m_Vol_which_42 : Nat → Int → Int → Int → (Int → Int) → (Int → Int) → (Int → Int) → (Int → Int) → (Int → Int) → (Int → Int) → (Int → Int) → (Int → Int) → (Int → Int) → (Int → Int) → (Int → Int) → (Int → Int) → Int → (Int → Int) → (Int → Int) → Int → (Int → Int) → (Int → Int) → Option (Int × (Int → Int) × (Int → Int) × (Int → Int) × (Int → Int) × (Int → Int) × (Int → Int) × Int × (Int → Int) × (Int → Int) × (Int → Int))
  | 0, _, _, _, _, _, _, _, _, _, _, _, _, _, _, _, _, _, _, _, _, _ => none
  | fuel + 1, v1, v2, v3, now, nbt, nki, npl, nva, nwr, tow, tbt, tki, tpl, tva, twr, trm, trs, trz, rmn, rnu, rf =>
  clt v3 6 (bnd (m_Mind_comesAsTold v1 v3 now nbt nki npl nva nwr tow tbt tki tpl tva twr trm trs trz rmn rnu) (fun r5 => ceq r5.1 0 (m_Vol_which_42 fuel v1 v2 (v3 + 1) now nbt nki npl nva nwr r5.2.1 r5.2.2.1 r5.2.2.2.1 r5.2.2.2.2.1 r5.2.2.2.2.2.1 r5.2.2.2.2.2.2.1 r5.2.2.2.2.2.2.2.1 r5.2.2.2.2.2.2.2.2.1 r5.2.2.2.2.2.2.2.2.2 rmn rnu rf) (m_Vol_which_42 fuel v1 (z_or v2 (z_shl 1 v3)) (v3 + 1) now nbt nki npl nva nwr r5.2.1 r5.2.2.1 r5.2.2.2.1 r5.2.2.2.2.1 r5.2.2.2.2.2.1 r5.2.2.2.2.2.2.1 r5.2.2.2.2.2.2.2.1 r5.2.2.2.2.2.2.2.2.1 r5.2.2.2.2.2.2.2.2.2 rmn rnu rf))) (some (v2, tow, tbt, tki, tpl, tva, twr, trm, trs, trz, rf))
def m_Vol_which (x1 : Int) (now : Int → Int) (nbt : Int → Int) (nki : Int → Int) (npl : Int → Int) (nva : Int → Int) (nwr : Int → Int) (tow : Int → Int) (tbt : Int → Int) (tki : Int → Int) (tpl : Int → Int) (tva : Int → Int) (twr : Int → Int) (trm : Int) (trs : Int → Int) (trz : Int → Int) (rmn : Int) (rnu : Int → Int) (rf : Int → Int) : Option (Int × (Int → Int) × (Int → Int) × (Int → Int) × (Int → Int) × (Int → Int) × (Int → Int) × Int × (Int → Int) × (Int → Int) × (Int → Int)) :=
  bnd (m_Vol_isFile x1) (fun r1 => ceq r1 0 (bnd (m_Vol_refuse (-1) rf) (fun r9 => some (r9.1, tow, tbt, tki, tpl, tva, twr, trm, trs, trz, r9.2))) (bnd (m_Disk_promisedIn x1 npl nva) (fun r3 => cle rmn r3 (m_Vol_which_42 5000 x1 0 0 now nbt nki npl nva nwr tow tbt tki tpl tva twr trm trs trz rmn rnu rf) (bnd (m_Vol_refuse (-3) rf) (fun r7 => some (r7.1, tow, tbt, tki, tpl, tva, twr, trm, trs, trz, r7.2))))))
set_option maxHeartbeats 4000000 in
set_option maxRecDepth 100000 in
theorem l_Vol_which_42 {G : GT} {l : Launch} {D : va_G} {cI cB : ClassId} {a0 a1 a2 a3 a4 a5 a6 a7 a8 a9 a10 a11 a12 a13 a14 a15 a16 a17 a18 a19 a20 a21 a22 a23 a24 a25 a26 a27 a28 a29 a30 a31 a32 a33 a34 a35 a36 a37 : Nat} {ik : Int} {nrm : Int} {nrs : Int → Int} {nrz : Int → Int} {kow : Int → Int} {kbt : Int → Int} {kki : Int → Int} {kpl : Int → Int} {kva : Int → Int} {kwr : Int → Int} {krm : Int} {krs : Int → Int} {krz : Int → Int} {seed : Int} {smn : Int} {snu : Int → Int} (X : Cx G l D cI cB b_Vol_which y_Vol_which.cls 4 { frames := 6, cells := 0, slots := 0, locals := 150 }) : ∀ (fuel : Nat) (v1 : Int) (v2 : Int) (v3 : Int) (now : Int → Int) (nbt : Int → Int) (nki : Int → Int) (npl : Int → Int) (nva : Int → Int) (nwr : Int → Int) (tow : Int → Int) (tbt : Int → Int) (tki : Int → Int) (tpl : Int → Int) (tva : Int → Int) (twr : Int → Int) (trm : Int) (trs : Int → Int) (trz : Int → Int) (rmn : Int) (rnu : Int → Int) (rf : Int → Int) (o : Int × (Int → Int) × (Int → Int) × (Int → Int) × (Int → Int) × (Int → Int) × (Int → Int) × Int × (Int → Int) × (Int → Int) × (Int → Int)), m_Vol_which_42 fuel v1 v2 v3 now nbt nki npl nva nwr tow tbt tki tpl tva twr trm trs trz rmn rnu rf = some o → Rt G (some .int) (some (.int (zi o.1))) (w_Vol cI cB a0 a1 a2 a3 a4 a5 a6 a7 a8 a9 a10 a11 a12 a13 a14 a15 a16 a17 a18 a19 a20 a21 a22 a23 a24 a25 a26 a27 a28 a29 a30 a31 a32 a33 a34 a35 a36 a37 ik now nbt nki npl nva nwr nrm nrs nrz kow kbt kki kpl kva kwr krm krs krz o.2.1 o.2.2.1 o.2.2.2.1 o.2.2.2.2.1 o.2.2.2.2.2.1 o.2.2.2.2.2.2.1 o.2.2.2.2.2.2.2.1 o.2.2.2.2.2.2.2.2.1 o.2.2.2.2.2.2.2.2.2.1 seed smn snu rmn rnu o.2.2.2.2.2.2.2.2.2.2) → Wx G 0 0 42 [(0, .ref a0), (1, .int (zi v1)), (2, .int (zi v2)), (3, .int (zi v3))] [] (w_Vol cI cB a0 a1 a2 a3 a4 a5 a6 a7 a8 a9 a10 a11 a12 a13 a14 a15 a16 a17 a18 a19 a20 a21 a22 a23 a24 a25 a26 a27 a28 a29 a30 a31 a32 a33 a34 a35 a36 a37 ik now nbt nki npl nva nwr nrm nrs nrz kow kbt kki kpl kva kwr krm krs krz tow tbt tki tpl tva twr trm trs trz seed smn snu rmn rnu rf) := by
  intro fuel
  induction fuel with
  | zero =>
    intro v1 v2 v3 now nbt nki npl nva nwr tow tbt tki tpl tva twr trm trs trz rmn rnu rf o h
    exact absurd h (by simp [m_Vol_which_42])
  | succ fuel ih =>
    intro v1 v2 v3 now nbt nki npl nva nwr tow tbt tki tpl tva twr trm trs trz rmn rnu rf o h hR
    rw [m_Vol_which_42] at h
    refine x_iload_n (pc := 42) X d_Vol_which_42 3 rfl rfl ?_
    refine x_bipush (pc := 43) (v := 6) X d_Vol_which_43 rfl ?_
    refine x_icmpge (pc := 45) (tgt := 76) X d_Vol_which_45 rfl h (fun h => ?_) (fun h => ?_)
    · skip
      refine x_iload_n (pc := 76) X d_Vol_which_76 2 rfl rfl ?_
      cases h
      exact x_iret (pc := 77) X hR d_Vol_which_77
    · skip
      refine x_aload_n (pc := 48) X d_Vol_which_48 0 rfl rfl ?_
      refine x_get (pc := 49) X d_Vol_which_49 0 rfl fl_Vol_27 rfl ?_
      refine x_iload_n (pc := 52) X d_Vol_which_52 1 rfl rfl ?_
      refine x_iload_n (pc := 53) X d_Vol_which_53 3 rfl rfl ?_
      refine x_aload_n (pc := 54) X d_Vol_which_54 0 rfl rfl ?_
      refine x_get (pc := 55) X d_Vol_which_55 0 rfl fl_Vol_43 rfl ?_
      obtain ⟨r5, h6, h⟩ := bnd_e h
      refine x_callV (pc := 58) (As := [.int (zi v1), .int (zi v3), .ref a35]) (rest := []) (w2 := (w_Vol cI cB a0 a1 a2 a3 a4 a5 a6 a7 a8 a9 a10 a11 a12 a13 a14 a15 a16 a17 a18 a19 a20 a21 a22 a23 a24 a25 a26 a27 a28 a29 a30 a31 a32 a33 a34 a35 a36 a37 ik now nbt nki npl nva nwr nrm nrs nrz kow kbt kki kpl kva kwr krm krs krz r5.2.1 r5.2.2.1 r5.2.2.2.1 r5.2.2.2.2.1 r5.2.2.2.2.2.1 r5.2.2.2.2.2.2.1 r5.2.2.2.2.2.2.2.1 r5.2.2.2.2.2.2.2.2.1 r5.2.2.2.2.2.2.2.2.2 seed smn snu rmn rnu rf)) X d_Vol_which_58 lk_Vol_271 mv_Mind_comesAsTold (c_Mind_comesAsTold l D cI cB a31 a1 a2 a3 a4 a5 a6 a7 a8 a9 a10 a21 a22 a23 a24 a25 a26 a27 a28 a29 a30 a35 a36 seed now nbt nki npl nva nwr nrm nrs nrz tow tbt tki tpl tva twr trm trs trz rmn rnu v1 v3 h6) ⟨(Nat.le_of_ble_eq_true rfl), (Nat.le_of_ble_eq_true rfl), (Nat.le_of_ble_eq_true rfl), (Nat.le_of_ble_eq_true rfl)⟩ 31 rfl rfl [31, 1, 2, 3, 4, 5, 6, 7, 8, 9, 10, 21, 22, 23, 24, 25, 26, 27, 28, 29, 30, 35, 36] rfl rfl rfl (Up.of [0, 11, 12, 13, 14, 15, 16, 17, 18, 19, 20, 32, 33, 34, 37] [(a0, .inr (5, [.ref a1, .ref a11, .ref a21, .ref a31, .ref a32, .ref a35, .ref a37, .int (zi ik)])), (a11, .inr (0, [.ref a12, .ref a13, .ref a14, .ref a15, .ref a16, .ref a17, .ref a18])), (a12, zA cI 64 kow), (a13, zA cI 64 kbt), (a14, zA cI 4 kki), (a15, zA cI 96 kpl), (a16, zA cI 96 kva), (a17, zA cB 96 kwr), (a18, .inr (3, [.ref a19, .ref a20, .int (zi krm)])), (a19, zA cI 32 krs), (a20, zA cI 32 krz), (a32, .inr (4, [.ref a33])), (a33, .inr (2, [.ref a34, .int (zi smn)])), (a34, zA cI 96 snu), (a37, zA cI 7 rf)] rfl rfl rfl 38 rfl (by decide +kernel)) rfl rfl (Nat.le_of_ble_eq_true rfl) ?_
      refine x_ifeq (pc := 61) (tgt := 70) X d_Vol_which_61 rfl h (fun h => ?_) (fun h => ?_)
      · skip
        refine x_iinc (pc := 70) (ls2 := [(3, .int (zi (v3 + 1))), (0, .ref a0), (1, .int (zi v1)), (2, .int (zi v2))]) X d_Vol_which_70 3 (Nat.le_of_ble_eq_true rfl) rfl rfl ?_
        refine x_goto (pc := 73) (tgt := 42) X d_Vol_which_73 rfl ?_
        refine x_ls (ls2 := [(0, .ref a0), (1, .int (zi v1)), (2, .int (zi v2)), (3, .int (zi (v3 + 1)))]) [1, 2, 3, 0] rfl ?_
        exact ih v1 v2 (v3 + 1) now nbt nki npl nva nwr r5.2.1 r5.2.2.1 r5.2.2.2.1 r5.2.2.2.2.1 r5.2.2.2.2.2.1 r5.2.2.2.2.2.2.1 r5.2.2.2.2.2.2.2.1 r5.2.2.2.2.2.2.2.2.1 r5.2.2.2.2.2.2.2.2.2 rmn rnu rf o h hR
      · skip
        refine x_iload_n (pc := 64) X d_Vol_which_64 2 rfl rfl ?_
        refine x_iconst (pc := 65) X d_Vol_which_65  ?_
        refine x_iload_n (pc := 66) X d_Vol_which_66 3 rfl rfl ?_
        refine x_ishl (pc := 67) X d_Vol_which_67  ?_
        refine x_ior (pc := 68) X d_Vol_which_68  ?_
        refine x_istore_n (pc := 69) (ls2 := [(2, .int (zi (z_or v2 (z_shl 1 v3)))), (0, .ref a0), (1, .int (zi v1)), (3, .int (zi v3))]) X d_Vol_which_69 rfl (Nat.le_of_ble_eq_true rfl) rfl ?_
        refine x_iinc (pc := 70) (ls2 := [(3, .int (zi (v3 + 1))), (2, .int (zi (z_or v2 (z_shl 1 v3)))), (0, .ref a0), (1, .int (zi v1))]) X d_Vol_which_70 3 (Nat.le_of_ble_eq_true rfl) rfl rfl ?_
        refine x_goto (pc := 73) (tgt := 42) X d_Vol_which_73 rfl ?_
        refine x_ls (ls2 := [(0, .ref a0), (1, .int (zi v1)), (2, .int (zi (z_or v2 (z_shl 1 v3)))), (3, .int (zi (v3 + 1)))]) [2, 3, 1, 0] rfl ?_
        exact ih v1 (z_or v2 (z_shl 1 v3)) (v3 + 1) now nbt nki npl nva nwr r5.2.1 r5.2.2.1 r5.2.2.2.1 r5.2.2.2.2.1 r5.2.2.2.2.2.1 r5.2.2.2.2.2.2.1 r5.2.2.2.2.2.2.2.1 r5.2.2.2.2.2.2.2.2.1 r5.2.2.2.2.2.2.2.2.2 rmn rnu rf o h hR
set_option maxHeartbeats 4000000 in
set_option maxRecDepth 100000 in
theorem c_Vol_which (l : Launch) (D : va_G) (cI cB : ClassId) (a0 a1 a2 a3 a4 a5 a6 a7 a8 a9 a10 a11 a12 a13 a14 a15 a16 a17 a18 a19 a20 a21 a22 a23 a24 a25 a26 a27 a28 a29 a30 a31 a32 a33 a34 a35 a36 a37 : Nat) (ik : Int) (now : Int → Int) (nbt : Int → Int) (nki : Int → Int) (npl : Int → Int) (nva : Int → Int) (nwr : Int → Int) (nrm : Int) (nrs : Int → Int) (nrz : Int → Int) (kow : Int → Int) (kbt : Int → Int) (kki : Int → Int) (kpl : Int → Int) (kva : Int → Int) (kwr : Int → Int) (krm : Int) (krs : Int → Int) (krz : Int → Int) (tow : Int → Int) (tbt : Int → Int) (tki : Int → Int) (tpl : Int → Int) (tva : Int → Int) (twr : Int → Int) (trm : Int) (trs : Int → Int) (trz : Int → Int) (seed : Int) (smn : Int) (snu : Int → Int) (rmn : Int) (rnu : Int → Int) (rf : Int → Int) (x1 : Int) {o : Int × (Int → Int) × (Int → Int) × (Int → Int) × (Int → Int) × (Int → Int) × (Int → Int) × Int × (Int → Int) × (Int → Int) × (Int → Int)} (h : m_Vol_which x1 now nbt nki npl nva nwr tow tbt tki tpl tva twr trm trs trz rmn rnu rf = some o) : Ct l D cI cB y_Vol_which b_Vol_which 4 (some .int) { frames := 6, cells := 0, slots := 0, locals := 150 } [.ref a0, .int (zi x1)] (w_Vol cI cB a0 a1 a2 a3 a4 a5 a6 a7 a8 a9 a10 a11 a12 a13 a14 a15 a16 a17 a18 a19 a20 a21 a22 a23 a24 a25 a26 a27 a28 a29 a30 a31 a32 a33 a34 a35 a36 a37 ik now nbt nki npl nva nwr nrm nrs nrz kow kbt kki kpl kva kwr krm krs krz tow tbt tki tpl tva twr trm trs trz seed smn snu rmn rnu rf) (w_Vol cI cB a0 a1 a2 a3 a4 a5 a6 a7 a8 a9 a10 a11 a12 a13 a14 a15 a16 a17 a18 a19 a20 a21 a22 a23 a24 a25 a26 a27 a28 a29 a30 a31 a32 a33 a34 a35 a36 a37 ik now nbt nki npl nva nwr nrm nrs nrz kow kbt kki kpl kva kwr krm krs krz o.2.1 o.2.2.1 o.2.2.2.1 o.2.2.2.2.1 o.2.2.2.2.2.1 o.2.2.2.2.2.2.1 o.2.2.2.2.2.2.2.1 o.2.2.2.2.2.2.2.2.1 o.2.2.2.2.2.2.2.2.2.1 seed smn snu rmn rnu o.2.2.2.2.2.2.2.2.2.2) (some (.int (zi o.1))) := by
  refine Ct.start (by decide) (Nat.le_of_ble_eq_true rfl) (fun G X hR => ?_)
  refine x_ls (ls2 := [(0, .ref a0), (1, .int (zi x1))]) [0, 1] rfl ?_
  unfold m_Vol_which at h
  refine x_iload_n (pc := 0) X d_Vol_which_0 1 rfl rfl ?_
  obtain ⟨r1, h2, h⟩ := bnd_e h
  refine x_callS (pc := 1) (As := [.int (zi x1)]) (rest := []) (w2 := (w_Vol cI cB a0 a1 a2 a3 a4 a5 a6 a7 a8 a9 a10 a11 a12 a13 a14 a15 a16 a17 a18 a19 a20 a21 a22 a23 a24 a25 a26 a27 a28 a29 a30 a31 a32 a33 a34 a35 a36 a37 ik now nbt nki npl nva nwr nrm nrs nrz kow kbt kki kpl kva kwr krm krs krz tow tbt tki tpl tva twr trm trs trz seed smn snu rmn rnu rf)) X d_Vol_which_1 lk_Vol_84 mv_Vol_isFile (c_Vol_isFile l D cI cB x1 h2) ⟨(Nat.le_of_ble_eq_true rfl), (Nat.le_of_ble_eq_true rfl), (Nat.le_of_ble_eq_true rfl), (Nat.le_of_ble_eq_true rfl)⟩ [] rfl rfl rfl (Up.same rfl) rfl rfl (Nat.le_of_ble_eq_true rfl) ?_
  refine x_ifne (pc := 4) (tgt := 13) X d_Vol_which_4 rfl h (fun h => ?_) (fun h => ?_)
  · skip
    refine x_aload_n (pc := 13) X d_Vol_which_13 0 rfl rfl ?_
    refine x_get (pc := 14) X d_Vol_which_14 0 rfl fl_Vol_43 rfl ?_
    refine x_get (pc := 17) X d_Vol_which_17 35 rfl fl_Vol_270 rfl ?_
    refine x_aload_n (pc := 20) X d_Vol_which_20 0 rfl rfl ?_
    refine x_get (pc := 21) X d_Vol_which_21 0 rfl fl_Vol_10 rfl ?_
    refine x_iload_n (pc := 24) X d_Vol_which_24 1 rfl rfl ?_
    obtain ⟨r3, h4, h⟩ := bnd_e h
    refine x_callV (pc := 25) (As := [.int (zi x1)]) (rest := [.int (zi rmn)]) (w2 := (w_Vol cI cB a0 a1 a2 a3 a4 a5 a6 a7 a8 a9 a10 a11 a12 a13 a14 a15 a16 a17 a18 a19 a20 a21 a22 a23 a24 a25 a26 a27 a28 a29 a30 a31 a32 a33 a34 a35 a36 a37 ik now nbt nki npl nva nwr nrm nrs nrz kow kbt kki kpl kva kwr krm krs krz tow tbt tki tpl tva twr trm trs trz seed smn snu rmn rnu rf)) X d_Vol_which_25 lk_Vol_114 mv_Disk_promisedIn (c_Disk_promisedIn l D cI cB a1 a2 a3 a4 a5 a6 a7 a8 a9 a10 now nbt nki npl nva nwr nrm nrs nrz x1 h4) ⟨(Nat.le_of_ble_eq_true rfl), (Nat.le_of_ble_eq_true rfl), (Nat.le_of_ble_eq_true rfl), (Nat.le_of_ble_eq_true rfl)⟩ 1 rfl rfl [1, 2, 3, 4, 5, 6, 7, 8, 9, 10] rfl rfl rfl (Up.same rfl) rfl rfl (Nat.le_of_ble_eq_true rfl) ?_
    refine x_icmple (pc := 28) (tgt := 38) X d_Vol_which_28 rfl h (fun h => ?_) (fun h => ?_)
    · skip
      refine x_iconst (pc := 38) X d_Vol_which_38  ?_
      refine x_istore_n (pc := 39) (ls2 := [(2, .int (zi 0)), (0, .ref a0), (1, .int (zi x1))]) X d_Vol_which_39 rfl (Nat.le_of_ble_eq_true rfl) rfl ?_
      refine x_iconst (pc := 40) X d_Vol_which_40  ?_
      refine x_istore_n (pc := 41) (ls2 := [(3, .int (zi 0)), (2, .int (zi 0)), (0, .ref a0), (1, .int (zi x1))]) X d_Vol_which_41 rfl (Nat.le_of_ble_eq_true rfl) rfl ?_
      refine x_ls (ls2 := [(0, .ref a0), (1, .int (zi x1)), (2, .int (zi 0)), (3, .int (zi 0))]) [2, 3, 1, 0] rfl ?_
      exact l_Vol_which_42 X 5000 x1 0 0 now nbt nki npl nva nwr tow tbt tki tpl tva twr trm trs trz rmn rnu rf o h hR
    · skip
      refine x_aload_n (pc := 31) X d_Vol_which_31 0 rfl rfl ?_
      refine x_bipush (pc := 32) (v := -3) X d_Vol_which_32 rfl ?_
      obtain ⟨r7, h8, h⟩ := bnd_e h
      refine x_callV (pc := 34) (As := [.int (zi (-3))]) (rest := []) (w2 := (w_Vol cI cB a0 a1 a2 a3 a4 a5 a6 a7 a8 a9 a10 a11 a12 a13 a14 a15 a16 a17 a18 a19 a20 a21 a22 a23 a24 a25 a26 a27 a28 a29 a30 a31 a32 a33 a34 a35 a36 a37 ik now nbt nki npl nva nwr nrm nrs nrz kow kbt kki kpl kva kwr krm krs krz tow tbt tki tpl tva twr trm trs trz seed smn snu rmn rnu r7.2)) X d_Vol_which_34 lk_Vol_55 mv_Vol_refuse (c_Vol_refuse l D cI cB a0 a1 a2 a3 a4 a5 a6 a7 a8 a9 a10 a11 a12 a13 a14 a15 a16 a17 a18 a19 a20 a21 a22 a23 a24 a25 a26 a27 a28 a29 a30 a31 a32 a33 a34 a35 a36 a37 ik now nbt nki npl nva nwr nrm nrs nrz kow kbt kki kpl kva kwr krm krs krz tow tbt tki tpl tva twr trm trs trz seed smn snu rmn rnu rf (-3) h8) ⟨(Nat.le_of_ble_eq_true rfl), (Nat.le_of_ble_eq_true rfl), (Nat.le_of_ble_eq_true rfl), (Nat.le_of_ble_eq_true rfl)⟩ 0 rfl rfl [0, 1, 2, 3, 4, 5, 6, 7, 8, 9, 10, 11, 12, 13, 14, 15, 16, 17, 18, 19, 20, 21, 22, 23, 24, 25, 26, 27, 28, 29, 30, 31, 32, 33, 34, 35, 36, 37] rfl rfl rfl (Up.of [] [] rfl rfl rfl 38 rfl (by decide +kernel)) rfl rfl (Nat.le_of_ble_eq_true rfl) ?_
      cases h
      exact x_iret (pc := 37) X hR d_Vol_which_37
  · skip
    refine x_aload_n (pc := 7) X d_Vol_which_7 0 rfl rfl ?_
    refine x_iconst (pc := 8) X d_Vol_which_8  ?_
    obtain ⟨r9, h10, h⟩ := bnd_e h
    refine x_callV (pc := 9) (As := [.int (zi (-1))]) (rest := []) (w2 := (w_Vol cI cB a0 a1 a2 a3 a4 a5 a6 a7 a8 a9 a10 a11 a12 a13 a14 a15 a16 a17 a18 a19 a20 a21 a22 a23 a24 a25 a26 a27 a28 a29 a30 a31 a32 a33 a34 a35 a36 a37 ik now nbt nki npl nva nwr nrm nrs nrz kow kbt kki kpl kva kwr krm krs krz tow tbt tki tpl tva twr trm trs trz seed smn snu rmn rnu r9.2)) X d_Vol_which_9 lk_Vol_55 mv_Vol_refuse (c_Vol_refuse l D cI cB a0 a1 a2 a3 a4 a5 a6 a7 a8 a9 a10 a11 a12 a13 a14 a15 a16 a17 a18 a19 a20 a21 a22 a23 a24 a25 a26 a27 a28 a29 a30 a31 a32 a33 a34 a35 a36 a37 ik now nbt nki npl nva nwr nrm nrs nrz kow kbt kki kpl kva kwr krm krs krz tow tbt tki tpl tva twr trm trs trz seed smn snu rmn rnu rf (-1) h10) ⟨(Nat.le_of_ble_eq_true rfl), (Nat.le_of_ble_eq_true rfl), (Nat.le_of_ble_eq_true rfl), (Nat.le_of_ble_eq_true rfl)⟩ 0 rfl rfl [0, 1, 2, 3, 4, 5, 6, 7, 8, 9, 10, 11, 12, 13, 14, 15, 16, 17, 18, 19, 20, 21, 22, 23, 24, 25, 26, 27, 28, 29, 30, 31, 32, 33, 34, 35, 36, 37] rfl rfl rfl (Up.of [] [] rfl rfl rfl 38 rfl (by decide +kernel)) rfl rfl (Nat.le_of_ble_eq_true rfl) ?_
    cases h
    exact x_iret (pc := 12) X hR d_Vol_which_12
theorem d_Vol_row_0 : decode b_Vol_row 0 = .ok (.iload_n 1, 1) := by decide +kernel
theorem d_Vol_row_1 : decode b_Vol_row 1 = .ok (.ifCond .ge 10, 3) := by decide +kernel
theorem d_Vol_row_4 : decode b_Vol_row 4 = .ok (.aload_n 0, 1) := by decide +kernel
theorem d_Vol_row_5 : decode b_Vol_row 5 = .ok (.bipush (-4), 2) := by decide +kernel
theorem d_Vol_row_7 : decode b_Vol_row 7 = .ok (.invokevirtual 55, 3) := by decide +kernel
theorem d_Vol_row_10 : decode b_Vol_row 10 = .ok (.ireturn, 1) := by decide +kernel
theorem d_Vol_row_11 : decode b_Vol_row 11 = .ok (.iload_n 1, 1) := by decide +kernel
theorem d_Vol_row_12 : decode b_Vol_row 12 = .ok (.bipush 99, 2) := by decide +kernel
theorem d_Vol_row_14 : decode b_Vol_row 14 = .ok (.if_icmp .gt 13, 3) := by decide +kernel
theorem d_Vol_row_17 : decode b_Vol_row 17 = .ok (.aload_n 0, 1) := by decide +kernel
theorem d_Vol_row_18 : decode b_Vol_row 18 = .ok (.getfield 43, 3) := by decide +kernel
theorem d_Vol_row_21 : decode b_Vol_row 21 = .ok (.invokevirtual 62, 3) := by decide +kernel
theorem d_Vol_row_24 : decode b_Vol_row 24 = .ok (.ifCond .eq 10, 3) := by decide +kernel
theorem d_Vol_row_27 : decode b_Vol_row 27 = .ok (.aload_n 0, 1) := by decide +kernel
theorem d_Vol_row_28 : decode b_Vol_row 28 = .ok (.bipush (-6), 2) := by decide +kernel
theorem d_Vol_row_30 : decode b_Vol_row 30 = .ok (.invokevirtual 55, 3) := by decide +kernel
theorem d_Vol_row_33 : decode b_Vol_row 33 = .ok (.ireturn, 1) := by decide +kernel
theorem d_Vol_row_34 : decode b_Vol_row 34 = .ok (.aload_n 0, 1) := by decide +kernel
theorem d_Vol_row_35 : decode b_Vol_row 35 = .ok (.getfield 43, 3) := by decide +kernel
theorem d_Vol_row_38 : decode b_Vol_row 38 = .ok (.iload_n 1, 1) := by decide +kernel
theorem d_Vol_row_39 : decode b_Vol_row 39 = .ok (.invokevirtual 66, 3) := by decide +kernel
theorem d_Vol_row_42 : decode b_Vol_row 42 = .ok (.ireturn, 1) := by decide +kernel
def m_Vol_row (x1 : Int) (rmn : Int) (rnu : Int → Int) (rf : Int → Int) : Option (Int × Int × (Int → Int) × (Int → Int)) :=
  clt x1 0 (bnd (m_Vol_refuse (-4) rf) (fun r13 => some (r13.1, rmn, rnu, r13.2))) (jn (fun (c2 : Int) (c3 : Int → Int) (c4 : Int → Int) => bnd (m_Vol_refuse (-6) c4) (fun r5 => some (r5.1, c2, c3, r5.2))) (fun j1 => cle x1 99 (bnd (m_Row_isFull_W32 rmn) (fun r9 => ceq r9 0 (bnd (m_Row_add_W32 x1 rmn rnu) (fun r11 => some (r11.1, r11.2.1, r11.2.2, rf))) (j1 rmn rnu rf))) (j1 rmn rnu rf)))
set_option maxHeartbeats 4000000 in
set_option maxRecDepth 100000 in
theorem c_Vol_row (l : Launch) (D : va_G) (cI cB : ClassId) (a0 a1 a2 a3 a4 a5 a6 a7 a8 a9 a10 a11 a12 a13 a14 a15 a16 a17 a18 a19 a20 a21 a22 a23 a24 a25 a26 a27 a28 a29 a30 a31 a32 a33 a34 a35 a36 a37 : Nat) (ik : Int) (now : Int → Int) (nbt : Int → Int) (nki : Int → Int) (npl : Int → Int) (nva : Int → Int) (nwr : Int → Int) (nrm : Int) (nrs : Int → Int) (nrz : Int → Int) (kow : Int → Int) (kbt : Int → Int) (kki : Int → Int) (kpl : Int → Int) (kva : Int → Int) (kwr : Int → Int) (krm : Int) (krs : Int → Int) (krz : Int → Int) (tow : Int → Int) (tbt : Int → Int) (tki : Int → Int) (tpl : Int → Int) (tva : Int → Int) (twr : Int → Int) (trm : Int) (trs : Int → Int) (trz : Int → Int) (seed : Int) (smn : Int) (snu : Int → Int) (rmn : Int) (rnu : Int → Int) (rf : Int → Int) (x1 : Int) {o : Int × Int × (Int → Int) × (Int → Int)} (h : m_Vol_row x1 rmn rnu rf = some o) : Ct l D cI cB y_Vol_row b_Vol_row 2 (some .int) { frames := 1, cells := 0, slots := 0, locals := 22 } [.ref a0, .int (zi x1)] (w_Vol cI cB a0 a1 a2 a3 a4 a5 a6 a7 a8 a9 a10 a11 a12 a13 a14 a15 a16 a17 a18 a19 a20 a21 a22 a23 a24 a25 a26 a27 a28 a29 a30 a31 a32 a33 a34 a35 a36 a37 ik now nbt nki npl nva nwr nrm nrs nrz kow kbt kki kpl kva kwr krm krs krz tow tbt tki tpl tva twr trm trs trz seed smn snu rmn rnu rf) (w_Vol cI cB a0 a1 a2 a3 a4 a5 a6 a7 a8 a9 a10 a11 a12 a13 a14 a15 a16 a17 a18 a19 a20 a21 a22 a23 a24 a25 a26 a27 a28 a29 a30 a31 a32 a33 a34 a35 a36 a37 ik now nbt nki npl nva nwr nrm nrs nrz kow kbt kki kpl kva kwr krm krs krz tow tbt tki tpl tva twr trm trs trz seed smn snu o.2.1 o.2.2.1 o.2.2.2) (some (.int (zi o.1))) := by
  refine Ct.start (by decide) (Nat.le_of_ble_eq_true rfl) (fun G X hR => ?_)
  refine x_ls (ls2 := [(0, .ref a0), (1, .int (zi x1))]) [0, 1] rfl ?_
  unfold m_Vol_row at h
  refine x_iload_n (pc := 0) X d_Vol_row_0 1 rfl rfl ?_
  refine x_ifge (pc := 1) (tgt := 11) X d_Vol_row_1 rfl h (fun h => ?_) (fun h => ?_)
  · skip
    refine x_iload_n (pc := 11) X d_Vol_row_11 1 rfl rfl ?_
    refine x_bipush (pc := 12) (v := 99) X d_Vol_row_12 rfl ?_
    obtain ⟨j1, hj7, h⟩ := jn_e h
    have J8 : ∀ (c2 : Int) (c3 : Int → Int) (c4 : Int → Int), j1 c2 c3 c4 = some o → Wx G 0 0 27 [(0, .ref a0)] [] (w_Vol cI cB a0 a1 a2 a3 a4 a5 a6 a7 a8 a9 a10 a11 a12 a13 a14 a15 a16 a17 a18 a19 a20 a21 a22 a23 a24 a25 a26 a27 a28 a29 a30 a31 a32 a33 a34 a35 a36 a37 ik now nbt nki npl nva nwr nrm nrs nrz kow kbt kki kpl kva kwr krm krs krz tow tbt tki tpl tva twr trm trs trz seed smn snu c2 c3 c4) := by
      intro c2 c3 c4 h
      rw [hj7] at h
      (try dsimp only at h)
      refine x_aload_n (pc := 27) X d_Vol_row_27 0 rfl rfl ?_
      refine x_bipush (pc := 28) (v := -6) X d_Vol_row_28 rfl ?_
      obtain ⟨r5, h6, h⟩ := bnd_e h
      refine x_callV (pc := 30) (As := [.int (zi (-6))]) (rest := []) (w2 := (w_Vol cI cB a0 a1 a2 a3 a4 a5 a6 a7 a8 a9 a10 a11 a12 a13 a14 a15 a16 a17 a18 a19 a20 a21 a22 a23 a24 a25 a26 a27 a28 a29 a30 a31 a32 a33 a34 a35 a36 a37 ik now nbt nki npl nva nwr nrm nrs nrz kow kbt kki kpl kva kwr krm krs krz tow tbt tki tpl tva twr trm trs trz seed smn snu c2 c3 r5.2)) X d_Vol_row_30 lk_Vol_55 mv_Vol_refuse (c_Vol_refuse l D cI cB a0 a1 a2 a3 a4 a5 a6 a7 a8 a9 a10 a11 a12 a13 a14 a15 a16 a17 a18 a19 a20 a21 a22 a23 a24 a25 a26 a27 a28 a29 a30 a31 a32 a33 a34 a35 a36 a37 ik now nbt nki npl nva nwr nrm nrs nrz kow kbt kki kpl kva kwr krm krs krz tow tbt tki tpl tva twr trm trs trz seed smn snu c2 c3 c4 (-6) h6) ⟨(Nat.le_of_ble_eq_true rfl), (Nat.le_of_ble_eq_true rfl), (Nat.le_of_ble_eq_true rfl), (Nat.le_of_ble_eq_true rfl)⟩ 0 rfl rfl [0, 1, 2, 3, 4, 5, 6, 7, 8, 9, 10, 11, 12, 13, 14, 15, 16, 17, 18, 19, 20, 21, 22, 23, 24, 25, 26, 27, 28, 29, 30, 31, 32, 33, 34, 35, 36, 37] rfl rfl rfl (Up.of [] [] rfl rfl rfl 38 rfl (by decide +kernel)) rfl rfl (Nat.le_of_ble_eq_true rfl) ?_
      cases h
      exact x_iret (pc := 33) X hR d_Vol_row_33
    clear hj7
    refine x_icmpgt (pc := 14) (tgt := 27) X d_Vol_row_14 rfl h (fun h => ?_) (fun h => ?_)
    · skip
      refine x_ls (ls2 := [(0, .ref a0)]) [0] rfl ?_
      exact J8 rmn rnu rf h
    · skip
      refine x_aload_n (pc := 17) X d_Vol_row_17 0 rfl rfl ?_
      refine x_get (pc := 18) X d_Vol_row_18 0 rfl fl_Vol_43 rfl ?_
      obtain ⟨r9, h10, h⟩ := bnd_e h
      refine x_callV (pc := 21) (As := []) (rest := []) (w2 := (w_Vol cI cB a0 a1 a2 a3 a4 a5 a6 a7 a8 a9 a10 a11 a12 a13 a14 a15 a16 a17 a18 a19 a20 a21 a22 a23 a24 a25 a26 a27 a28 a29 a30 a31 a32 a33 a34 a35 a36 a37 ik now nbt nki npl nva nwr nrm nrs nrz kow kbt kki kpl kva kwr krm krs krz tow tbt tki tpl tva twr trm trs trz seed smn snu rmn rnu rf)) X d_Vol_row_21 lk_Vol_62 mv_Row_isFull (c_Row_isFull_W32 l D cI cB a35 a36 rmn rnu h10) ⟨(Nat.le_of_ble_eq_true rfl), (Nat.le_of_ble_eq_true rfl), (Nat.le_of_ble_eq_true rfl), (Nat.le_of_ble_eq_true rfl)⟩ 35 rfl rfl [35, 36] rfl rfl rfl (Up.same rfl) rfl rfl (Nat.le_of_ble_eq_true rfl) ?_
      refine x_ifeq (pc := 24) (tgt := 34) X d_Vol_row_24 rfl h (fun h => ?_) (fun h => ?_)
      · skip
        refine x_aload_n (pc := 34) X d_Vol_row_34 0 rfl rfl ?_
        refine x_get (pc := 35) X d_Vol_row_35 0 rfl fl_Vol_43 rfl ?_
        refine x_iload_n (pc := 38) X d_Vol_row_38 1 rfl rfl ?_
        obtain ⟨r11, h12, h⟩ := bnd_e h
        refine x_callV (pc := 39) (As := [.int (zi x1)]) (rest := []) (w2 := (w_Vol cI cB a0 a1 a2 a3 a4 a5 a6 a7 a8 a9 a10 a11 a12 a13 a14 a15 a16 a17 a18 a19 a20 a21 a22 a23 a24 a25 a26 a27 a28 a29 a30 a31 a32 a33 a34 a35 a36 a37 ik now nbt nki npl nva nwr nrm nrs nrz kow kbt kki kpl kva kwr krm krs krz tow tbt tki tpl tva twr trm trs trz seed smn snu r11.2.1 r11.2.2 rf)) X d_Vol_row_39 lk_Vol_66 mv_Row_add (c_Row_add_W32 l D cI cB a35 a36 rmn rnu x1 h12) ⟨(Nat.le_of_ble_eq_true rfl), (Nat.le_of_ble_eq_true rfl), (Nat.le_of_ble_eq_true rfl), (Nat.le_of_ble_eq_true rfl)⟩ 35 rfl rfl [35, 36] rfl rfl rfl (Up.of [0, 1, 2, 3, 4, 5, 6, 7, 8, 9, 10, 11, 12, 13, 14, 15, 16, 17, 18, 19, 20, 21, 22, 23, 24, 25, 26, 27, 28, 29, 30, 31, 32, 33, 34, 37] [(a0, .inr (5, [.ref a1, .ref a11, .ref a21, .ref a31, .ref a32, .ref a35, .ref a37, .int (zi ik)])), (a1, .inr (0, [.ref a2, .ref a3, .ref a4, .ref a5, .ref a6, .ref a7, .ref a8])), (a2, zA cI 64 now), (a3, zA cI 64 nbt), (a4, zA cI 4 nki), (a5, zA cI 96 npl), (a6, zA cI 96 nva), (a7, zA cB 96 nwr), (a8, .inr (3, [.ref a9, .ref a10, .int (zi nrm)])), (a9, zA cI 32 nrs), (a10, zA cI 32 nrz), (a11, .inr (0, [.ref a12, .ref a13, .ref a14, .ref a15, .ref a16, .ref a17, .ref a18])), (a12, zA cI 64 kow), (a13, zA cI 64 kbt), (a14, zA cI 4 kki), (a15, zA cI 96 kpl), (a16, zA cI 96 kva), (a17, zA cB 96 kwr), (a18, .inr (3, [.ref a19, .ref a20, .int (zi krm)])), (a19, zA cI 32 krs), (a20, zA cI 32 krz), (a21, .inr (0, [.ref a22, .ref a23, .ref a24, .ref a25, .ref a26, .ref a27, .ref a28])), (a22, zA cI 64 tow), (a23, zA cI 64 tbt), (a24, zA cI 4 tki), (a25, zA cI 96 tpl), (a26, zA cI 96 tva), (a27, zA cB 96 twr), (a28, .inr (3, [.ref a29, .ref a30, .int (zi trm)])), (a29, zA cI 32 trs), (a30, zA cI 32 trz), (a31, .inr (1, [.ref a1, .ref a21, .int (zi seed)])), (a32, .inr (4, [.ref a33])), (a33, .inr (2, [.ref a34, .int (zi smn)])), (a34, zA cI 96 snu), (a37, zA cI 7 rf)] rfl rfl rfl 38 rfl (by decide +kernel)) rfl rfl (Nat.le_of_ble_eq_true rfl) ?_
        cases h
        exact x_iret (pc := 42) X hR d_Vol_row_42
      · skip
        refine x_ls (ls2 := [(0, .ref a0)]) [0] rfl ?_
        exact J8 rmn rnu rf h
  · skip
    refine x_aload_n (pc := 4) X d_Vol_row_4 0 rfl rfl ?_
    refine x_bipush (pc := 5) (v := -4) X d_Vol_row_5 rfl ?_
    obtain ⟨r13, h14, h⟩ := bnd_e h
    refine x_callV (pc := 7) (As := [.int (zi (-4))]) (rest := []) (w2 := (w_Vol cI cB a0 a1 a2 a3 a4 a5 a6 a7 a8 a9 a10 a11 a12 a13 a14 a15 a16 a17 a18 a19 a20 a21 a22 a23 a24 a25 a26 a27 a28 a29 a30 a31 a32 a33 a34 a35 a36 a37 ik now nbt nki npl nva nwr nrm nrs nrz kow kbt kki kpl kva kwr krm krs krz tow tbt tki tpl tva twr trm trs trz seed smn snu rmn rnu r13.2)) X d_Vol_row_7 lk_Vol_55 mv_Vol_refuse (c_Vol_refuse l D cI cB a0 a1 a2 a3 a4 a5 a6 a7 a8 a9 a10 a11 a12 a13 a14 a15 a16 a17 a18 a19 a20 a21 a22 a23 a24 a25 a26 a27 a28 a29 a30 a31 a32 a33 a34 a35 a36 a37 ik now nbt nki npl nva nwr nrm nrs nrz kow kbt kki kpl kva kwr krm krs krz tow tbt tki tpl tva twr trm trs trz seed smn snu rmn rnu rf (-4) h14) ⟨(Nat.le_of_ble_eq_true rfl), (Nat.le_of_ble_eq_true rfl), (Nat.le_of_ble_eq_true rfl), (Nat.le_of_ble_eq_true rfl)⟩ 0 rfl rfl [0, 1, 2, 3, 4, 5, 6, 7, 8, 9, 10, 11, 12, 13, 14, 15, 16, 17, 18, 19, 20, 21, 22, 23, 24, 25, 26, 27, 28, 29, 30, 31, 32, 33, 34, 35, 36, 37] rfl rfl rfl (Up.of [] [] rfl rfl rfl 38 rfl (by decide +kernel)) rfl rfl (Nat.le_of_ble_eq_true rfl) ?_
    cases h
    exact x_iret (pc := 10) X hR d_Vol_row_10
theorem d_Vol_firstWrongPlace_0 : decode b_Vol_firstWrongPlace 0 = .ok (.iconst 0, 1) := by decide +kernel
theorem d_Vol_firstWrongPlace_1 : decode b_Vol_firstWrongPlace 1 = .ok (.istore_n 2, 1) := by decide +kernel
theorem d_Vol_firstWrongPlace_2 : decode b_Vol_firstWrongPlace 2 = .ok (.iload_n 2, 1) := by decide +kernel
theorem d_Vol_firstWrongPlace_3 : decode b_Vol_firstWrongPlace 3 = .ok (.aload_n 0, 1) := by decide +kernel
theorem d_Vol_firstWrongPlace_4 : decode b_Vol_firstWrongPlace 4 = .ok (.getfield 43, 3) := by decide +kernel
theorem d_Vol_firstWrongPlace_7 : decode b_Vol_firstWrongPlace 7 = .ok (.getfield 270, 3) := by decide +kernel
theorem d_Vol_firstWrongPlace_10 : decode b_Vol_firstWrongPlace 10 = .ok (.if_icmp .ge 42, 3) := by decide +kernel
theorem d_Vol_firstWrongPlace_13 : decode b_Vol_firstWrongPlace 13 = .ok (.aload_n 0, 1) := by decide +kernel
theorem d_Vol_firstWrongPlace_14 : decode b_Vol_firstWrongPlace 14 = .ok (.getfield 10, 3) := by decide +kernel
theorem d_Vol_firstWrongPlace_17 : decode b_Vol_firstWrongPlace 17 = .ok (.iload_n 1, 1) := by decide +kernel
theorem d_Vol_firstWrongPlace_18 : decode b_Vol_firstWrongPlace 18 = .ok (.iload_n 2, 1) := by decide +kernel
theorem d_Vol_firstWrongPlace_19 : decode b_Vol_firstWrongPlace 19 = .ok (.invokevirtual 91, 3) := by decide +kernel
theorem d_Vol_firstWrongPlace_22 : decode b_Vol_firstWrongPlace 22 = .ok (.istore_n 3, 1) := by decide +kernel
theorem d_Vol_firstWrongPlace_23 : decode b_Vol_firstWrongPlace 23 = .ok (.aload_n 0, 1) := by decide +kernel
theorem d_Vol_firstWrongPlace_24 : decode b_Vol_firstWrongPlace 24 = .ok (.getfield 43, 3) := by decide +kernel
theorem d_Vol_firstWrongPlace_27 : decode b_Vol_firstWrongPlace 27 = .ok (.iload_n 2, 1) := by decide +kernel
theorem d_Vol_firstWrongPlace_28 : decode b_Vol_firstWrongPlace 28 = .ok (.invokevirtual 291, 3) := by decide +kernel
theorem d_Vol_firstWrongPlace_31 : decode b_Vol_firstWrongPlace 31 = .ok (.iload_n 3, 1) := by decide +kernel
theorem d_Vol_firstWrongPlace_32 : decode b_Vol_firstWrongPlace 32 = .ok (.ifCond .ge 8, 3) := by decide +kernel
theorem d_Vol_firstWrongPlace_35 : decode b_Vol_firstWrongPlace 35 = .ok (.bipush 99, 2) := by decide +kernel
theorem d_Vol_firstWrongPlace_37 : decode b_Vol_firstWrongPlace 37 = .ok (.goto 4, 3) := by decide +kernel
theorem d_Vol_firstWrongPlace_40 : decode b_Vol_firstWrongPlace 40 = .ok (.iload_n 3, 1) := by decide +kernel
theorem d_Vol_firstWrongPlace_41 : decode b_Vol_firstWrongPlace 41 = .ok (.if_icmp .eq 5, 3) := by decide +kernel
theorem d_Vol_firstWrongPlace_44 : decode b_Vol_firstWrongPlace 44 = .ok (.iload_n 2, 1) := by decide +kernel
theorem d_Vol_firstWrongPlace_45 : decode b_Vol_firstWrongPlace 45 = .ok (.ireturn, 1) := by decide +kernel
theorem d_Vol_firstWrongPlace_46 : decode b_Vol_firstWrongPlace 46 = .ok (.iinc 2 1, 3) := by decide +kernel
theorem d_Vol_firstWrongPlace_49 : decode b_Vol_firstWrongPlace 49 = .ok (.goto (-47), 3) := by decide +kernel
theorem d_Vol_firstWrongPlace_52 : decode b_Vol_firstWrongPlace 52 = .ok (.bipush (-9), 2) := by decide +kernel
theorem d_Vol_firstWrongPlace_54 : decode b_Vol_firstWrongPlace 54 = .ok (.ireturn, 1) := by decide +kernel
def m_Vol_firstWrongPlace_2 : Nat → Int → Int → (Int → Int) → Int → (Int → Int) → Option (Int)
  | 0, _, _, _, _, _ => none
  | fuel + 1, v1, v2, npl, rmn, rnu =>
  clt v2 rmn (bnd (m_Disk_blockAt v1 v2 npl) (fun r1 => bnd (m_Row_numberAt_W32 v2 rmn rnu) (fun r3 => jn (fun (z6 : Int) (z7 : Int) (z8 : Int) (z9 : Int) => ceq z8 z9 (m_Vol_firstWrongPlace_2 fuel z6 (z7 + 1) npl rmn rnu) (some (z7))) (fun j5 => clt r1 0 (j5 v1 v2 r3 99) (j5 v1 v2 r3 r1))))) (some ((-9)))
def m_Vol_firstWrongPlace (x1 : Int) (npl : Int → Int) (rmn : Int) (rnu : Int → Int) : Option (Int) :=
  m_Vol_firstWrongPlace_2 5000 x1 0 npl rmn rnu
set_option maxHeartbeats 4000000 in
set_option maxRecDepth 100000 in
theorem l_Vol_firstWrongPlace_2 {G : GT} {l : Launch} {D : va_G} {cI cB : ClassId} {a0 a1 a2 a3 a4 a5 a6 a7 a8 a9 a10 a11 a12 a13 a14 a15 a16 a17 a18 a19 a20 a21 a22 a23 a24 a25 a26 a27 a28 a29 a30 a31 a32 a33 a34 a35 a36 a37 : Nat} {ik : Int} {now : Int → Int} {nbt : Int → Int} {nki : Int → Int} {nva : Int → Int} {nwr : Int → Int} {nrm : Int} {nrs : Int → Int} {nrz : Int → Int} {kow : Int → Int} {kbt : Int → Int} {kki : Int → Int} {kpl : Int → Int} {kva : Int → Int} {kwr : Int → Int} {krm : Int} {krs : Int → Int} {krz : Int → Int} {tow : Int → Int} {tbt : Int → Int} {tki : Int → Int} {tpl : Int → Int} {tva : Int → Int} {twr : Int → Int} {trm : Int} {trs : Int → Int} {trz : Int → Int} {seed : Int} {smn : Int} {snu : Int → Int} {rf : Int → Int} (X : Cx G l D cI cB b_Vol_firstWrongPlace y_Vol_firstWrongPlace.cls 4 { frames := 1, cells := 0, slots := 0, locals := 23 }) : ∀ (fuel : Nat) (v1 : Int) (v2 : Int) (npl : Int → Int) (rmn : Int) (rnu : Int → Int) (o : Int), m_Vol_firstWrongPlace_2 fuel v1 v2 npl rmn rnu = some o → Rt G (some .int) (some (.int (zi o))) (w_Vol cI cB a0 a1 a2 a3 a4 a5 a6 a7 a8 a9 a10 a11 a12 a13 a14 a15 a16 a17 a18 a19 a20 a21 a22 a23 a24 a25 a26 a27 a28 a29 a30 a31 a32 a33 a34 a35 a36 a37 ik now nbt nki npl nva nwr nrm nrs nrz kow kbt kki kpl kva kwr krm krs krz tow tbt tki tpl tva twr trm trs trz seed smn snu rmn rnu rf) → Wx G 0 0 2 [(0, .ref a0), (1, .int (zi v1)), (2, .int (zi v2))] [] (w_Vol cI cB a0 a1 a2 a3 a4 a5 a6 a7 a8 a9 a10 a11 a12 a13 a14 a15 a16 a17 a18 a19 a20 a21 a22 a23 a24 a25 a26 a27 a28 a29 a30 a31 a32 a33 a34 a35 a36 a37 ik now nbt nki npl nva nwr nrm nrs nrz kow kbt kki kpl kva kwr krm krs krz tow tbt tki tpl tva twr trm trs trz seed smn snu rmn rnu rf) := by
  intro fuel
  induction fuel with
  | zero =>
    intro v1 v2 npl rmn rnu o h
    exact absurd h (by simp [m_Vol_firstWrongPlace_2])
  | succ fuel ih =>
    intro v1 v2 npl rmn rnu o h hR
    rw [m_Vol_firstWrongPlace_2] at h
    refine x_iload_n (pc := 2) X d_Vol_firstWrongPlace_2 2 rfl rfl ?_
    refine x_aload_n (pc := 3) X d_Vol_firstWrongPlace_3 0 rfl rfl ?_
    refine x_get (pc := 4) X d_Vol_firstWrongPlace_4 0 rfl fl_Vol_43 rfl ?_
    refine x_get (pc := 7) X d_Vol_firstWrongPlace_7 35 rfl fl_Vol_270 rfl ?_
    refine x_icmpge (pc := 10) (tgt := 52) X d_Vol_firstWrongPlace_10 rfl h (fun h => ?_) (fun h => ?_)
    · skip
      refine x_bipush (pc := 52) (v := -9) X d_Vol_firstWrongPlace_52 rfl ?_
      cases h
      exact x_iret (pc := 54) X hR d_Vol_firstWrongPlace_54
    · skip
      refine x_aload_n (pc := 13) X d_Vol_firstWrongPlace_13 0 rfl rfl ?_
      refine x_get (pc := 14) X d_Vol_firstWrongPlace_14 0 rfl fl_Vol_10 rfl ?_
      refine x_iload_n (pc := 17) X d_Vol_firstWrongPlace_17 1 rfl rfl ?_
      refine x_iload_n (pc := 18) X d_Vol_firstWrongPlace_18 2 rfl rfl ?_
      obtain ⟨r1, h2, h⟩ := bnd_e h
      refine x_callV (pc := 19) (As := [.int (zi v1), .int (zi v2)]) (rest := []) (w2 := (w_Vol cI cB a0 a1 a2 a3 a4 a5 a6 a7 a8 a9 a10 a11 a12 a13 a14 a15 a16 a17 a18 a19 a20 a21 a22 a23 a24 a25 a26 a27 a28 a29 a30 a31 a32 a33 a34 a35 a36 a37 ik now nbt nki npl nva nwr nrm nrs nrz kow kbt kki kpl kva kwr krm krs krz tow tbt tki tpl tva twr trm trs trz seed smn snu rmn rnu rf)) X d_Vol_firstWrongPlace_19 lk_Vol_91 mv_Disk_blockAt (c_Disk_blockAt l D cI cB a1 a2 a3 a4 a5 a6 a7 a8 a9 a10 now nbt nki npl nva nwr nrm nrs nrz v1 v2 h2) ⟨(Nat.le_of_ble_eq_true rfl), (Nat.le_of_ble_eq_true rfl), (Nat.le_of_ble_eq_true rfl), (Nat.le_of_ble_eq_true rfl)⟩ 1 rfl rfl [1, 2, 3, 4, 5, 6, 7, 8, 9, 10] rfl rfl rfl (Up.same rfl) rfl rfl (Nat.le_of_ble_eq_true rfl) ?_
      refine x_istore_n (pc := 22) (ls2 := [(3, .int (zi r1)), (0, .ref a0), (1, .int (zi v1)), (2, .int (zi v2))]) X d_Vol_firstWrongPlace_22 rfl (Nat.le_of_ble_eq_true rfl) rfl ?_
      refine x_aload_n (pc := 23) X d_Vol_firstWrongPlace_23 1 rfl rfl ?_
      refine x_get (pc := 24) X d_Vol_firstWrongPlace_24 0 rfl fl_Vol_43 rfl ?_
      refine x_iload_n (pc := 27) X d_Vol_firstWrongPlace_27 3 rfl rfl ?_
      obtain ⟨r3, h4, h⟩ := bnd_e h
      refine x_callV (pc := 28) (As := [.int (zi v2)]) (rest := []) (w2 := (w_Vol cI cB a0 a1 a2 a3 a4 a5 a6 a7 a8 a9 a10 a11 a12 a13 a14 a15 a16 a17 a18 a19 a20 a21 a22 a23 a24 a25 a26 a27 a28 a29 a30 a31 a32 a33 a34 a35 a36 a37 ik now nbt nki npl nva nwr nrm nrs nrz kow kbt kki kpl kva kwr krm krs krz tow tbt tki tpl tva twr trm trs trz seed smn snu rmn rnu rf)) X d_Vol_firstWrongPlace_28 lk_Vol_291 mv_Row_numberAt (c_Row_numberAt_W32 l D cI cB a35 a36 rmn rnu v2 h4) ⟨(Nat.le_of_ble_eq_true rfl), (Nat.le_of_ble_eq_true rfl), (Nat.le_of_ble_eq_true rfl), (Nat.le_of_ble_eq_true rfl)⟩ 35 rfl rfl [35, 36] rfl rfl rfl (Up.same rfl) rfl rfl (Nat.le_of_ble_eq_true rfl) ?_
      refine x_iload_n (pc := 31) X d_Vol_firstWrongPlace_31 0 rfl rfl ?_
      obtain ⟨j5, hj10, h⟩ := jn_e h
      have J11 : ∀ (z6 : Int) (z7 : Int) (z8 : Int) (z9 : Int), j5 z6 z7 z8 z9 = some o → Wx G 0 0 41 [(0, .ref a0), (1, .int (zi z6)), (2, .int (zi z7))] [.int (zi z9), .int (zi z8)] (w_Vol cI cB a0 a1 a2 a3 a4 a5 a6 a7 a8 a9 a10 a11 a12 a13 a14 a15 a16 a17 a18 a19 a20 a21 a22 a23 a24 a25 a26 a27 a28 a29 a30 a31 a32 a33 a34 a35 a36 a37 ik now nbt nki npl nva nwr nrm nrs nrz kow kbt kki kpl kva kwr krm krs krz tow tbt tki tpl tva twr trm trs trz seed smn snu rmn rnu rf) := by
        intro z6 z7 z8 z9 h
        rw [hj10] at h
        (try dsimp only at h)
        refine x_icmpeq (pc := 41) (tgt := 46) X d_Vol_firstWrongPlace_41 rfl h (fun h => ?_) (fun h => ?_)
        · skip
          refine x_iinc (pc := 46) (ls2 := [(2, .int (zi (z7 + 1))), (0, .ref a0), (1, .int (zi z6))]) X d_Vol_firstWrongPlace_46 2 (Nat.le_of_ble_eq_true rfl) rfl rfl ?_
          refine x_goto (pc := 49) (tgt := 2) X d_Vol_firstWrongPlace_49 rfl ?_
          refine x_ls (ls2 := [(0, .ref a0), (1, .int (zi z6)), (2, .int (zi (z7 + 1)))]) [1, 2, 0] rfl ?_
          exact ih z6 (z7 + 1) npl rmn rnu o h hR
        · skip
          refine x_iload_n (pc := 44) X d_Vol_firstWrongPlace_44 2 rfl rfl ?_
          cases h
          exact x_iret (pc := 45) X hR d_Vol_firstWrongPlace_45
      clear hj10
      refine x_ifge (pc := 32) (tgt := 40) X d_Vol_firstWrongPlace_32 rfl h (fun h => ?_) (fun h => ?_)
      · skip
        refine x_iload_n (pc := 40) X d_Vol_firstWrongPlace_40 0 rfl rfl ?_
        refine x_ls (ls2 := [(0, .ref a0), (1, .int (zi v1)), (2, .int (zi v2))]) [1, 2, 3] rfl ?_
        exact J11 v1 v2 r3 r1 h
      · skip
        refine x_bipush (pc := 35) (v := 99) X d_Vol_firstWrongPlace_35 rfl ?_
        refine x_goto (pc := 37) (tgt := 41) X d_Vol_firstWrongPlace_37 rfl ?_
        refine x_ls (ls2 := [(0, .ref a0), (1, .int (zi v1)), (2, .int (zi v2))]) [1, 2, 3] rfl ?_
        exact J11 v1 v2 r3 99 h
set_option maxHeartbeats 4000000 in
set_option maxRecDepth 100000 in
theorem c_Vol_firstWrongPlace (l : Launch) (D : va_G) (cI cB : ClassId) (a0 a1 a2 a3 a4 a5 a6 a7 a8 a9 a10 a11 a12 a13 a14 a15 a16 a17 a18 a19 a20 a21 a22 a23 a24 a25 a26 a27 a28 a29 a30 a31 a32 a33 a34 a35 a36 a37 : Nat) (ik : Int) (now : Int → Int) (nbt : Int → Int) (nki : Int → Int) (npl : Int → Int) (nva : Int → Int) (nwr : Int → Int) (nrm : Int) (nrs : Int → Int) (nrz : Int → Int) (kow : Int → Int) (kbt : Int → Int) (kki : Int → Int) (kpl : Int → Int) (kva : Int → Int) (kwr : Int → Int) (krm : Int) (krs : Int → Int) (krz : Int → Int) (tow : Int → Int) (tbt : Int → Int) (tki : Int → Int) (tpl : Int → Int) (tva : Int → Int) (twr : Int → Int) (trm : Int) (trs : Int → Int) (trz : Int → Int) (seed : Int) (smn : Int) (snu : Int → Int) (rmn : Int) (rnu : Int → Int) (rf : Int → Int) (x1 : Int) {o : Int} (h : m_Vol_firstWrongPlace x1 npl rmn rnu = some o) : Ct l D cI cB y_Vol_firstWrongPlace b_Vol_firstWrongPlace 4 (some .int) { frames := 1, cells := 0, slots := 0, locals := 23 } [.ref a0, .int (zi x1)] (w_Vol cI cB a0 a1 a2 a3 a4 a5 a6 a7 a8 a9 a10 a11 a12 a13 a14 a15 a16 a17 a18 a19 a20 a21 a22 a23 a24 a25 a26 a27 a28 a29 a30 a31 a32 a33 a34 a35 a36 a37 ik now nbt nki npl nva nwr nrm nrs nrz kow kbt kki kpl kva kwr krm krs krz tow tbt tki tpl tva twr trm trs trz seed smn snu rmn rnu rf) (w_Vol cI cB a0 a1 a2 a3 a4 a5 a6 a7 a8 a9 a10 a11 a12 a13 a14 a15 a16 a17 a18 a19 a20 a21 a22 a23 a24 a25 a26 a27 a28 a29 a30 a31 a32 a33 a34 a35 a36 a37 ik now nbt nki npl nva nwr nrm nrs nrz kow kbt kki kpl kva kwr krm krs krz tow tbt tki tpl tva twr trm trs trz seed smn snu rmn rnu rf) (some (.int (zi o))) := by
  refine Ct.start (by decide) (Nat.le_of_ble_eq_true rfl) (fun G X hR => ?_)
  refine x_ls (ls2 := [(0, .ref a0), (1, .int (zi x1))]) [0, 1] rfl ?_
  unfold m_Vol_firstWrongPlace at h
  refine x_iconst (pc := 0) X d_Vol_firstWrongPlace_0  ?_
  refine x_istore_n (pc := 1) (ls2 := [(2, .int (zi 0)), (0, .ref a0), (1, .int (zi x1))]) X d_Vol_firstWrongPlace_1 rfl (Nat.le_of_ble_eq_true rfl) rfl ?_
  refine x_ls (ls2 := [(0, .ref a0), (1, .int (zi x1)), (2, .int (zi 0))]) [1, 2, 0] rfl ?_
  exact l_Vol_firstWrongPlace_2 X 5000 x1 0 npl rmn rnu o h hR
theorem d_Vol_judge_0 : decode b_Vol_judge 0 = .ok (.iload_n 1, 1) := by decide +kernel
theorem d_Vol_judge_1 : decode b_Vol_judge 1 = .ok (.invokestatic 84, 3) := by decide +kernel
theorem d_Vol_judge_4 : decode b_Vol_judge 4 = .ok (.ifCond .ne 9, 3) := by decide +kernel
theorem d_Vol_judge_7 : decode b_Vol_judge 7 = .ok (.aload_n 0, 1) := by decide +kernel
theorem d_Vol_judge_8 : decode b_Vol_judge 8 = .ok (.iconst (-1), 1) := by decide +kernel
theorem d_Vol_judge_9 : decode b_Vol_judge 9 = .ok (.invokevirtual 55, 3) := by decide +kernel
theorem d_Vol_judge_12 : decode b_Vol_judge 12 = .ok (.ireturn, 1) := by decide +kernel
theorem d_Vol_judge_13 : decode b_Vol_judge 13 = .ok (.aload_n 0, 1) := by decide +kernel
theorem d_Vol_judge_14 : decode b_Vol_judge 14 = .ok (.iload_n 1, 1) := by decide +kernel
theorem d_Vol_judge_15 : decode b_Vol_judge 15 = .ok (.invokevirtual 275, 3) := by decide +kernel
theorem d_Vol_judge_18 : decode b_Vol_judge 18 = .ok (.istore_n 2, 1) := by decide +kernel
theorem d_Vol_judge_19 : decode b_Vol_judge 19 = .ok (.aload_n 0, 1) := by decide +kernel
theorem d_Vol_judge_20 : decode b_Vol_judge 20 = .ok (.getfield 43, 3) := by decide +kernel
theorem d_Vol_judge_23 : decode b_Vol_judge 23 = .ok (.invokevirtual 81, 3) := by decide +kernel
theorem d_Vol_judge_26 : decode b_Vol_judge 26 = .ok (.iload_n 2, 1) := by decide +kernel
theorem d_Vol_judge_27 : decode b_Vol_judge 27 = .ok (.ireturn, 1) := by decide +kernel
def m_Vol_judge (x1 : Int) (npl : Int → Int) (rmn : Int) (rnu : Int → Int) (rf : Int → Int) : Option (Int × Int × (Int → Int)) :=
  bnd (m_Vol_isFile x1) (fun r1 => ceq r1 0 (bnd (m_Vol_refuse (-1) rf) (fun r7 => some (r7.1, rmn, r7.2))) (bnd (m_Vol_firstWrongPlace x1 npl rmn rnu) (fun r3 => bnd (m_Row_empty_W32 rmn) (fun r5 => some (r3, r5, rf)))))
set_option maxHeartbeats 4000000 in
set_option maxRecDepth 100000 in
theorem c_Vol_judge (l : Launch) (D : va_G) (cI cB : ClassId) (a0 a1 a2 a3 a4 a5 a6 a7 a8 a9 a10 a11 a12 a13 a14 a15 a16 a17 a18 a19 a20 a21 a22 a23 a24 a25 a26 a27 a28 a29 a30 a31 a32 a33 a34 a35 a36 a37 : Nat) (ik : Int) (now : Int → Int) (nbt : Int → Int) (nki : Int → Int) (npl : Int → Int) (nva : Int → Int) (nwr : Int → Int) (nrm : Int) (nrs : Int → Int) (nrz : Int → Int) (kow : Int → Int) (kbt : Int → Int) (kki : Int → Int) (kpl : Int → Int) (kva : Int → Int) (kwr : Int → Int) (krm : Int) (krs : Int → Int) (krz : Int → Int) (tow : Int → Int) (tbt : Int → Int) (tki : Int → Int) (tpl : Int → Int) (tva : Int → Int) (twr : Int → Int) (trm : Int) (trs : Int → Int) (trz : Int → Int) (seed : Int) (smn : Int) (snu : Int → Int) (rmn : Int) (rnu : Int → Int) (rf : Int → Int) (x1 : Int) {o : Int × Int × (Int → Int)} (h : m_Vol_judge x1 npl rmn rnu rf = some o) : Ct l D cI cB y_Vol_judge b_Vol_judge 3 (some .int) { frames := 2, cells := 0, slots := 0, locals := 46 } [.ref a0, .int (zi x1)] (w_Vol cI cB a0 a1 a2 a3 a4 a5 a6 a7 a8 a9 a10 a11 a12 a13 a14 a15 a16 a17 a18 a19 a20 a21 a22 a23 a24 a25 a26 a27 a28 a29 a30 a31 a32 a33 a34 a35 a36 a37 ik now nbt nki npl nva nwr nrm nrs nrz kow kbt kki kpl kva kwr krm krs krz tow tbt tki tpl tva twr trm trs trz seed smn snu rmn rnu rf) (w_Vol cI cB a0 a1 a2 a3 a4 a5 a6 a7 a8 a9 a10 a11 a12 a13 a14 a15 a16 a17 a18 a19 a20 a21 a22 a23 a24 a25 a26 a27 a28 a29 a30 a31 a32 a33 a34 a35 a36 a37 ik now nbt nki npl nva nwr nrm nrs nrz kow kbt kki kpl kva kwr krm krs krz tow tbt tki tpl tva twr trm trs trz seed smn snu o.2.1 rnu o.2.2) (some (.int (zi o.1))) := by
  refine Ct.start (by decide) (Nat.le_of_ble_eq_true rfl) (fun G X hR => ?_)
  refine x_ls (ls2 := [(0, .ref a0), (1, .int (zi x1))]) [0, 1] rfl ?_
  unfold m_Vol_judge at h
  refine x_iload_n (pc := 0) X d_Vol_judge_0 1 rfl rfl ?_
  obtain ⟨r1, h2, h⟩ := bnd_e h
  refine x_callS (pc := 1) (As := [.int (zi x1)]) (rest := []) (w2 := (w_Vol cI cB a0 a1 a2 a3 a4 a5 a6 a7 a8 a9 a10 a11 a12 a13 a14 a15 a16 a17 a18 a19 a20 a21 a22 a23 a24 a25 a26 a27 a28 a29 a30 a31 a32 a33 a34 a35 a36 a37 ik now nbt nki npl nva nwr nrm nrs nrz kow kbt kki kpl kva kwr krm krs krz tow tbt tki tpl tva twr trm trs trz seed smn snu rmn rnu rf)) X d_Vol_judge_1 lk_Vol_84 mv_Vol_isFile (c_Vol_isFile l D cI cB x1 h2) ⟨(Nat.le_of_ble_eq_true rfl), (Nat.le_of_ble_eq_true rfl), (Nat.le_of_ble_eq_true rfl), (Nat.le_of_ble_eq_true rfl)⟩ [] rfl rfl rfl (Up.same rfl) rfl rfl (Nat.le_of_ble_eq_true rfl) ?_
  refine x_ifne (pc := 4) (tgt := 13) X d_Vol_judge_4 rfl h (fun h => ?_) (fun h => ?_)
  · skip
    refine x_aload_n (pc := 13) X d_Vol_judge_13 0 rfl rfl ?_
    refine x_iload_n (pc := 14) X d_Vol_judge_14 1 rfl rfl ?_
    obtain ⟨r3, h4, h⟩ := bnd_e h
    refine x_callV (pc := 15) (As := [.int (zi x1)]) (rest := []) (w2 := (w_Vol cI cB a0 a1 a2 a3 a4 a5 a6 a7 a8 a9 a10 a11 a12 a13 a14 a15 a16 a17 a18 a19 a20 a21 a22 a23 a24 a25 a26 a27 a28 a29 a30 a31 a32 a33 a34 a35 a36 a37 ik now nbt nki npl nva nwr nrm nrs nrz kow kbt kki kpl kva kwr krm krs krz tow tbt tki tpl tva twr trm trs trz seed smn snu rmn rnu rf)) X d_Vol_judge_15 lk_Vol_275 mv_Vol_firstWrongPlace (c_Vol_firstWrongPlace l D cI cB a0 a1 a2 a3 a4 a5 a6 a7 a8 a9 a10 a11 a12 a13 a14 a15 a16 a17 a18 a19 a20 a21 a22 a23 a24 a25 a26 a27 a28 a29 a30 a31 a32 a33 a34 a35 a36 a37 ik now nbt nki npl nva nwr nrm nrs nrz kow kbt kki kpl kva kwr krm krs krz tow tbt tki tpl tva twr trm trs trz seed smn snu rmn rnu rf x1 h4) ⟨(Nat.le_of_ble_eq_true rfl), (Nat.le_of_ble_eq_true rfl), (Nat.le_of_ble_eq_true rfl), (Nat.le_of_ble_eq_true rfl)⟩ 0 rfl rfl [0, 1, 2, 3, 4, 5, 6, 7, 8, 9, 10, 11, 12, 13, 14, 15, 16, 17, 18, 19, 20, 21, 22, 23, 24, 25, 26, 27, 28, 29, 30, 31, 32, 33, 34, 35, 36, 37] rfl rfl rfl (Up.same rfl) rfl rfl (Nat.le_of_ble_eq_true rfl) ?_
    refine x_istore_n (pc := 18) (ls2 := [(2, .int (zi r3)), (0, .ref a0), (1, .int (zi x1))]) X d_Vol_judge_18 rfl (Nat.le_of_ble_eq_true rfl) rfl ?_
    refine x_aload_n (pc := 19) X d_Vol_judge_19 1 rfl rfl ?_
    refine x_get (pc := 20) X d_Vol_judge_20 0 rfl fl_Vol_43 rfl ?_
    obtain ⟨r5, h6, h⟩ := bnd_e h
    refine x_callV (pc := 23) (As := []) (rest := []) (w2 := (w_Vol cI cB a0 a1 a2 a3 a4 a5 a6 a7 a8 a9 a10 a11 a12 a13 a14 a15 a16 a17 a18 a19 a20 a21 a22 a23 a24 a25 a26 a27 a28 a29 a30 a31 a32 a33 a34 a35 a36 a37 ik now nbt nki npl nva nwr nrm nrs nrz kow kbt kki kpl kva kwr krm krs krz tow tbt tki tpl tva twr trm trs trz seed smn snu r5 rnu rf)) X d_Vol_judge_23 lk_Vol_81 mv_Row_empty (c_Row_empty_W32 l D cI cB a35 a36 rmn rnu h6) ⟨(Nat.le_of_ble_eq_true rfl), (Nat.le_of_ble_eq_true rfl), (Nat.le_of_ble_eq_true rfl), (Nat.le_of_ble_eq_true rfl)⟩ 35 rfl rfl [35, 36] rfl rfl rfl (Up.of [0, 1, 2, 3, 4, 5, 6, 7, 8, 9, 10, 11, 12, 13, 14, 15, 16, 17, 18, 19, 20, 21, 22, 23, 24, 25, 26, 27, 28, 29, 30, 31, 32, 33, 34, 37] [(a0, .inr (5, [.ref a1, .ref a11, .ref a21, .ref a31, .ref a32, .ref a35, .ref a37, .int (zi ik)])), (a1, .inr (0, [.ref a2, .ref a3, .ref a4, .ref a5, .ref a6, .ref a7, .ref a8])), (a2, zA cI 64 now), (a3, zA cI 64 nbt), (a4, zA cI 4 nki), (a5, zA cI 96 npl), (a6, zA cI 96 nva), (a7, zA cB 96 nwr), (a8, .inr (3, [.ref a9, .ref a10, .int (zi nrm)])), (a9, zA cI 32 nrs), (a10, zA cI 32 nrz), (a11, .inr (0, [.ref a12, .ref a13, .ref a14, .ref a15, .ref a16, .ref a17, .ref a18])), (a12, zA cI 64 kow), (a13, zA cI 64 kbt), (a14, zA cI 4 kki), (a15, zA cI 96 kpl), (a16, zA cI 96 kva), (a17, zA cB 96 kwr), (a18, .inr (3, [.ref a19, .ref a20, .int (zi krm)])), (a19, zA cI 32 krs), (a20, zA cI 32 krz), (a21, .inr (0, [.ref a22, .ref a23, .ref a24, .ref a25, .ref a26, .ref a27, .ref a28])), (a22, zA cI 64 tow), (a23, zA cI 64 tbt), (a24, zA cI 4 tki), (a25, zA cI 96 tpl), (a26, zA cI 96 tva), (a27, zA cB 96 twr), (a28, .inr (3, [.ref a29, .ref a30, .int (zi trm)])), (a29, zA cI 32 trs), (a30, zA cI 32 trz), (a31, .inr (1, [.ref a1, .ref a21, .int (zi seed)])), (a32, .inr (4, [.ref a33])), (a33, .inr (2, [.ref a34, .int (zi smn)])), (a34, zA cI 96 snu), (a37, zA cI 7 rf)] rfl rfl rfl 38 rfl (by decide +kernel)) rfl rfl (Nat.le_of_ble_eq_true rfl) ?_
    refine x_iload_n (pc := 26) X d_Vol_judge_26 0 rfl rfl ?_
    cases h
    exact x_iret (pc := 27) X hR d_Vol_judge_27
  · skip
    refine x_aload_n (pc := 7) X d_Vol_judge_7 0 rfl rfl ?_
    refine x_iconst (pc := 8) X d_Vol_judge_8  ?_
    obtain ⟨r7, h8, h⟩ := bnd_e h
    refine x_callV (pc := 9) (As := [.int (zi (-1))]) (rest := []) (w2 := (w_Vol cI cB a0 a1 a2 a3 a4 a5 a6 a7 a8 a9 a10 a11 a12 a13 a14 a15 a16 a17 a18 a19 a20 a21 a22 a23 a24 a25 a26 a27 a28 a29 a30 a31 a32 a33 a34 a35 a36 a37 ik now nbt nki npl nva nwr nrm nrs nrz kow kbt kki kpl kva kwr krm krs krz tow tbt tki tpl tva twr trm trs trz seed smn snu rmn rnu r7.2)) X d_Vol_judge_9 lk_Vol_55 mv_Vol_refuse (c_Vol_refuse l D cI cB a0 a1 a2 a3 a4 a5 a6 a7 a8 a9 a10 a11 a12 a13 a14 a15 a16 a17 a18 a19 a20 a21 a22 a23 a24 a25 a26 a27 a28 a29 a30 a31 a32 a33 a34 a35 a36 a37 ik now nbt nki npl nva nwr nrm nrs nrz kow kbt kki kpl kva kwr krm krs krz tow tbt tki tpl tva twr trm trs trz seed smn snu rmn rnu rf (-1) h8) ⟨(Nat.le_of_ble_eq_true rfl), (Nat.le_of_ble_eq_true rfl), (Nat.le_of_ble_eq_true rfl), (Nat.le_of_ble_eq_true rfl)⟩ 0 rfl rfl [0, 1, 2, 3, 4, 5, 6, 7, 8, 9, 10, 11, 12, 13, 14, 15, 16, 17, 18, 19, 20, 21, 22, 23, 24, 25, 26, 27, 28, 29, 30, 31, 32, 33, 34, 35, 36, 37] rfl rfl rfl (Up.of [] [] rfl rfl rfl 38 rfl (by decide +kernel)) rfl rfl (Nat.le_of_ble_eq_true rfl) ?_
    cases h
    exact x_iret (pc := 12) X hR d_Vol_judge_12
theorem d_Vol_firstWrongRun_0 : decode b_Vol_firstWrongRun 0 = .ok (.aload_n 0, 1) := by decide +kernel
theorem d_Vol_firstWrongRun_1 : decode b_Vol_firstWrongRun 1 = .ok (.getfield 10, 3) := by decide +kernel
theorem d_Vol_firstWrongRun_4 : decode b_Vol_firstWrongRun 4 = .ok (.invokevirtual 156, 3) := by decide +kernel
theorem d_Vol_firstWrongRun_7 : decode b_Vol_firstWrongRun 7 = .ok (.astore_n 1, 1) := by decide +kernel
theorem d_Vol_firstWrongRun_8 : decode b_Vol_firstWrongRun 8 = .ok (.aload_n 0, 1) := by decide +kernel
theorem d_Vol_firstWrongRun_9 : decode b_Vol_firstWrongRun 9 = .ok (.getfield 43, 3) := by decide +kernel
theorem d_Vol_firstWrongRun_12 : decode b_Vol_firstWrongRun 12 = .ok (.getfield 270, 3) := by decide +kernel
theorem d_Vol_firstWrongRun_15 : decode b_Vol_firstWrongRun 15 = .ok (.iconst 2, 1) := by decide +kernel
theorem d_Vol_firstWrongRun_16 : decode b_Vol_firstWrongRun 16 = .ok (.idiv, 1) := by decide +kernel
theorem d_Vol_firstWrongRun_17 : decode b_Vol_firstWrongRun 17 = .ok (.istore_n 2, 1) := by decide +kernel
theorem d_Vol_firstWrongRun_18 : decode b_Vol_firstWrongRun 18 = .ok (.iconst 0, 1) := by decide +kernel
theorem d_Vol_firstWrongRun_19 : decode b_Vol_firstWrongRun 19 = .ok (.istore_n 3, 1) := by decide +kernel
theorem d_Vol_firstWrongRun_20 : decode b_Vol_firstWrongRun 20 = .ok (.iload_n 3, 1) := by decide +kernel
theorem d_Vol_firstWrongRun_21 : decode b_Vol_firstWrongRun 21 = .ok (.iload_n 2, 1) := by decide +kernel
theorem d_Vol_firstWrongRun_22 : decode b_Vol_firstWrongRun 22 = .ok (.aload_n 1, 1) := by decide +kernel
theorem d_Vol_firstWrongRun_23 : decode b_Vol_firstWrongRun 23 = .ok (.getfield 160, 3) := by decide +kernel
theorem d_Vol_firstWrongRun_26 : decode b_Vol_firstWrongRun 26 = .ok (.invokestatic 243, 3) := by decide +kernel
theorem d_Vol_firstWrongRun_29 : decode b_Vol_firstWrongRun 29 = .ok (.if_icmp .ge 61, 3) := by decide +kernel
theorem d_Vol_firstWrongRun_32 : decode b_Vol_firstWrongRun 32 = .ok (.aload_n 0, 1) := by decide +kernel
theorem d_Vol_firstWrongRun_33 : decode b_Vol_firstWrongRun 33 = .ok (.getfield 43, 3) := by decide +kernel
theorem d_Vol_firstWrongRun_36 : decode b_Vol_firstWrongRun 36 = .ok (.iconst 2, 1) := by decide +kernel
theorem d_Vol_firstWrongRun_37 : decode b_Vol_firstWrongRun 37 = .ok (.iload_n 3, 1) := by decide +kernel
theorem d_Vol_firstWrongRun_38 : decode b_Vol_firstWrongRun 38 = .ok (.imul, 1) := by decide +kernel
theorem d_Vol_firstWrongRun_39 : decode b_Vol_firstWrongRun 39 = .ok (.invokevirtual 291, 3) := by decide +kernel
theorem d_Vol_firstWrongRun_42 : decode b_Vol_firstWrongRun 42 = .ok (.aload_n 1, 1) := by decide +kernel
theorem d_Vol_firstWrongRun_43 : decode b_Vol_firstWrongRun 43 = .ok (.iload_n 3, 1) := by decide +kernel
theorem d_Vol_firstWrongRun_44 : decode b_Vol_firstWrongRun 44 = .ok (.invokevirtual 169, 3) := by decide +kernel
theorem d_Vol_firstWrongRun_47 : decode b_Vol_firstWrongRun 47 = .ok (.if_icmp .ne 27, 3) := by decide +kernel
theorem d_Vol_firstWrongRun_50 : decode b_Vol_firstWrongRun 50 = .ok (.aload_n 0, 1) := by decide +kernel
theorem d_Vol_firstWrongRun_51 : decode b_Vol_firstWrongRun 51 = .ok (.getfield 43, 3) := by decide +kernel
theorem d_Vol_firstWrongRun_54 : decode b_Vol_firstWrongRun 54 = .ok (.iconst 2, 1) := by decide +kernel
theorem d_Vol_firstWrongRun_55 : decode b_Vol_firstWrongRun 55 = .ok (.iload_n 3, 1) := by decide +kernel
theorem d_Vol_firstWrongRun_56 : decode b_Vol_firstWrongRun 56 = .ok (.imul, 1) := by decide +kernel
theorem d_Vol_firstWrongRun_57 : decode b_Vol_firstWrongRun 57 = .ok (.iconst 1, 1) := by decide +kernel
theorem d_Vol_firstWrongRun_58 : decode b_Vol_firstWrongRun 58 = .ok (.iadd, 1) := by decide +kernel
theorem d_Vol_firstWrongRun_59 : decode b_Vol_firstWrongRun 59 = .ok (.invokevirtual 291, 3) := by decide +kernel
theorem d_Vol_firstWrongRun_62 : decode b_Vol_firstWrongRun 62 = .ok (.aload_n 1, 1) := by decide +kernel
theorem d_Vol_firstWrongRun_63 : decode b_Vol_firstWrongRun 63 = .ok (.iload_n 3, 1) := by decide +kernel
theorem d_Vol_firstWrongRun_64 : decode b_Vol_firstWrongRun 64 = .ok (.invokevirtual 172, 3) := by decide +kernel
theorem d_Vol_firstWrongRun_67 : decode b_Vol_firstWrongRun 67 = .ok (.if_icmp .ne 7, 3) := by decide +kernel
theorem d_Vol_firstWrongRun_70 : decode b_Vol_firstWrongRun 70 = .ok (.iconst 1, 1) := by decide +kernel
theorem d_Vol_firstWrongRun_71 : decode b_Vol_firstWrongRun 71 = .ok (.goto 4, 3) := by decide +kernel
theorem d_Vol_firstWrongRun_74 : decode b_Vol_firstWrongRun 74 = .ok (.iconst 0, 1) := by decide +kernel
theorem d_Vol_firstWrongRun_75 : decode b_Vol_firstWrongRun 75 = .ok (.istore 4, 2) := by decide +kernel
theorem d_Vol_firstWrongRun_77 : decode b_Vol_firstWrongRun 77 = .ok (.iload 4, 2) := by decide +kernel
theorem d_Vol_firstWrongRun_79 : decode b_Vol_firstWrongRun 79 = .ok (.ifCond .ne 5, 3) := by decide +kernel
theorem d_Vol_firstWrongRun_82 : decode b_Vol_firstWrongRun 82 = .ok (.iload_n 3, 1) := by decide +kernel
theorem d_Vol_firstWrongRun_83 : decode b_Vol_firstWrongRun 83 = .ok (.ireturn, 1) := by decide +kernel
theorem d_Vol_firstWrongRun_84 : decode b_Vol_firstWrongRun 84 = .ok (.iinc 3 1, 3) := by decide +kernel
theorem d_Vol_firstWrongRun_87 : decode b_Vol_firstWrongRun 87 = .ok (.goto (-67), 3) := by decide +kernel
theorem d_Vol_firstWrongRun_90 : decode b_Vol_firstWrongRun 90 = .ok (.iload_n 2, 1) := by decide +kernel
theorem d_Vol_firstWrongRun_91 : decode b_Vol_firstWrongRun 91 = .ok (.aload_n 1, 1) := by decide +kernel
theorem d_Vol_firstWrongRun_92 : decode b_Vol_firstWrongRun 92 = .ok (.getfield 160, 3) := by decide +kernel
theorem d_Vol_firstWrongRun_95 : decode b_Vol_firstWrongRun 95 = .ok (.if_icmp .ne 8, 3) := by decide +kernel
theorem d_Vol_firstWrongRun_98 : decode b_Vol_firstWrongRun 98 = .ok (.bipush (-9), 2) := by decide +kernel
theorem d_Vol_firstWrongRun_100 : decode b_Vol_firstWrongRun 100 = .ok (.goto 11, 3) := by decide +kernel
theorem d_Vol_firstWrongRun_103 : decode b_Vol_firstWrongRun 103 = .ok (.iload_n 2, 1) := by decide +kernel
theorem d_Vol_firstWrongRun_104 : decode b_Vol_firstWrongRun 104 = .ok (.aload_n 1, 1) := by decide +kernel
theorem d_Vol_firstWrongRun_105 : decode b_Vol_firstWrongRun 105 = .ok (.getfield 160, 3) := by decide +kernel
theorem d_Vol_firstWrongRun_108 : decode b_Vol_firstWrongRun 108 = .ok (.invokestatic 243, 3) := by decide +kernel
theorem d_Vol_firstWrongRun_111 : decode b_Vol_firstWrongRun 111 = .ok (.ireturn, 1) := by decide +kernel
def m_Vol_firstWrongRun_20 : Nat → Int → Int → (Int → Int) → Int → (Int → Int) → (Int → Int) → Int → (Int → Int) → Option (Int × Int × (Int → Int) × (Int → Int))
  | 0, _, _, _, _, _, _, _, _ => none
  | fuel + 1, v2, v3, now, nrm, nrs, nrz, rmn, rnu =>
  gd (zr v2 ∧ zr nrm) (clt v3 (min v2 nrm) (bnd (m_Row_numberAt_W32 (2 * v3) rmn rnu) (fun r3 => bnd (m_Runs_startAt v3 nrm nrs) (fun r5 => jn (fun (z8 : Int) (z9 : Int) (z10 : Int) (c11 : Int) (c12 : Int → Int) (c13 : Int → Int) => ceq z10 0 (some (z9, c11, c12, c13)) (m_Vol_firstWrongRun_20 fuel z8 (z9 + 1) now c11 c12 c13 rmn rnu)) (fun j7 => jn (fun (z17 : Int) (z18 : Int) (c19 : Int) (c20 : Int → Int) (c21 : Int → Int) => j7 z17 z18 0 c19 c20 c21) (fun j16 => ceq r3 r5 (bnd (m_Row_numberAt_W32 ((2 * v3) + 1) rmn rnu) (fun r24 => bnd (m_Runs_sizeAt v3 nrm nrz) (fun r26 => ceq r24 r26 (j7 v2 v3 1 nrm nrs nrz) (j16 v2 v3 nrm nrs nrz)))) (j16 v2 v3 nrm nrs nrz)))))) (ceq v2 nrm (some ((-9), nrm, nrs, nrz)) (gd (zr v2 ∧ zr nrm) (some ((min v2 nrm), nrm, nrs, nrz)))))
def m_Vol_firstWrongRun  (now : Int → Int) (nrm : Int) (nrs : Int → Int) (nrz : Int → Int) (rmn : Int) (rnu : Int → Int) : Option (Int × Int × (Int → Int) × (Int → Int)) :=
  bnd (m_Disk_lookedAtRuns now nrm nrs nrz) (fun r1 => gd (zx rmn 2147483648 ∧ zp 2 2147483648) (m_Vol_firstWrongRun_20 5000 (rmn / 2) 0 now r1.1 r1.2.1 r1.2.2 rmn rnu))
set_option maxHeartbeats 4000000 in
set_option maxRecDepth 100000 in
theorem l_Vol_firstWrongRun_20 {G : GT} {l : Launch} {D : va_G} {cI cB : ClassId} {a0 a1 a2 a3 a4 a5 a6 a7 a8 a9 a10 a11 a12 a13 a14 a15 a16 a17 a18 a19 a20 a21 a22 a23 a24 a25 a26 a27 a28 a29 a30 a31 a32 a33 a34 a35 a36 a37 : Nat} {ik : Int} {nbt : Int → Int} {nki : Int → Int} {npl : Int → Int} {nva : Int → Int} {nwr : Int → Int} {kow : Int → Int} {kbt : Int → Int} {kki : Int → Int} {kpl : Int → Int} {kva : Int → Int} {kwr : Int → Int} {krm : Int} {krs : Int → Int} {krz : Int → Int} {tow : Int → Int} {tbt : Int → Int} {tki : Int → Int} {tpl : Int → Int} {tva : Int → Int} {twr : Int → Int} {trm : Int} {trs : Int → Int} {trz : Int → Int} {seed : Int} {smn : Int} {snu : Int → Int} {rf : Int → Int} (X : Cx G l D cI cB b_Vol_firstWrongRun y_Vol_firstWrongRun.cls 5 { frames := 3, cells := 0, slots := 0, locals := 65 }) : ∀ (fuel : Nat) (v2 : Int) (v3 : Int) (now : Int → Int) (nrm : Int) (nrs : Int → Int) (nrz : Int → Int) (rmn : Int) (rnu : Int → Int) (o : Int × Int × (Int → Int) × (Int → Int)), m_Vol_firstWrongRun_20 fuel v2 v3 now nrm nrs nrz rmn rnu = some o → Rt G (some .int) (some (.int (zi o.1))) (w_Vol cI cB a0 a1 a2 a3 a4 a5 a6 a7 a8 a9 a10 a11 a12 a13 a14 a15 a16 a17 a18 a19 a20 a21 a22 a23 a24 a25 a26 a27 a28 a29 a30 a31 a32 a33 a34 a35 a36 a37 ik now nbt nki npl nva nwr o.2.1 o.2.2.1 o.2.2.2 kow kbt kki kpl kva kwr krm krs krz tow tbt tki tpl tva twr trm trs trz seed smn snu rmn rnu rf) → Wx G 0 0 20 [(0, .ref a0), (1, .ref a8), (2, .int (zi v2)), (3, .int (zi v3))] [] (w_Vol cI cB a0 a1 a2 a3 a4 a5 a6 a7 a8 a9 a10 a11 a12 a13 a14 a15 a16 a17 a18 a19 a20 a21 a22 a23 a24 a25 a26 a27 a28 a29 a30 a31 a32 a33 a34 a35 a36 a37 ik now nbt nki npl nva nwr nrm nrs nrz kow kbt kki kpl kva kwr krm krs krz tow tbt tki tpl tva twr trm trs trz seed smn snu rmn rnu rf) := by
  intro fuel
  induction fuel with
  | zero =>
    intro v2 v3 now nrm nrs nrz rmn rnu o h
    exact absurd h (by simp [m_Vol_firstWrongRun_20])
  | succ fuel ih =>
    intro v2 v3 now nrm nrs nrz rmn rnu o h hR
    rw [m_Vol_firstWrongRun_20] at h
    refine x_iload_n (pc := 20) X d_Vol_firstWrongRun_20 3 rfl rfl ?_
    refine x_iload_n (pc := 21) X d_Vol_firstWrongRun_21 2 rfl rfl ?_
    refine x_aload_n (pc := 22) X d_Vol_firstWrongRun_22 1 rfl rfl ?_
    refine x_get (pc := 23) X d_Vol_firstWrongRun_23 8 rfl fl_Vol_160 rfl ?_
    refine x_mmin (pc := 26) X d_Vol_firstWrongRun_26 (tm_3 _ (List.mem_of_getElem? (i := 154) rfl)) mm_min ⟨(Nat.le_of_ble_eq_true rfl), (Nat.le_of_ble_eq_true rfl), (Nat.le_of_ble_eq_true rfl), (Nat.le_of_ble_eq_true rfl)⟩ h (fun h => ?_)
    refine x_icmpge (pc := 29) (tgt := 90) X d_Vol_firstWrongRun_29 rfl h (fun h => ?_) (fun h => ?_)
    · skip
      refine x_iload_n (pc := 90) X d_Vol_firstWrongRun_90 2 rfl rfl ?_
      refine x_aload_n (pc := 91) X d_Vol_firstWrongRun_91 1 rfl rfl ?_
      refine x_get (pc := 92) X d_Vol_firstWrongRun_92 8 rfl fl_Vol_160 rfl ?_
      refine x_icmpne (pc := 95) (tgt := 103) X d_Vol_firstWrongRun_95 rfl h (fun h => ?_) (fun h => ?_)
      · skip
        refine x_iload_n (pc := 103) X d_Vol_firstWrongRun_103 2 rfl rfl ?_
        refine x_aload_n (pc := 104) X d_Vol_firstWrongRun_104 1 rfl rfl ?_
        refine x_get (pc := 105) X d_Vol_firstWrongRun_105 8 rfl fl_Vol_160 rfl ?_
        refine x_mmin (pc := 108) X d_Vol_firstWrongRun_108 (tm_3 _ (List.mem_of_getElem? (i := 154) rfl)) mm_min ⟨(Nat.le_of_ble_eq_true rfl), (Nat.le_of_ble_eq_true rfl), (Nat.le_of_ble_eq_true rfl), (Nat.le_of_ble_eq_true rfl)⟩ h (fun h => ?_)
        cases h
        exact x_iret (pc := 111) X hR d_Vol_firstWrongRun_111
      · skip
        refine x_bipush (pc := 98) (v := -9) X d_Vol_firstWrongRun_98 rfl ?_
        refine x_goto (pc := 100) (tgt := 111) X d_Vol_firstWrongRun_100 rfl ?_
        cases h
        exact x_iret (pc := 111) X hR d_Vol_firstWrongRun_111
    · skip
      refine x_aload_n (pc := 32) X d_Vol_firstWrongRun_32 0 rfl rfl ?_
      refine x_get (pc := 33) X d_Vol_firstWrongRun_33 0 rfl fl_Vol_43 rfl ?_
      refine x_iconst (pc := 36) X d_Vol_firstWrongRun_36  ?_
      refine x_iload_n (pc := 37) X d_Vol_firstWrongRun_37 3 rfl rfl ?_
      refine x_imul (pc := 38) X d_Vol_firstWrongRun_38  ?_
      obtain ⟨r3, h4, h⟩ := bnd_e h
      refine x_callV (pc := 39) (As := [.int (zi (2 * v3))]) (rest := []) (w2 := (w_Vol cI cB a0 a1 a2 a3 a4 a5 a6 a7 a8 a9 a10 a11 a12 a13 a14 a15 a16 a17 a18 a19 a20 a21 a22 a23 a24 a25 a26 a27 a28 a29 a30 a31 a32 a33 a34 a35 a36 a37 ik now nbt nki npl nva nwr nrm nrs nrz kow kbt kki kpl kva kwr krm krs krz tow tbt tki tpl tva twr trm trs trz seed smn snu rmn rnu rf)) X d_Vol_firstWrongRun_39 lk_Vol_291 mv_Row_numberAt (c_Row_numberAt_W32 l D cI cB a35 a36 rmn rnu (2 * v3) h4) ⟨(Nat.le_of_ble_eq_true rfl), (Nat.le_of_ble_eq_true rfl), (Nat.le_of_ble_eq_true rfl), (Nat.le_of_ble_eq_true rfl)⟩ 35 rfl rfl [35, 36] rfl rfl rfl (Up.same rfl) rfl rfl (Nat.le_of_ble_eq_true rfl) ?_
      refine x_aload_n (pc := 42) X d_Vol_firstWrongRun_42 1 rfl rfl ?_
      refine x_iload_n (pc := 43) X d_Vol_firstWrongRun_43 3 rfl rfl ?_
      obtain ⟨r5, h6, h⟩ := bnd_e h
      refine x_callV (pc := 44) (As := [.int (zi v3)]) (rest := [.int (zi r3)]) (w2 := (w_Vol cI cB a0 a1 a2 a3 a4 a5 a6 a7 a8 a9 a10 a11 a12 a13 a14 a15 a16 a17 a18 a19 a20 a21 a22 a23 a24 a25 a26 a27 a28 a29 a30 a31 a32 a33 a34 a35 a36 a37 ik now nbt nki npl nva nwr nrm nrs nrz kow kbt kki kpl kva kwr krm krs krz tow tbt tki tpl tva twr trm trs trz seed smn snu rmn rnu rf)) X d_Vol_firstWrongRun_44 lk_Vol_169 mv_Runs_startAt (c_Runs_startAt l D cI cB a8 a9 a10 nrm nrs nrz v3 h6) ⟨(Nat.le_of_ble_eq_true rfl), (Nat.le_of_ble_eq_true rfl), (Nat.le_of_ble_eq_true rfl), (Nat.le_of_ble_eq_true rfl)⟩ 8 rfl rfl [8, 9, 10] rfl rfl rfl (Up.same rfl) rfl rfl (Nat.le_of_ble_eq_true rfl) ?_
      obtain ⟨j7, hj14, h⟩ := jn_e h
      have J15 : ∀ (z8 : Int) (z9 : Int) (z10 : Int) (c11 : Int) (c12 : Int → Int) (c13 : Int → Int), j7 z8 z9 z10 c11 c12 c13 = some o → Wx G 0 0 75 [(0, .ref a0), (1, .ref a8), (2, .int (zi z8)), (3, .int (zi z9))] [.int (zi z10)] (w_Vol cI cB a0 a1 a2 a3 a4 a5 a6 a7 a8 a9 a10 a11 a12 a13 a14 a15 a16 a17 a18 a19 a20 a21 a22 a23 a24 a25 a26 a27 a28 a29 a30 a31 a32 a33 a34 a35 a36 a37 ik now nbt nki npl nva nwr c11 c12 c13 kow kbt kki kpl kva kwr krm krs krz tow tbt tki tpl tva twr trm trs trz seed smn snu rmn rnu rf) := by
        intro z8 z9 z10 c11 c12 c13 h
        rw [hj14] at h
        (try dsimp only at h)
        refine x_istore (pc := 75) (ls2 := [(4, .int (zi z10)), (0, .ref a0), (1, .ref a8), (2, .int (zi z8)), (3, .int (zi z9))]) X d_Vol_firstWrongRun_75 (Nat.le_of_ble_eq_true rfl) rfl ?_
        refine x_iload (pc := 77) X d_Vol_firstWrongRun_77 0 rfl ?_
        refine x_ifne (pc := 79) (tgt := 84) X d_Vol_firstWrongRun_79 rfl h (fun h => ?_) (fun h => ?_)
        · skip
          refine x_iinc (pc := 84) (ls2 := [(3, .int (zi (z9 + 1))), (4, .int (zi z10)), (0, .ref a0), (1, .ref a8), (2, .int (zi z8))]) X d_Vol_firstWrongRun_84 4 (Nat.le_of_ble_eq_true rfl) rfl rfl ?_
          refine x_goto (pc := 87) (tgt := 20) X d_Vol_firstWrongRun_87 rfl ?_
          refine x_ls (ls2 := [(0, .ref a0), (1, .ref a8), (2, .int (zi z8)), (3, .int (zi (z9 + 1)))]) [2, 3, 4, 0] rfl ?_
          exact ih z8 (z9 + 1) now c11 c12 c13 rmn rnu o h hR
        · skip
          refine x_iload_n (pc := 82) X d_Vol_firstWrongRun_82 4 rfl rfl ?_
          cases h
          exact x_iret (pc := 83) X hR d_Vol_firstWrongRun_83
      clear hj14
      obtain ⟨j16, hj22, h⟩ := jn_e h
      have J23 : ∀ (z17 : Int) (z18 : Int) (c19 : Int) (c20 : Int → Int) (c21 : Int → Int), j16 z17 z18 c19 c20 c21 = some o → Wx G 0 0 74 [(0, .ref a0), (1, .ref a8), (2, .int (zi z17)), (3, .int (zi z18))] [] (w_Vol cI cB a0 a1 a2 a3 a4 a5 a6 a7 a8 a9 a10 a11 a12 a13 a14 a15 a16 a17 a18 a19 a20 a21 a22 a23 a24 a25 a26 a27 a28 a29 a30 a31 a32 a33 a34 a35 a36 a37 ik now nbt nki npl nva nwr c19 c20 c21 kow kbt kki kpl kva kwr krm krs krz tow tbt tki tpl tva twr trm trs trz seed smn snu rmn rnu rf) := by
        intro z17 z18 c19 c20 c21 h
        rw [hj22] at h
        (try dsimp only at h)
        refine x_iconst (pc := 74) X d_Vol_firstWrongRun_74  ?_
        exact J15 z17 z18 0 c19 c20 c21 h
      clear hj22
      refine x_icmpne (pc := 47) (tgt := 74) X d_Vol_firstWrongRun_47 rfl h (fun h => ?_) (fun h => ?_)
      · skip
        exact J23 v2 v3 nrm nrs nrz h
      · skip
        refine x_aload_n (pc := 50) X d_Vol_firstWrongRun_50 0 rfl rfl ?_
        refine x_get (pc := 51) X d_Vol_firstWrongRun_51 0 rfl fl_Vol_43 rfl ?_
        refine x_iconst (pc := 54) X d_Vol_firstWrongRun_54  ?_
        refine x_iload_n (pc := 55) X d_Vol_firstWrongRun_55 3 rfl rfl ?_
        refine x_imul (pc := 56) X d_Vol_firstWrongRun_56  ?_
        refine x_iconst (pc := 57) X d_Vol_firstWrongRun_57  ?_
        refine x_iadd (pc := 58) X d_Vol_firstWrongRun_58  ?_
        obtain ⟨r24, h25, h⟩ := bnd_e h
        refine x_callV (pc := 59) (As := [.int (zi ((2 * v3) + 1))]) (rest := []) (w2 := (w_Vol cI cB a0 a1 a2 a3 a4 a5 a6 a7 a8 a9 a10 a11 a12 a13 a14 a15 a16 a17 a18 a19 a20 a21 a22 a23 a24 a25 a26 a27 a28 a29 a30 a31 a32 a33 a34 a35 a36 a37 ik now nbt nki npl nva nwr nrm nrs nrz kow kbt kki kpl kva kwr krm krs krz tow tbt tki tpl tva twr trm trs trz seed smn snu rmn rnu rf)) X d_Vol_firstWrongRun_59 lk_Vol_291 mv_Row_numberAt (c_Row_numberAt_W32 l D cI cB a35 a36 rmn rnu ((2 * v3) + 1) h25) ⟨(Nat.le_of_ble_eq_true rfl), (Nat.le_of_ble_eq_true rfl), (Nat.le_of_ble_eq_true rfl), (Nat.le_of_ble_eq_true rfl)⟩ 35 rfl rfl [35, 36] rfl rfl rfl (Up.same rfl) rfl rfl (Nat.le_of_ble_eq_true rfl) ?_
        refine x_aload_n (pc := 62) X d_Vol_firstWrongRun_62 1 rfl rfl ?_
        refine x_iload_n (pc := 63) X d_Vol_firstWrongRun_63 3 rfl rfl ?_
        obtain ⟨r26, h27, h⟩ := bnd_e h
        refine x_callV (pc := 64) (As := [.int (zi v3)]) (rest := [.int (zi r24)]) (w2 := (w_Vol cI cB a0 a1 a2 a3 a4 a5 a6 a7 a8 a9 a10 a11 a12 a13 a14 a15 a16 a17 a18 a19 a20 a21 a22 a23 a24 a25 a26 a27 a28 a29 a30 a31 a32 a33 a34 a35 a36 a37 ik now nbt nki npl nva nwr nrm nrs nrz kow kbt kki kpl kva kwr krm krs krz tow tbt tki tpl tva twr trm trs trz seed smn snu rmn rnu rf)) X d_Vol_firstWrongRun_64 lk_Vol_172 mv_Runs_sizeAt (c_Runs_sizeAt l D cI cB a8 a9 a10 nrm nrs nrz v3 h27) ⟨(Nat.le_of_ble_eq_true rfl), (Nat.le_of_ble_eq_true rfl), (Nat.le_of_ble_eq_true rfl), (Nat.le_of_ble_eq_true rfl)⟩ 8 rfl rfl [8, 9, 10] rfl rfl rfl (Up.same rfl) rfl rfl (Nat.le_of_ble_eq_true rfl) ?_
        refine x_icmpne (pc := 67) (tgt := 74) X d_Vol_firstWrongRun_67 rfl h (fun h => ?_) (fun h => ?_)
        · skip
          exact J23 v2 v3 nrm nrs nrz h
        · skip
          refine x_iconst (pc := 70) X d_Vol_firstWrongRun_70  ?_
          refine x_goto (pc := 71) (tgt := 75) X d_Vol_firstWrongRun_71 rfl ?_
          exact J15 v2 v3 1 nrm nrs nrz h
set_option maxHeartbeats 4000000 in
set_option maxRecDepth 100000 in
theorem c_Vol_firstWrongRun (l : Launch) (D : va_G) (cI cB : ClassId) (a0 a1 a2 a3 a4 a5 a6 a7 a8 a9 a10 a11 a12 a13 a14 a15 a16 a17 a18 a19 a20 a21 a22 a23 a24 a25 a26 a27 a28 a29 a30 a31 a32 a33 a34 a35 a36 a37 : Nat) (ik : Int) (now : Int → Int) (nbt : Int → Int) (nki : Int → Int) (npl : Int → Int) (nva : Int → Int) (nwr : Int → Int) (nrm : Int) (nrs : Int → Int) (nrz : Int → Int) (kow : Int → Int) (kbt : Int → Int) (kki : Int → Int) (kpl : Int → Int) (kva : Int → Int) (kwr : Int → Int) (krm : Int) (krs : Int → Int) (krz : Int → Int) (tow : Int → Int) (tbt : Int → Int) (tki : Int → Int) (tpl : Int → Int) (tva : Int → Int) (twr : Int → Int) (trm : Int) (trs : Int → Int) (trz : Int → Int) (seed : Int) (smn : Int) (snu : Int → Int) (rmn : Int) (rnu : Int → Int) (rf : Int → Int)  {o : Int × Int × (Int → Int) × (Int → Int)} (h : m_Vol_firstWrongRun now nrm nrs nrz rmn rnu = some o) : Ct l D cI cB y_Vol_firstWrongRun b_Vol_firstWrongRun 5 (some .int) { frames := 3, cells := 0, slots := 0, locals := 65 } [.ref a0] (w_Vol cI cB a0 a1 a2 a3 a4 a5 a6 a7 a8 a9 a10 a11 a12 a13 a14 a15 a16 a17 a18 a19 a20 a21 a22 a23 a24 a25 a26 a27 a28 a29 a30 a31 a32 a33 a34 a35 a36 a37 ik now nbt nki npl nva nwr nrm nrs nrz kow kbt kki kpl kva kwr krm krs krz tow tbt tki tpl tva twr trm trs trz seed smn snu rmn rnu rf) (w_Vol cI cB a0 a1 a2 a3 a4 a5 a6 a7 a8 a9 a10 a11 a12 a13 a14 a15 a16 a17 a18 a19 a20 a21 a22 a23 a24 a25 a26 a27 a28 a29 a30 a31 a32 a33 a34 a35 a36 a37 ik now nbt nki npl nva nwr o.2.1 o.2.2.1 o.2.2.2 kow kbt kki kpl kva kwr krm krs krz tow tbt tki tpl tva twr trm trs trz seed smn snu rmn rnu rf) (some (.int (zi o.1))) := by
  refine Ct.start (by decide) (Nat.le_of_ble_eq_true rfl) (fun G X hR => ?_)
  refine x_ls (ls2 := [(0, .ref a0)]) [0] rfl ?_
  unfold m_Vol_firstWrongRun at h
  refine x_aload_n (pc := 0) X d_Vol_firstWrongRun_0 0 rfl rfl ?_
  refine x_get (pc := 1) X d_Vol_firstWrongRun_1 0 rfl fl_Vol_10 rfl ?_
  obtain ⟨r1, h2, h⟩ := bnd_e h
  refine x_callV (pc := 4) (As := []) (rest := []) (w2 := (w_Vol cI cB a0 a1 a2 a3 a4 a5 a6 a7 a8 a9 a10 a11 a12 a13 a14 a15 a16 a17 a18 a19 a20 a21 a22 a23 a24 a25 a26 a27 a28 a29 a30 a31 a32 a33 a34 a35 a36 a37 ik now nbt nki npl nva nwr r1.1 r1.2.1 r1.2.2 kow kbt kki kpl kva kwr krm krs krz tow tbt tki tpl tva twr trm trs trz seed smn snu rmn rnu rf)) X d_Vol_firstWrongRun_4 lk_Vol_156 mv_Disk_lookedAtRuns (c_Disk_lookedAtRuns l D cI cB a1 a2 a3 a4 a5 a6 a7 a8 a9 a10 now nbt nki npl nva nwr nrm nrs nrz h2) ⟨(Nat.le_of_ble_eq_true rfl), (Nat.le_of_ble_eq_true rfl), (Nat.le_of_ble_eq_true rfl), (Nat.le_of_ble_eq_true rfl)⟩ 1 rfl rfl [1, 2, 3, 4, 5, 6, 7, 8, 9, 10] rfl rfl rfl (Up.of [0, 11, 12, 13, 14, 15, 16, 17, 18, 19, 20, 21, 22, 23, 24, 25, 26, 27, 28, 29, 30, 31, 32, 33, 34, 35, 36, 37] [(a0, .inr (5, [.ref a1, .ref a11, .ref a21, .ref a31, .ref a32, .ref a35, .ref a37, .int (zi ik)])), (a11, .inr (0, [.ref a12, .ref a13, .ref a14, .ref a15, .ref a16, .ref a17, .ref a18])), (a12, zA cI 64 kow), (a13, zA cI 64 kbt), (a14, zA cI 4 kki), (a15, zA cI 96 kpl), (a16, zA cI 96 kva), (a17, zA cB 96 kwr), (a18, .inr (3, [.ref a19, .ref a20, .int (zi krm)])), (a19, zA cI 32 krs), (a20, zA cI 32 krz), (a21, .inr (0, [.ref a22, .ref a23, .ref a24, .ref a25, .ref a26, .ref a27, .ref a28])), (a22, zA cI 64 tow), (a23, zA cI 64 tbt), (a24, zA cI 4 tki), (a25, zA cI 96 tpl), (a26, zA cI 96 tva), (a27, zA cB 96 twr), (a28, .inr (3, [.ref a29, .ref a30, .int (zi trm)])), (a29, zA cI 32 trs), (a30, zA cI 32 trz), (a31, .inr (1, [.ref a1, .ref a21, .int (zi seed)])), (a32, .inr (4, [.ref a33])), (a33, .inr (2, [.ref a34, .int (zi smn)])), (a34, zA cI 96 snu), (a35, .inr (2, [.ref a36, .int (zi rmn)])), (a36, zA cI 32 rnu), (a37, zA cI 7 rf)] rfl rfl rfl 38 rfl (by decide +kernel)) rfl rfl (Nat.le_of_ble_eq_true rfl) ?_
  refine x_astore_n (pc := 7) (ls2 := [(1, .ref a8), (0, .ref a0)]) X d_Vol_firstWrongRun_7 rfl (Nat.le_of_ble_eq_true rfl) rfl ?_
  refine x_aload_n (pc := 8) X d_Vol_firstWrongRun_8 1 rfl rfl ?_
  refine x_get (pc := 9) X d_Vol_firstWrongRun_9 0 rfl fl_Vol_43 rfl ?_
  refine x_get (pc := 12) X d_Vol_firstWrongRun_12 35 rfl fl_Vol_270 rfl ?_
  refine x_iconst (pc := 15) X d_Vol_firstWrongRun_15  ?_
  refine x_idiv (pc := 16) X d_Vol_firstWrongRun_16 h (fun h => ?_)
  refine x_istore_n (pc := 17) (ls2 := [(2, .int (zi (rmn / 2))), (1, .ref a8), (0, .ref a0)]) X d_Vol_firstWrongRun_17 rfl (Nat.le_of_ble_eq_true rfl) rfl ?_
  refine x_iconst (pc := 18) X d_Vol_firstWrongRun_18  ?_
  refine x_istore_n (pc := 19) (ls2 := [(3, .int (zi 0)), (2, .int (zi (rmn / 2))), (1, .ref a8), (0, .ref a0)]) X d_Vol_firstWrongRun_19 rfl (Nat.le_of_ble_eq_true rfl) rfl ?_
  refine x_ls (ls2 := [(0, .ref a0), (1, .ref a8), (2, .int (zi (rmn / 2))), (3, .int (zi 0))]) [3, 2, 1, 0] rfl ?_
  exact l_Vol_firstWrongRun_20 X 5000 (rmn / 2) 0 now r1.1 r1.2.1 r1.2.2 rmn rnu o h hR
theorem d_Vol_forged_0 : decode b_Vol_forged 0 = .ok (.aload_n 0, 1) := by decide +kernel
theorem d_Vol_forged_1 : decode b_Vol_forged 1 = .ok (.getfield 43, 3) := by decide +kernel
theorem d_Vol_forged_4 : decode b_Vol_forged 4 = .ok (.getfield 270, 3) := by decide +kernel
theorem d_Vol_forged_7 : decode b_Vol_forged 7 = .ok (.iconst 2, 1) := by decide +kernel
theorem d_Vol_forged_8 : decode b_Vol_forged 8 = .ok (.irem, 1) := by decide +kernel
theorem d_Vol_forged_9 : decode b_Vol_forged 9 = .ok (.ifCond .eq 10, 3) := by decide +kernel
theorem d_Vol_forged_12 : decode b_Vol_forged 12 = .ok (.aload_n 0, 1) := by decide +kernel
theorem d_Vol_forged_13 : decode b_Vol_forged 13 = .ok (.bipush (-3), 2) := by decide +kernel
theorem d_Vol_forged_15 : decode b_Vol_forged 15 = .ok (.invokevirtual 55, 3) := by decide +kernel
theorem d_Vol_forged_18 : decode b_Vol_forged 18 = .ok (.ireturn, 1) := by decide +kernel
theorem d_Vol_forged_19 : decode b_Vol_forged 19 = .ok (.aload_n 0, 1) := by decide +kernel
theorem d_Vol_forged_20 : decode b_Vol_forged 20 = .ok (.invokevirtual 278, 3) := by decide +kernel
theorem d_Vol_forged_23 : decode b_Vol_forged 23 = .ok (.istore_n 1, 1) := by decide +kernel
theorem d_Vol_forged_24 : decode b_Vol_forged 24 = .ok (.aload_n 0, 1) := by decide +kernel
theorem d_Vol_forged_25 : decode b_Vol_forged 25 = .ok (.getfield 43, 3) := by decide +kernel
theorem d_Vol_forged_28 : decode b_Vol_forged 28 = .ok (.invokevirtual 81, 3) := by decide +kernel
theorem d_Vol_forged_31 : decode b_Vol_forged 31 = .ok (.iload_n 1, 1) := by decide +kernel
theorem d_Vol_forged_32 : decode b_Vol_forged 32 = .ok (.ireturn, 1) := by decide +kernel
def m_Vol_forged  (now : Int → Int) (nrm : Int) (nrs : Int → Int) (nrz : Int → Int) (rmn : Int) (rnu : Int → Int) (rf : Int → Int) : Option (Int × Int × (Int → Int) × (Int → Int) × Int × (Int → Int)) :=
  gd (zx rmn 2147483648 ∧ zp 2 2147483648) (ceq (rmn % 2) 0 (bnd (m_Vol_firstWrongRun now nrm nrs nrz rmn rnu) (fun r1 => bnd (m_Row_empty_W32 rmn) (fun r3 => some (r1.1, r1.2.1, r1.2.2.1, r1.2.2.2, r3, rf)))) (bnd (m_Vol_refuse (-3) rf) (fun r5 => some (r5.1, nrm, nrs, nrz, rmn, r5.2))))
set_option maxHeartbeats 4000000 in
set_option maxRecDepth 100000 in
theorem c_Vol_forged (l : Launch) (D : va_G) (cI cB : ClassId) (a0 a1 a2 a3 a4 a5 a6 a7 a8 a9 a10 a11 a12 a13 a14 a15 a16 a17 a18 a19 a20 a21 a22 a23 a24 a25 a26 a27 a28 a29 a30 a31 a32 a33 a34 a35 a36 a37 : Nat) (ik : Int) (now : Int → Int) (nbt : Int → Int) (nki : Int → Int) (npl : Int → Int) (nva : Int → Int) (nwr : Int → Int) (nrm : Int) (nrs : Int → Int) (nrz : Int → Int) (kow : Int → Int) (kbt : Int → Int) (kki : Int → Int) (kpl : Int → Int) (kva : Int → Int) (kwr : Int → Int) (krm : Int) (krs : Int → Int) (krz : Int → Int) (tow : Int → Int) (tbt : Int → Int) (tki : Int → Int) (tpl : Int → Int) (tva : Int → Int) (twr : Int → Int) (trm : Int) (trs : Int → Int) (trz : Int → Int) (seed : Int) (smn : Int) (snu : Int → Int) (rmn : Int) (rnu : Int → Int) (rf : Int → Int)  {o : Int × Int × (Int → Int) × (Int → Int) × Int × (Int → Int)} (h : m_Vol_forged now nrm nrs nrz rmn rnu rf = some o) : Ct l D cI cB y_Vol_forged b_Vol_forged 2 (some .int) { frames := 4, cells := 0, slots := 0, locals := 89 } [.ref a0] (w_Vol cI cB a0 a1 a2 a3 a4 a5 a6 a7 a8 a9 a10 a11 a12 a13 a14 a15 a16 a17 a18 a19 a20 a21 a22 a23 a24 a25 a26 a27 a28 a29 a30 a31 a32 a33 a34 a35 a36 a37 ik now nbt nki npl nva nwr nrm nrs nrz kow kbt kki kpl kva kwr krm krs krz tow tbt tki tpl tva twr trm trs trz seed smn snu rmn rnu rf) (w_Vol cI cB a0 a1 a2 a3 a4 a5 a6 a7 a8 a9 a10 a11 a12 a13 a14 a15 a16 a17 a18 a19 a20 a21 a22 a23 a24 a25 a26 a27 a28 a29 a30 a31 a32 a33 a34 a35 a36 a37 ik now nbt nki npl nva nwr o.2.1 o.2.2.1 o.2.2.2.1 kow kbt kki kpl kva kwr krm krs krz tow tbt tki tpl tva twr trm trs trz seed smn snu o.2.2.2.2.1 rnu o.2.2.2.2.2) (some (.int (zi o.1))) := by
  refine Ct.start (by decide) (Nat.le_of_ble_eq_true rfl) (fun G X hR => ?_)
  refine x_ls (ls2 := [(0, .ref a0)]) [0] rfl ?_
  unfold m_Vol_forged at h
  refine x_aload_n (pc := 0) X d_Vol_forged_0 0 rfl rfl ?_
  refine x_get (pc := 1) X d_Vol_forged_1 0 rfl fl_Vol_43 rfl ?_
  refine x_get (pc := 4) X d_Vol_forged_4 35 rfl fl_Vol_270 rfl ?_
  refine x_iconst (pc := 7) X d_Vol_forged_7  ?_
  refine x_irem (pc := 8) X d_Vol_forged_8 h (fun h => ?_)
  refine x_ifeq (pc := 9) (tgt := 19) X d_Vol_forged_9 rfl h (fun h => ?_) (fun h => ?_)
  · skip
    refine x_aload_n (pc := 19) X d_Vol_forged_19 0 rfl rfl ?_
    obtain ⟨r1, h2, h⟩ := bnd_e h
    refine x_callV (pc := 20) (As := []) (rest := []) (w2 := (w_Vol cI cB a0 a1 a2 a3 a4 a5 a6 a7 a8 a9 a10 a11 a12 a13 a14 a15 a16 a17 a18 a19 a20 a21 a22 a23 a24 a25 a26 a27 a28 a29 a30 a31 a32 a33 a34 a35 a36 a37 ik now nbt nki npl nva nwr r1.2.1 r1.2.2.1 r1.2.2.2 kow kbt kki kpl kva kwr krm krs krz tow tbt tki tpl tva twr trm trs trz seed smn snu rmn rnu rf)) X d_Vol_forged_20 lk_Vol_278 mv_Vol_firstWrongRun (c_Vol_firstWrongRun l D cI cB a0 a1 a2 a3 a4 a5 a6 a7 a8 a9 a10 a11 a12 a13 a14 a15 a16 a17 a18 a19 a20 a21 a22 a23 a24 a25 a26 a27 a28 a29 a30 a31 a32 a33 a34 a35 a36 a37 ik now nbt nki npl nva nwr nrm nrs nrz kow kbt kki kpl kva kwr krm krs krz tow tbt tki tpl tva twr trm trs trz seed smn snu rmn rnu rf h2) ⟨(Nat.le_of_ble_eq_true rfl), (Nat.le_of_ble_eq_true rfl), (Nat.le_of_ble_eq_true rfl), (Nat.le_of_ble_eq_true rfl)⟩ 0 rfl rfl [0, 1, 2, 3, 4, 5, 6, 7, 8, 9, 10, 11, 12, 13, 14, 15, 16, 17, 18, 19, 20, 21, 22, 23, 24, 25, 26, 27, 28, 29, 30, 31, 32, 33, 34, 35, 36, 37] rfl rfl rfl (Up.of [] [] rfl rfl rfl 38 rfl (by decide +kernel)) rfl rfl (Nat.le_of_ble_eq_true rfl) ?_
    refine x_istore_n (pc := 23) (ls2 := [(1, .int (zi r1.1)), (0, .ref a0)]) X d_Vol_forged_23 rfl (Nat.le_of_ble_eq_true rfl) rfl ?_
    refine x_aload_n (pc := 24) X d_Vol_forged_24 1 rfl rfl ?_
    refine x_get (pc := 25) X d_Vol_forged_25 0 rfl fl_Vol_43 rfl ?_
    obtain ⟨r3, h4, h⟩ := bnd_e h
    refine x_callV (pc := 28) (As := []) (rest := []) (w2 := (w_Vol cI cB a0 a1 a2 a3 a4 a5 a6 a7 a8 a9 a10 a11 a12 a13 a14 a15 a16 a17 a18 a19 a20 a21 a22 a23 a24 a25 a26 a27 a28 a29 a30 a31 a32 a33 a34 a35 a36 a37 ik now nbt nki npl nva nwr r1.2.1 r1.2.2.1 r1.2.2.2 kow kbt kki kpl kva kwr krm krs krz tow tbt tki tpl tva twr trm trs trz seed smn snu r3 rnu rf)) X d_Vol_forged_28 lk_Vol_81 mv_Row_empty (c_Row_empty_W32 l D cI cB a35 a36 rmn rnu h4) ⟨(Nat.le_of_ble_eq_true rfl), (Nat.le_of_ble_eq_true rfl), (Nat.le_of_ble_eq_true rfl), (Nat.le_of_ble_eq_true rfl)⟩ 35 rfl rfl [35, 36] rfl rfl rfl (Up.of [0, 1, 2, 3, 4, 5, 6, 7, 8, 9, 10, 11, 12, 13, 14, 15, 16, 17, 18, 19, 20, 21, 22, 23, 24, 25, 26, 27, 28, 29, 30, 31, 32, 33, 34, 37] [(a0, .inr (5, [.ref a1, .ref a11, .ref a21, .ref a31, .ref a32, .ref a35, .ref a37, .int (zi ik)])), (a1, .inr (0, [.ref a2, .ref a3, .ref a4, .ref a5, .ref a6, .ref a7, .ref a8])), (a2, zA cI 64 now), (a3, zA cI 64 nbt), (a4, zA cI 4 nki), (a5, zA cI 96 npl), (a6, zA cI 96 nva), (a7, zA cB 96 nwr), (a8, .inr (3, [.ref a9, .ref a10, .int (zi r1.2.1)])), (a9, zA cI 32 r1.2.2.1), (a10, zA cI 32 r1.2.2.2), (a11, .inr (0, [.ref a12, .ref a13, .ref a14, .ref a15, .ref a16, .ref a17, .ref a18])), (a12, zA cI 64 kow), (a13, zA cI 64 kbt), (a14, zA cI 4 kki), (a15, zA cI 96 kpl), (a16, zA cI 96 kva), (a17, zA cB 96 kwr), (a18, .inr (3, [.ref a19, .ref a20, .int (zi krm)])), (a19, zA cI 32 krs), (a20, zA cI 32 krz), (a21, .inr (0, [.ref a22, .ref a23, .ref a24, .ref a25, .ref a26, .ref a27, .ref a28])), (a22, zA cI 64 tow), (a23, zA cI 64 tbt), (a24, zA cI 4 tki), (a25, zA cI 96 tpl), (a26, zA cI 96 tva), (a27, zA cB 96 twr), (a28, .inr (3, [.ref a29, .ref a30, .int (zi trm)])), (a29, zA cI 32 trs), (a30, zA cI 32 trz), (a31, .inr (1, [.ref a1, .ref a21, .int (zi seed)])), (a32, .inr (4, [.ref a33])), (a33, .inr (2, [.ref a34, .int (zi smn)])), (a34, zA cI 96 snu), (a37, zA cI 7 rf)] rfl rfl rfl 38 rfl (by decide +kernel)) rfl rfl (Nat.le_of_ble_eq_true rfl) ?_
    refine x_iload_n (pc := 31) X d_Vol_forged_31 0 rfl rfl ?_
    cases h
    exact x_iret (pc := 32) X hR d_Vol_forged_32
  · skip
    refine x_aload_n (pc := 12) X d_Vol_forged_12 0 rfl rfl ?_
    refine x_bipush (pc := 13) (v := -3) X d_Vol_forged_13 rfl ?_
    obtain ⟨r5, h6, h⟩ := bnd_e h
    refine x_callV (pc := 15) (As := [.int (zi (-3))]) (rest := []) (w2 := (w_Vol cI cB a0 a1 a2 a3 a4 a5 a6 a7 a8 a9 a10 a11 a12 a13 a14 a15 a16 a17 a18 a19 a20 a21 a22 a23 a24 a25 a26 a27 a28 a29 a30 a31 a32 a33 a34 a35 a36 a37 ik now nbt nki npl nva nwr nrm nrs nrz kow kbt kki kpl kva kwr krm krs krz tow tbt tki tpl tva twr trm trs trz seed smn snu rmn rnu r5.2)) X d_Vol_forged_15 lk_Vol_55 mv_Vol_refuse (c_Vol_refuse l D cI cB a0 a1 a2 a3 a4 a5 a6 a7 a8 a9 a10 a11 a12 a13 a14 a15 a16 a17 a18 a19 a20 a21 a22 a23 a24 a25 a26 a27 a28 a29 a30 a31 a32 a33 a34 a35 a36 a37 ik now nbt nki npl nva nwr nrm nrs nrz kow kbt kki kpl kva kwr krm krs krz tow tbt tki tpl tva twr trm trs trz seed smn snu rmn rnu rf (-3) h6) ⟨(Nat.le_of_ble_eq_true rfl), (Nat.le_of_ble_eq_true rfl), (Nat.le_of_ble_eq_true rfl), (Nat.le_of_ble_eq_true rfl)⟩ 0 rfl rfl [0, 1, 2, 3, 4, 5, 6, 7, 8, 9, 10, 11, 12, 13, 14, 15, 16, 17, 18, 19, 20, 21, 22, 23, 24, 25, 26, 27, 28, 29, 30, 31, 32, 33, 34, 35, 36, 37] rfl rfl rfl (Up.of [] [] rfl rfl rfl 38 rfl (by decide +kernel)) rfl rfl (Nat.le_of_ble_eq_true rfl) ?_
    cases h
    exact x_iret (pc := 18) X hR d_Vol_forged_18
theorem d_Vol_clear_0 : decode b_Vol_clear 0 = .ok (.aload_n 0, 1) := by decide +kernel
theorem d_Vol_clear_1 : decode b_Vol_clear 1 = .ok (.getfield 43, 3) := by decide +kernel
theorem d_Vol_clear_4 : decode b_Vol_clear 4 = .ok (.getfield 270, 3) := by decide +kernel
theorem d_Vol_clear_7 : decode b_Vol_clear 7 = .ok (.istore_n 1, 1) := by decide +kernel
theorem d_Vol_clear_8 : decode b_Vol_clear 8 = .ok (.aload_n 0, 1) := by decide +kernel
theorem d_Vol_clear_9 : decode b_Vol_clear 9 = .ok (.getfield 43, 3) := by decide +kernel
theorem d_Vol_clear_12 : decode b_Vol_clear 12 = .ok (.invokevirtual 81, 3) := by decide +kernel
theorem d_Vol_clear_15 : decode b_Vol_clear 15 = .ok (.iload_n 1, 1) := by decide +kernel
theorem d_Vol_clear_16 : decode b_Vol_clear 16 = .ok (.ireturn, 1) := by decide +kernel
def m_Vol_clear  (rmn : Int) : Option (Int × Int) :=
  bnd (m_Row_empty_W32 rmn) (fun r1 => some (rmn, r1))
set_option maxHeartbeats 4000000 in
set_option maxRecDepth 100000 in
theorem c_Vol_clear (l : Launch) (D : va_G) (cI cB : ClassId) (a0 a1 a2 a3 a4 a5 a6 a7 a8 a9 a10 a11 a12 a13 a14 a15 a16 a17 a18 a19 a20 a21 a22 a23 a24 a25 a26 a27 a28 a29 a30 a31 a32 a33 a34 a35 a36 a37 : Nat) (ik : Int) (now : Int → Int) (nbt : Int → Int) (nki : Int → Int) (npl : Int → Int) (nva : Int → Int) (nwr : Int → Int) (nrm : Int) (nrs : Int → Int) (nrz : Int → Int) (kow : Int → Int) (kbt : Int → Int) (kki : Int → Int) (kpl : Int → Int) (kva : Int → Int) (kwr : Int → Int) (krm : Int) (krs : Int → Int) (krz : Int → Int) (tow : Int → Int) (tbt : Int → Int) (tki : Int → Int) (tpl : Int → Int) (tva : Int → Int) (twr : Int → Int) (trm : Int) (trs : Int → Int) (trz : Int → Int) (seed : Int) (smn : Int) (snu : Int → Int) (rmn : Int) (rnu : Int → Int) (rf : Int → Int)  {o : Int × Int} (h : m_Vol_clear rmn = some o) : Ct l D cI cB y_Vol_clear b_Vol_clear 2 (some .int) { frames := 1, cells := 0, slots := 0, locals := 20 } [.ref a0] (w_Vol cI cB a0 a1 a2 a3 a4 a5 a6 a7 a8 a9 a10 a11 a12 a13 a14 a15 a16 a17 a18 a19 a20 a21 a22 a23 a24 a25 a26 a27 a28 a29 a30 a31 a32 a33 a34 a35 a36 a37 ik now nbt nki npl nva nwr nrm nrs nrz kow kbt kki kpl kva kwr krm krs krz tow tbt tki tpl tva twr trm trs trz seed smn snu rmn rnu rf) (w_Vol cI cB a0 a1 a2 a3 a4 a5 a6 a7 a8 a9 a10 a11 a12 a13 a14 a15 a16 a17 a18 a19 a20 a21 a22 a23 a24 a25 a26 a27 a28 a29 a30 a31 a32 a33 a34 a35 a36 a37 ik now nbt nki npl nva nwr nrm nrs nrz kow kbt kki kpl kva kwr krm krs krz tow tbt tki tpl tva twr trm trs trz seed smn snu o.2 rnu rf) (some (.int (zi o.1))) := by
  refine Ct.start (by decide) (Nat.le_of_ble_eq_true rfl) (fun G X hR => ?_)
  refine x_ls (ls2 := [(0, .ref a0)]) [0] rfl ?_
  unfold m_Vol_clear at h
  refine x_aload_n (pc := 0) X d_Vol_clear_0 0 rfl rfl ?_
  refine x_get (pc := 1) X d_Vol_clear_1 0 rfl fl_Vol_43 rfl ?_
  refine x_get (pc := 4) X d_Vol_clear_4 35 rfl fl_Vol_270 rfl ?_
  refine x_istore_n (pc := 7) (ls2 := [(1, .int (zi rmn)), (0, .ref a0)]) X d_Vol_clear_7 rfl (Nat.le_of_ble_eq_true rfl) rfl ?_
  refine x_aload_n (pc := 8) X d_Vol_clear_8 1 rfl rfl ?_
  refine x_get (pc := 9) X d_Vol_clear_9 0 rfl fl_Vol_43 rfl ?_
  obtain ⟨r1, h2, h⟩ := bnd_e h
  refine x_callV (pc := 12) (As := []) (rest := []) (w2 := (w_Vol cI cB a0 a1 a2 a3 a4 a5 a6 a7 a8 a9 a10 a11 a12 a13 a14 a15 a16 a17 a18 a19 a20 a21 a22 a23 a24 a25 a26 a27 a28 a29 a30 a31 a32 a33 a34 a35 a36 a37 ik now nbt nki npl nva nwr nrm nrs nrz kow kbt kki kpl kva kwr krm krs krz tow tbt tki tpl tva twr trm trs trz seed smn snu r1 rnu rf)) X d_Vol_clear_12 lk_Vol_81 mv_Row_empty (c_Row_empty_W32 l D cI cB a35 a36 rmn rnu h2) ⟨(Nat.le_of_ble_eq_true rfl), (Nat.le_of_ble_eq_true rfl), (Nat.le_of_ble_eq_true rfl), (Nat.le_of_ble_eq_true rfl)⟩ 35 rfl rfl [35, 36] rfl rfl rfl (Up.of [0, 1, 2, 3, 4, 5, 6, 7, 8, 9, 10, 11, 12, 13, 14, 15, 16, 17, 18, 19, 20, 21, 22, 23, 24, 25, 26, 27, 28, 29, 30, 31, 32, 33, 34, 37] [(a0, .inr (5, [.ref a1, .ref a11, .ref a21, .ref a31, .ref a32, .ref a35, .ref a37, .int (zi ik)])), (a1, .inr (0, [.ref a2, .ref a3, .ref a4, .ref a5, .ref a6, .ref a7, .ref a8])), (a2, zA cI 64 now), (a3, zA cI 64 nbt), (a4, zA cI 4 nki), (a5, zA cI 96 npl), (a6, zA cI 96 nva), (a7, zA cB 96 nwr), (a8, .inr (3, [.ref a9, .ref a10, .int (zi nrm)])), (a9, zA cI 32 nrs), (a10, zA cI 32 nrz), (a11, .inr (0, [.ref a12, .ref a13, .ref a14, .ref a15, .ref a16, .ref a17, .ref a18])), (a12, zA cI 64 kow), (a13, zA cI 64 kbt), (a14, zA cI 4 kki), (a15, zA cI 96 kpl), (a16, zA cI 96 kva), (a17, zA cB 96 kwr), (a18, .inr (3, [.ref a19, .ref a20, .int (zi krm)])), (a19, zA cI 32 krs), (a20, zA cI 32 krz), (a21, .inr (0, [.ref a22, .ref a23, .ref a24, .ref a25, .ref a26, .ref a27, .ref a28])), (a22, zA cI 64 tow), (a23, zA cI 64 tbt), (a24, zA cI 4 tki), (a25, zA cI 96 tpl), (a26, zA cI 96 tva), (a27, zA cB 96 twr), (a28, .inr (3, [.ref a29, .ref a30, .int (zi trm)])), (a29, zA cI 32 trs), (a30, zA cI 32 trz), (a31, .inr (1, [.ref a1, .ref a21, .int (zi seed)])), (a32, .inr (4, [.ref a33])), (a33, .inr (2, [.ref a34, .int (zi smn)])), (a34, zA cI 96 snu), (a37, zA cI 7 rf)] rfl rfl rfl 38 rfl (by decide +kernel)) rfl rfl (Nat.le_of_ble_eq_true rfl) ?_
  refine x_iload_n (pc := 15) X d_Vol_clear_15 0 rfl rfl ?_
  cases h
  exact x_iret (pc := 16) X hR d_Vol_clear_16
theorem d_Vol_lots_0 : decode b_Vol_lots 0 = .ok (.iload_n 1, 1) := by decide +kernel
theorem d_Vol_lots_1 : decode b_Vol_lots 1 = .ok (.iconst 1, 1) := by decide +kernel
theorem d_Vol_lots_2 : decode b_Vol_lots 2 = .ok (.if_icmp .ge 10, 3) := by decide +kernel
theorem d_Vol_lots_5 : decode b_Vol_lots 5 = .ok (.aload_n 0, 1) := by decide +kernel
theorem d_Vol_lots_6 : decode b_Vol_lots 6 = .ok (.bipush (-4), 2) := by decide +kernel
theorem d_Vol_lots_8 : decode b_Vol_lots 8 = .ok (.invokevirtual 55, 3) := by decide +kernel
theorem d_Vol_lots_11 : decode b_Vol_lots 11 = .ok (.ireturn, 1) := by decide +kernel
theorem d_Vol_lots_12 : decode b_Vol_lots 12 = .ok (.iload_n 1, 1) := by decide +kernel
theorem d_Vol_lots_13 : decode b_Vol_lots 13 = .ok (.bipush 20, 2) := by decide +kernel
theorem d_Vol_lots_15 : decode b_Vol_lots 15 = .ok (.if_icmp .le 10, 3) := by decide +kernel
theorem d_Vol_lots_18 : decode b_Vol_lots 18 = .ok (.aload_n 0, 1) := by decide +kernel
theorem d_Vol_lots_19 : decode b_Vol_lots 19 = .ok (.bipush (-6), 2) := by decide +kernel
theorem d_Vol_lots_21 : decode b_Vol_lots 21 = .ok (.invokevirtual 55, 3) := by decide +kernel
theorem d_Vol_lots_24 : decode b_Vol_lots 24 = .ok (.ireturn, 1) := by decide +kernel
theorem d_Vol_lots_25 : decode b_Vol_lots 25 = .ok (.iload_n 3, 1) := by decide +kernel
theorem d_Vol_lots_26 : decode b_Vol_lots 26 = .ok (.invokestatic 153, 3) := by decide +kernel
theorem d_Vol_lots_29 : decode b_Vol_lots 29 = .ok (.ifCond .ne 10, 3) := by decide +kernel
theorem d_Vol_lots_32 : decode b_Vol_lots 32 = .ok (.aload_n 0, 1) := by decide +kernel
theorem d_Vol_lots_33 : decode b_Vol_lots 33 = .ok (.bipush (-2), 2) := by decide +kernel
theorem d_Vol_lots_35 : decode b_Vol_lots 35 = .ok (.invokevirtual 55, 3) := by decide +kernel
theorem d_Vol_lots_38 : decode b_Vol_lots 38 = .ok (.ireturn, 1) := by decide +kernel
theorem d_Vol_lots_39 : decode b_Vol_lots 39 = .ok (.aload_n 0, 1) := by decide +kernel
theorem d_Vol_lots_40 : decode b_Vol_lots 40 = .ok (.getfield 27, 3) := by decide +kernel
theorem d_Vol_lots_43 : decode b_Vol_lots 43 = .ok (.iload_n 1, 1) := by decide +kernel
theorem d_Vol_lots_44 : decode b_Vol_lots 44 = .ok (.iload_n 2, 1) := by decide +kernel
theorem d_Vol_lots_45 : decode b_Vol_lots 45 = .ok (.iload_n 3, 1) := by decide +kernel
theorem d_Vol_lots_46 : decode b_Vol_lots 46 = .ok (.ifCond .ne 7, 3) := by decide +kernel
theorem d_Vol_lots_49 : decode b_Vol_lots 49 = .ok (.iconst 1, 1) := by decide +kernel
theorem d_Vol_lots_50 : decode b_Vol_lots 50 = .ok (.goto 4, 3) := by decide +kernel
theorem d_Vol_lots_53 : decode b_Vol_lots 53 = .ok (.iconst 0, 1) := by decide +kernel
theorem d_Vol_lots_54 : decode b_Vol_lots 54 = .ok (.invokevirtual 281, 3) := by decide +kernel
theorem d_Vol_lots_57 : decode b_Vol_lots 57 = .ok (.ireturn, 1) := by decide +kernel
def m_Vol_lots (x1 : Int) (x2 : Int) (x3 : Int) (now : Int → Int) (nbt : Int → Int) (nki : Int → Int) (npl : Int → Int) (nva : Int → Int) (nwr : Int → Int) (tow : Int → Int) (tbt : Int → Int) (tki : Int → Int) (tpl : Int → Int) (tva : Int → Int) (twr : Int → Int) (trm : Int) (trs : Int → Int) (trz : Int → Int) (seed : Int) (rf : Int → Int) : Option (Int × (Int → Int) × (Int → Int) × (Int → Int) × (Int → Int) × (Int → Int) × (Int → Int) × Int × (Int → Int) × (Int → Int) × Int × (Int → Int)) :=
  clt x1 1 (bnd (m_Vol_refuse (-4) rf) (fun r26 => some (r26.1, tow, tbt, tki, tpl, tva, twr, trm, trs, trz, seed, r26.2))) (cle x1 20 (bnd (m_Vol_isEither x3) (fun r1 => ceq r1 0 (bnd (m_Vol_refuse (-2) rf) (fun r22 => some (r22.1, tow, tbt, tki, tpl, tva, twr, trm, trs, trz, seed, r22.2))) (jn (fun (z4 : Int) (z5 : Int) (z6 : Int) (c7 : Int → Int) (c8 : Int → Int) (c9 : Int → Int) (c10 : Int → Int) (c11 : Int → Int) (c12 : Int → Int) (c13 : Int) (c14 : Int → Int) (c15 : Int → Int) (c16 : Int) (c17 : Int → Int) => bnd (m_Mind_sumOfLots z4 z5 z6 c16 now nbt nki npl nva nwr c7 c8 c9 c10 c11 c12 c13 c14 c15) (fun r18 => some (r18.1, r18.2.2.1, r18.2.2.2.1, r18.2.2.2.2.1, r18.2.2.2.2.2.1, r18.2.2.2.2.2.2.1, r18.2.2.2.2.2.2.2.1, r18.2.2.2.2.2.2.2.2.1, r18.2.2.2.2.2.2.2.2.2.1, r18.2.2.2.2.2.2.2.2.2.2, r18.2.1, c17))) (fun j3 => ceq x3 0 (j3 x1 x2 1 tow tbt tki tpl tva twr trm trs trz seed rf) (j3 x1 x2 0 tow tbt tki tpl tva twr trm trs trz seed rf))))) (bnd (m_Vol_refuse (-6) rf) (fun r24 => some (r24.1, tow, tbt, tki, tpl, tva, twr, trm, trs, trz, seed, r24.2))))
set_option maxHeartbeats 4000000 in
set_option maxRecDepth 100000 in
theorem c_Vol_lots (l : Launch) (D : va_G) (cI cB : ClassId) (a0 a1 a2 a3 a4 a5 a6 a7 a8 a9 a10 a11 a12 a13 a14 a15 a16 a17 a18 a19 a20 a21 a22 a23 a24 a25 a26 a27 a28 a29 a30 a31 a32 a33 a34 a35 a36 a37 : Nat) (ik : Int) (now : Int → Int) (nbt : Int → Int) (nki : Int → Int) (npl : Int → Int) (nva : Int → Int) (nwr : Int → Int) (nrm : Int) (nrs : Int → Int) (nrz : Int → Int) (kow : Int → Int) (kbt : Int → Int) (kki : Int → Int) (kpl : Int → Int) (kva : Int → Int) (kwr : Int → Int) (krm : Int) (krs : Int → Int) (krz : Int → Int) (tow : Int → Int) (tbt : Int → Int) (tki : Int → Int) (tpl : Int → Int) (tva : Int → Int) (twr : Int → Int) (trm : Int) (trs : Int → Int) (trz : Int → Int) (seed : Int) (smn : Int) (snu : Int → Int) (rmn : Int) (rnu : Int → Int) (rf : Int → Int) (x1 : Int) (x2 : Int) (x3 : Int) {o : Int × (Int → Int) × (Int → Int) × (Int → Int) × (Int → Int) × (Int → Int) × (Int → Int) × Int × (Int → Int) × (Int → Int) × Int × (Int → Int)} (h : m_Vol_lots x1 x2 x3 now nbt nki npl nva nwr tow tbt tki tpl tva twr trm trs trz seed rf = some o) : Ct l D cI cB y_Vol_lots b_Vol_lots 4 (some .int) { frames := 6, cells := 0, slots := 0, locals := 152 } [.ref a0, .int (zi x1), .int (zi x2), .int (zi x3)] (w_Vol cI cB a0 a1 a2 a3 a4 a5 a6 a7 a8 a9 a10 a11 a12 a13 a14 a15 a16 a17 a18 a19 a20 a21 a22 a23 a24 a25 a26 a27 a28 a29 a30 a31 a32 a33 a34 a35 a36 a37 ik now nbt nki npl nva nwr nrm nrs nrz kow kbt kki kpl kva kwr krm krs krz tow tbt tki tpl tva twr trm trs trz seed smn snu rmn rnu rf) (w_Vol cI cB a0 a1 a2 a3 a4 a5 a6 a7 a8 a9 a10 a11 a12 a13 a14 a15 a16 a17 a18 a19 a20 a21 a22 a23 a24 a25 a26 a27 a28 a29 a30 a31 a32 a33 a34 a35 a36 a37 ik now nbt nki npl nva nwr nrm nrs nrz kow kbt kki kpl kva kwr krm krs krz o.2.1 o.2.2.1 o.2.2.2.1 o.2.2.2.2.1 o.2.2.2.2.2.1 o.2.2.2.2.2.2.1 o.2.2.2.2.2.2.2.1 o.2.2.2.2.2.2.2.2.1 o.2.2.2.2.2.2.2.2.2.1 o.2.2.2.2.2.2.2.2.2.2.1 smn snu rmn rnu o.2.2.2.2.2.2.2.2.2.2.2) (some (.int (zi o.1))) := by
  refine Ct.start (by decide) (Nat.le_of_ble_eq_true rfl) (fun G X hR => ?_)
  refine x_ls (ls2 := [(0, .ref a0), (1, .int (zi x1)), (2, .int (zi x2)), (3, .int (zi x3))]) [0, 1, 2, 3] rfl ?_
  unfold m_Vol_lots at h
  refine x_iload_n (pc := 0) X d_Vol_lots_0 1 rfl rfl ?_
  refine x_iconst (pc := 1) X d_Vol_lots_1  ?_
  refine x_icmpge (pc := 2) (tgt := 12) X d_Vol_lots_2 rfl h (fun h => ?_) (fun h => ?_)
  · skip
    refine x_iload_n (pc := 12) X d_Vol_lots_12 1 rfl rfl ?_
    refine x_bipush (pc := 13) (v := 20) X d_Vol_lots_13 rfl ?_
    refine x_icmple (pc := 15) (tgt := 25) X d_Vol_lots_15 rfl h (fun h => ?_) (fun h => ?_)
    · skip
      refine x_iload_n (pc := 25) X d_Vol_lots_25 3 rfl rfl ?_
      obtain ⟨r1, h2, h⟩ := bnd_e h
      refine x_callS (pc := 26) (As := [.int (zi x3)]) (rest := []) (w2 := (w_Vol cI cB a0 a1 a2 a3 a4 a5 a6 a7 a8 a9 a10 a11 a12 a13 a14 a15 a16 a17 a18 a19 a20 a21 a22 a23 a24 a25 a26 a27 a28 a29 a30 a31 a32 a33 a34 a35 a36 a37 ik now nbt nki npl nva nwr nrm nrs nrz kow kbt kki kpl kva kwr krm krs krz tow tbt tki tpl tva twr trm trs trz seed smn snu rmn rnu rf)) X d_Vol_lots_26 lk_Vol_153 mv_Vol_isEither (c_Vol_isEither l D cI cB x3 h2) ⟨(Nat.le_of_ble_eq_true rfl), (Nat.le_of_ble_eq_true rfl), (Nat.le_of_ble_eq_true rfl), (Nat.le_of_ble_eq_true rfl)⟩ [] rfl rfl rfl (Up.same rfl) rfl rfl (Nat.le_of_ble_eq_true rfl) ?_
      refine x_ifne (pc := 29) (tgt := 39) X d_Vol_lots_29 rfl h (fun h => ?_) (fun h => ?_)
      · skip
        refine x_aload_n (pc := 39) X d_Vol_lots_39 0 rfl rfl ?_
        refine x_get (pc := 40) X d_Vol_lots_40 0 rfl fl_Vol_27 rfl ?_
        refine x_iload_n (pc := 43) X d_Vol_lots_43 1 rfl rfl ?_
        refine x_iload_n (pc := 44) X d_Vol_lots_44 2 rfl rfl ?_
        refine x_iload_n (pc := 45) X d_Vol_lots_45 3 rfl rfl ?_
        obtain ⟨j3, hj20, h⟩ := jn_e h
        have J21 : ∀ (z4 : Int) (z5 : Int) (z6 : Int) (c7 : Int → Int) (c8 : Int → Int) (c9 : Int → Int) (c10 : Int → Int) (c11 : Int → Int) (c12 : Int → Int) (c13 : Int) (c14 : Int → Int) (c15 : Int → Int) (c16 : Int) (c17 : Int → Int), j3 z4 z5 z6 c7 c8 c9 c10 c11 c12 c13 c14 c15 c16 c17 = some o → Wx G 0 0 54 [] [.int (zi z6), .int (zi z5), .int (zi z4), .ref a31] (w_Vol cI cB a0 a1 a2 a3 a4 a5 a6 a7 a8 a9 a10 a11 a12 a13 a14 a15 a16 a17 a18 a19 a20 a21 a22 a23 a24 a25 a26 a27 a28 a29 a30 a31 a32 a33 a34 a35 a36 a37 ik now nbt nki npl nva nwr nrm nrs nrz kow kbt kki kpl kva kwr krm krs krz c7 c8 c9 c10 c11 c12 c13 c14 c15 c16 smn snu rmn rnu c17) := by
          intro z4 z5 z6 c7 c8 c9 c10 c11 c12 c13 c14 c15 c16 c17 h
          rw [hj20] at h
          (try dsimp only at h)
          obtain ⟨r18, h19, h⟩ := bnd_e h
          refine x_callV (pc := 54) (As := [.int (zi z4), .int (zi z5), .int (zi z6)]) (rest := []) (w2 := (w_Vol cI cB a0 a1 a2 a3 a4 a5 a6 a7 a8 a9 a10 a11 a12 a13 a14 a15 a16 a17 a18 a19 a20 a21 a22 a23 a24 a25 a26 a27 a28 a29 a30 a31 a32 a33 a34 a35 a36 a37 ik now nbt nki npl nva nwr nrm nrs nrz kow kbt kki kpl kva kwr krm krs krz r18.2.2.1 r18.2.2.2.1 r18.2.2.2.2.1 r18.2.2.2.2.2.1 r18.2.2.2.2.2.2.1 r18.2.2.2.2.2.2.2.1 r18.2.2.2.2.2.2.2.2.1 r18.2.2.2.2.2.2.2.2.2.1 r18.2.2.2.2.2.2.2.2.2.2 r18.2.1 smn snu rmn rnu c17)) X d_Vol_lots_54 lk_Vol_281 mv_Mind_sumOfLots (c_Mind_sumOfLots l D cI cB a31 a1 a2 a3 a4 a5 a6 a7 a8 a9 a10 a21 a22 a23 a24 a25 a26 a27 a28 a29 a30 c16 now nbt nki npl nva nwr nrm nrs nrz c7 c8 c9 c10 c11 c12 c13 c14 c15 z4 z5 z6 h19) ⟨(Nat.le_of_ble_eq_true rfl), (Nat.le_of_ble_eq_true rfl), (Nat.le_of_ble_eq_true rfl), (Nat.le_of_ble_eq_true rfl)⟩ 31 rfl rfl [31, 1, 2, 3, 4, 5, 6, 7, 8, 9, 10, 21, 22, 23, 24, 25, 26, 27, 28, 29, 30] rfl rfl rfl (Up.of [0, 11, 12, 13, 14, 15, 16, 17, 18, 19, 20, 32, 33, 34, 35, 36, 37] [(a0, .inr (5, [.ref a1, .ref a11, .ref a21, .ref a31, .ref a32, .ref a35, .ref a37, .int (zi ik)])), (a11, .inr (0, [.ref a12, .ref a13, .ref a14, .ref a15, .ref a16, .ref a17, .ref a18])), (a12, zA cI 64 kow), (a13, zA cI 64 kbt), (a14, zA cI 4 kki), (a15, zA cI 96 kpl), (a16, zA cI 96 kva), (a17, zA cB 96 kwr), (a18, .inr (3, [.ref a19, .ref a20, .int (zi krm)])), (a19, zA cI 32 krs), (a20, zA cI 32 krz), (a32, .inr (4, [.ref a33])), (a33, .inr (2, [.ref a34, .int (zi smn)])), (a34, zA cI 96 snu), (a35, .inr (2, [.ref a36, .int (zi rmn)])), (a36, zA cI 32 rnu), (a37, zA cI 7 c17)] rfl rfl rfl 38 rfl (by decide +kernel)) rfl rfl (Nat.le_of_ble_eq_true rfl) ?_
          cases h
          exact x_iret (pc := 57) X hR d_Vol_lots_57
        clear hj20
        refine x_ifne (pc := 46) (tgt := 53) X d_Vol_lots_46 rfl h (fun h => ?_) (fun h => ?_)
        · skip
          refine x_iconst (pc := 53) X d_Vol_lots_53  ?_
          refine x_ls (ls2 := []) [] rfl ?_
          exact J21 x1 x2 0 tow tbt tki tpl tva twr trm trs trz seed rf h
        · skip
          refine x_iconst (pc := 49) X d_Vol_lots_49  ?_
          refine x_goto (pc := 50) (tgt := 54) X d_Vol_lots_50 rfl ?_
          refine x_ls (ls2 := []) [] rfl ?_
          exact J21 x1 x2 1 tow tbt tki tpl tva twr trm trs trz seed rf h
      · skip
        refine x_aload_n (pc := 32) X d_Vol_lots_32 0 rfl rfl ?_
        refine x_bipush (pc := 33) (v := -2) X d_Vol_lots_33 rfl ?_
        obtain ⟨r22, h23, h⟩ := bnd_e h
        refine x_callV (pc := 35) (As := [.int (zi (-2))]) (rest := []) (w2 := (w_Vol cI cB a0 a1 a2 a3 a4 a5 a6 a7 a8 a9 a10 a11 a12 a13 a14 a15 a16 a17 a18 a19 a20 a21 a22 a23 a24 a25 a26 a27 a28 a29 a30 a31 a32 a33 a34 a35 a36 a37 ik now nbt nki npl nva nwr nrm nrs nrz kow kbt kki kpl kva kwr krm krs krz tow tbt tki tpl tva twr trm trs trz seed smn snu rmn rnu r22.2)) X d_Vol_lots_35 lk_Vol_55 mv_Vol_refuse (c_Vol_refuse l D cI cB a0 a1 a2 a3 a4 a5 a6 a7 a8 a9 a10 a11 a12 a13 a14 a15 a16 a17 a18 a19 a20 a21 a22 a23 a24 a25 a26 a27 a28 a29 a30 a31 a32 a33 a34 a35 a36 a37 ik now nbt nki npl nva nwr nrm nrs nrz kow kbt kki kpl kva kwr krm krs krz tow tbt tki tpl tva twr trm trs trz seed smn snu rmn rnu rf (-2) h23) ⟨(Nat.le_of_ble_eq_true rfl), (Nat.le_of_ble_eq_true rfl), (Nat.le_of_ble_eq_true rfl), (Nat.le_of_ble_eq_true rfl)⟩ 0 rfl rfl [0, 1, 2, 3, 4, 5, 6, 7, 8, 9, 10, 11, 12, 13, 14, 15, 16, 17, 18, 19, 20, 21, 22, 23, 24, 25, 26, 27, 28, 29, 30, 31, 32, 33, 34, 35, 36, 37] rfl rfl rfl (Up.of [] [] rfl rfl rfl 38 rfl (by decide +kernel)) rfl rfl (Nat.le_of_ble_eq_true rfl) ?_
        cases h
        exact x_iret (pc := 38) X hR d_Vol_lots_38
    · skip
      refine x_aload_n (pc := 18) X d_Vol_lots_18 0 rfl rfl ?_
      refine x_bipush (pc := 19) (v := -6) X d_Vol_lots_19 rfl ?_
      obtain ⟨r24, h25, h⟩ := bnd_e h
      refine x_callV (pc := 21) (As := [.int (zi (-6))]) (rest := []) (w2 := (w_Vol cI cB a0 a1 a2 a3 a4 a5 a6 a7 a8 a9 a10 a11 a12 a13 a14 a15 a16 a17 a18 a19 a20 a21 a22 a23 a24 a25 a26 a27 a28 a29 a30 a31 a32 a33 a34 a35 a36 a37 ik now nbt nki npl nva nwr nrm nrs nrz kow kbt kki kpl kva kwr krm krs krz tow tbt tki tpl tva twr trm trs trz seed smn snu rmn rnu r24.2)) X d_Vol_lots_21 lk_Vol_55 mv_Vol_refuse (c_Vol_refuse l D cI cB a0 a1 a2 a3 a4 a5 a6 a7 a8 a9 a10 a11 a12 a13 a14 a15 a16 a17 a18 a19 a20 a21 a22 a23 a24 a25 a26 a27 a28 a29 a30 a31 a32 a33 a34 a35 a36 a37 ik now nbt nki npl nva nwr nrm nrs nrz kow kbt kki kpl kva kwr krm krs krz tow tbt tki tpl tva twr trm trs trz seed smn snu rmn rnu rf (-6) h25) ⟨(Nat.le_of_ble_eq_true rfl), (Nat.le_of_ble_eq_true rfl), (Nat.le_of_ble_eq_true rfl), (Nat.le_of_ble_eq_true rfl)⟩ 0 rfl rfl [0, 1, 2, 3, 4, 5, 6, 7, 8, 9, 10, 11, 12, 13, 14, 15, 16, 17, 18, 19, 20, 21, 22, 23, 24, 25, 26, 27, 28, 29, 30, 31, 32, 33, 34, 35, 36, 37] rfl rfl rfl (Up.of [] [] rfl rfl rfl 38 rfl (by decide +kernel)) rfl rfl (Nat.le_of_ble_eq_true rfl) ?_
      cases h
      exact x_iret (pc := 24) X hR d_Vol_lots_24
  · skip
    refine x_aload_n (pc := 5) X d_Vol_lots_5 0 rfl rfl ?_
    refine x_bipush (pc := 6) (v := -4) X d_Vol_lots_6 rfl ?_
    obtain ⟨r26, h27, h⟩ := bnd_e h
    refine x_callV (pc := 8) (As := [.int (zi (-4))]) (rest := []) (w2 := (w_Vol cI cB a0 a1 a2 a3 a4 a5 a6 a7 a8 a9 a10 a11 a12 a13 a14 a15 a16 a17 a18 a19 a20 a21 a22 a23 a24 a25 a26 a27 a28 a29 a30 a31 a32 a33 a34 a35 a36 a37 ik now nbt nki npl nva nwr nrm nrs nrz kow kbt kki kpl kva kwr krm krs krz tow tbt tki tpl tva twr trm trs trz seed smn snu rmn rnu r26.2)) X d_Vol_lots_8 lk_Vol_55 mv_Vol_refuse (c_Vol_refuse l D cI cB a0 a1 a2 a3 a4 a5 a6 a7 a8 a9 a10 a11 a12 a13 a14 a15 a16 a17 a18 a19 a20 a21 a22 a23 a24 a25 a26 a27 a28 a29 a30 a31 a32 a33 a34 a35 a36 a37 ik now nbt nki npl nva nwr nrm nrs nrz kow kbt kki kpl kva kwr krm krs krz tow tbt tki tpl tva twr trm trs trz seed smn snu rmn rnu rf (-4) h27) ⟨(Nat.le_of_ble_eq_true rfl), (Nat.le_of_ble_eq_true rfl), (Nat.le_of_ble_eq_true rfl), (Nat.le_of_ble_eq_true rfl)⟩ 0 rfl rfl [0, 1, 2, 3, 4, 5, 6, 7, 8, 9, 10, 11, 12, 13, 14, 15, 16, 17, 18, 19, 20, 21, 22, 23, 24, 25, 26, 27, 28, 29, 30, 31, 32, 33, 34, 35, 36, 37] rfl rfl rfl (Up.of [] [] rfl rfl rfl 38 rfl (by decide +kernel)) rfl rfl (Nat.le_of_ble_eq_true rfl) ?_
    cases h
    exact x_iret (pc := 11) X hR d_Vol_lots_11
theorem d_Vol_image_0 : decode b_Vol_image 0 = .ok (.aload_n 0, 1) := by decide +kernel
theorem d_Vol_image_1 : decode b_Vol_image 1 = .ok (.getfield 19, 3) := by decide +kernel
theorem d_Vol_image_4 : decode b_Vol_image 4 = .ok (.aload_n 0, 1) := by decide +kernel
theorem d_Vol_image_5 : decode b_Vol_image 5 = .ok (.getfield 10, 3) := by decide +kernel
theorem d_Vol_image_8 : decode b_Vol_image 8 = .ok (.invokevirtual 73, 3) := by decide +kernel
theorem d_Vol_image_11 : decode b_Vol_image 11 = .ok (.aload_n 0, 1) := by decide +kernel
theorem d_Vol_image_12 : decode b_Vol_image 12 = .ok (.iconst 1, 1) := by decide +kernel
theorem d_Vol_image_13 : decode b_Vol_image 13 = .ok (.putfield 51, 3) := by decide +kernel
theorem d_Vol_image_16 : decode b_Vol_image 16 = .ok (.aload_n 0, 1) := by decide +kernel
theorem d_Vol_image_17 : decode b_Vol_image 17 = .ok (.getfield 10, 3) := by decide +kernel
theorem d_Vol_image_20 : decode b_Vol_image 20 = .ok (.invokevirtual 264, 3) := by decide +kernel
theorem d_Vol_image_23 : decode b_Vol_image 23 = .ok (.ireturn, 1) := by decide +kernel
def m_Vol_image  (ik : Int) (now : Int → Int) (nbt : Int → Int) (nki : Int → Int) (npl : Int → Int) (nva : Int → Int) (nwr : Int → Int) (kow : Int → Int) (kbt : Int → Int) (kki : Int → Int) (kpl : Int → Int) (kva : Int → Int) (kwr : Int → Int) : Option (Int × Int × (Int → Int) × (Int → Int) × (Int → Int) × (Int → Int) × (Int → Int) × (Int → Int)) :=
  bnd (m_Disk_copyFrom kow kbt kki kpl kva kwr now nbt nki npl nva nwr) (fun r1 => bnd (m_Disk_freeBlocks now) (fun r3 => some (r3, 1, r1.1, r1.2.1, r1.2.2.1, r1.2.2.2.1, r1.2.2.2.2.1, r1.2.2.2.2.2)))
set_option maxHeartbeats 4000000 in
set_option maxRecDepth 100000 in
theorem c_Vol_image (l : Launch) (D : va_G) (cI cB : ClassId) (a0 a1 a2 a3 a4 a5 a6 a7 a8 a9 a10 a11 a12 a13 a14 a15 a16 a17 a18 a19 a20 a21 a22 a23 a24 a25 a26 a27 a28 a29 a30 a31 a32 a33 a34 a35 a36 a37 : Nat) (ik : Int) (now : Int → Int) (nbt : Int → Int) (nki : Int → Int) (npl : Int → Int) (nva : Int → Int) (nwr : Int → Int) (nrm : Int) (nrs : Int → Int) (nrz : Int → Int) (kow : Int → Int) (kbt : Int → Int) (kki : Int → Int) (kpl : Int → Int) (kva : Int → Int) (kwr : Int → Int) (krm : Int) (krs : Int → Int) (krz : Int → Int) (tow : Int → Int) (tbt : Int → Int) (tki : Int → Int) (tpl : Int → Int) (tva : Int → Int) (twr : Int → Int) (trm : Int) (trs : Int → Int) (trz : Int → Int) (seed : Int) (smn : Int) (snu : Int → Int) (rmn : Int) (rnu : Int → Int) (rf : Int → Int)  {o : Int × Int × (Int → Int) × (Int → Int) × (Int → Int) × (Int → Int) × (Int → Int) × (Int → Int)} (h : m_Vol_image ik now nbt nki npl nva nwr kow kbt kki kpl kva kwr = some o) : Ct l D cI cB y_Vol_image b_Vol_image 1 (some .int) { frames := 2, cells := 0, slots := 0, locals := 82 } [.ref a0] (w_Vol cI cB a0 a1 a2 a3 a4 a5 a6 a7 a8 a9 a10 a11 a12 a13 a14 a15 a16 a17 a18 a19 a20 a21 a22 a23 a24 a25 a26 a27 a28 a29 a30 a31 a32 a33 a34 a35 a36 a37 ik now nbt nki npl nva nwr nrm nrs nrz kow kbt kki kpl kva kwr krm krs krz tow tbt tki tpl tva twr trm trs trz seed smn snu rmn rnu rf) (w_Vol cI cB a0 a1 a2 a3 a4 a5 a6 a7 a8 a9 a10 a11 a12 a13 a14 a15 a16 a17 a18 a19 a20 a21 a22 a23 a24 a25 a26 a27 a28 a29 a30 a31 a32 a33 a34 a35 a36 a37 o.2.1 now nbt nki npl nva nwr nrm nrs nrz o.2.2.1 o.2.2.2.1 o.2.2.2.2.1 o.2.2.2.2.2.1 o.2.2.2.2.2.2.1 o.2.2.2.2.2.2.2 krm krs krz tow tbt tki tpl tva twr trm trs trz seed smn snu rmn rnu rf) (some (.int (zi o.1))) := by
  refine Ct.start (by decide) (Nat.le_of_ble_eq_true rfl) (fun G X hR => ?_)
  refine x_ls (ls2 := [(0, .ref a0)]) [0] rfl ?_
  unfold m_Vol_image at h
  refine x_aload_n (pc := 0) X d_Vol_image_0 0 rfl rfl ?_
  refine x_get (pc := 1) X d_Vol_image_1 0 rfl fl_Vol_19 rfl ?_
  refine x_aload_n (pc := 4) X d_Vol_image_4 0 rfl rfl ?_
  refine x_get (pc := 5) X d_Vol_image_5 0 rfl fl_Vol_10 rfl ?_
  obtain ⟨r1, h2, h⟩ := bnd_e h
  refine x_callV (pc := 8) (As := [.ref a1]) (rest := []) (w2 := (w_Vol cI cB a0 a1 a2 a3 a4 a5 a6 a7 a8 a9 a10 a11 a12 a13 a14 a15 a16 a17 a18 a19 a20 a21 a22 a23 a24 a25 a26 a27 a28 a29 a30 a31 a32 a33 a34 a35 a36 a37 ik now nbt nki npl nva nwr nrm nrs nrz r1.1 r1.2.1 r1.2.2.1 r1.2.2.2.1 r1.2.2.2.2.1 r1.2.2.2.2.2 krm krs krz tow tbt tki tpl tva twr trm trs trz seed smn snu rmn rnu rf)) X d_Vol_image_8 lk_Vol_73 mv_Disk_copyFrom (c_Disk_copyFrom l D cI cB a11 a12 a13 a14 a15 a16 a17 a18 a19 a20 a1 a2 a3 a4 a5 a6 a7 a8 a9 a10 kow kbt kki kpl kva kwr krm krs krz now nbt nki npl nva nwr nrm nrs nrz h2) ⟨(Nat.le_of_ble_eq_true rfl), (Nat.le_of_ble_eq_true rfl), (Nat.le_of_ble_eq_true rfl), (Nat.le_of_ble_eq_true rfl)⟩ 11 rfl rfl [11, 12, 13, 14, 15, 16, 17, 18, 19, 20, 1, 2, 3, 4, 5, 6, 7, 8, 9, 10] rfl rfl rfl (Up.of [0, 21, 22, 23, 24, 25, 26, 27, 28, 29, 30, 31, 32, 33, 34, 35, 36, 37] [(a0, .inr (5, [.ref a1, .ref a11, .ref a21, .ref a31, .ref a32, .ref a35, .ref a37, .int (zi ik)])), (a21, .inr (0, [.ref a22, .ref a23, .ref a24, .ref a25, .ref a26, .ref a27, .ref a28])), (a22, zA cI 64 tow), (a23, zA cI 64 tbt), (a24, zA cI 4 tki), (a25, zA cI 96 tpl), (a26, zA cI 96 tva), (a27, zA cB 96 twr), (a28, .inr (3, [.ref a29, .ref a30, .int (zi trm)])), (a29, zA cI 32 trs), (a30, zA cI 32 trz), (a31, .inr (1, [.ref a1, .ref a21, .int (zi seed)])), (a32, .inr (4, [.ref a33])), (a33, .inr (2, [.ref a34, .int (zi smn)])), (a34, zA cI 96 snu), (a35, .inr (2, [.ref a36, .int (zi rmn)])), (a36, zA cI 32 rnu), (a37, zA cI 7 rf)] rfl rfl rfl 38 rfl (by decide +kernel)) rfl rfl (Nat.le_of_ble_eq_true rfl) ?_
  refine x_aload_n (pc := 11) X d_Vol_image_11 0 rfl rfl ?_
  refine x_iconst (pc := 12) X d_Vol_image_12  ?_
  refine x_put (pc := 13) (w2 := (w_Vol cI cB a0 a1 a2 a3 a4 a5 a6 a7 a8 a9 a10 a11 a12 a13 a14 a15 a16 a17 a18 a19 a20 a21 a22 a23 a24 a25 a26 a27 a28 a29 a30 a31 a32 a33 a34 a35 a36 a37 1 now nbt nki npl nva nwr nrm nrs nrz r1.1 r1.2.1 r1.2.2.1 r1.2.2.2.1 r1.2.2.2.2.1 r1.2.2.2.2.2 krm krs krz tow tbt tki tpl tva twr trm trs trz seed smn snu rmn rnu rf)) X d_Vol_image_13 0 rfl (fp_Vol_51 _ (Or.inr rfl)) (Nat.le_of_ble_eq_true rfl) rfl ?_
  refine x_aload_n (pc := 16) X d_Vol_image_16 0 rfl rfl ?_
  refine x_get (pc := 17) X d_Vol_image_17 0 rfl fl_Vol_10 rfl ?_
  obtain ⟨r3, h4, h⟩ := bnd_e h
  refine x_callV (pc := 20) (As := []) (rest := []) (w2 := (w_Vol cI cB a0 a1 a2 a3 a4 a5 a6 a7 a8 a9 a10 a11 a12 a13 a14 a15 a16 a17 a18 a19 a20 a21 a22 a23 a24 a25 a26 a27 a28 a29 a30 a31 a32 a33 a34 a35 a36 a37 1 now nbt nki npl nva nwr nrm nrs nrz r1.1 r1.2.1 r1.2.2.1 r1.2.2.2.1 r1.2.2.2.2.1 r1.2.2.2.2.2 krm krs krz tow tbt tki tpl tva twr trm trs trz seed smn snu rmn rnu rf)) X d_Vol_image_20 lk_Vol_264 mv_Disk_freeBlocks (c_Disk_freeBlocks l D cI cB a1 a2 a3 a4 a5 a6 a7 a8 a9 a10 now nbt nki npl nva nwr nrm nrs nrz h4) ⟨(Nat.le_of_ble_eq_true rfl), (Nat.le_of_ble_eq_true rfl), (Nat.le_of_ble_eq_true rfl), (Nat.le_of_ble_eq_true rfl)⟩ 1 rfl rfl [1, 2, 3, 4, 5, 6, 7, 8, 9, 10] rfl rfl rfl (Up.same rfl) rfl rfl (Nat.le_of_ble_eq_true rfl) ?_
  cases h
  exact x_iret (pc := 23) X hR d_Vol_image_23
theorem d_Vol_on_0 : decode b_Vol_on 0 = .ok (.aload_n 0, 1) := by decide +kernel
theorem d_Vol_on_1 : decode b_Vol_on 1 = .ok (.getfield 51, 3) := by decide +kernel
theorem d_Vol_on_4 : decode b_Vol_on 4 = .ok (.ifCond .ne 10, 3) := by decide +kernel
theorem d_Vol_on_7 : decode b_Vol_on 7 = .ok (.aload_n 0, 1) := by decide +kernel
theorem d_Vol_on_8 : decode b_Vol_on 8 = .ok (.bipush (-3), 2) := by decide +kernel
theorem d_Vol_on_10 : decode b_Vol_on 10 = .ok (.invokevirtual 55, 3) := by decide +kernel
theorem d_Vol_on_13 : decode b_Vol_on 13 = .ok (.ireturn, 1) := by decide +kernel
theorem d_Vol_on_14 : decode b_Vol_on 14 = .ok (.aload_n 0, 1) := by decide +kernel
theorem d_Vol_on_15 : decode b_Vol_on 15 = .ok (.getfield 10, 3) := by decide +kernel
theorem d_Vol_on_18 : decode b_Vol_on 18 = .ok (.aload_n 0, 1) := by decide +kernel
theorem d_Vol_on_19 : decode b_Vol_on 19 = .ok (.getfield 19, 3) := by decide +kernel
theorem d_Vol_on_22 : decode b_Vol_on 22 = .ok (.invokevirtual 73, 3) := by decide +kernel
theorem d_Vol_on_25 : decode b_Vol_on 25 = .ok (.aload_n 0, 1) := by decide +kernel
theorem d_Vol_on_26 : decode b_Vol_on 26 = .ok (.getfield 10, 3) := by decide +kernel
theorem d_Vol_on_29 : decode b_Vol_on 29 = .ok (.invokevirtual 264, 3) := by decide +kernel
theorem d_Vol_on_32 : decode b_Vol_on 32 = .ok (.ireturn, 1) := by decide +kernel
def m_Vol_on  (ik : Int) (now : Int → Int) (nbt : Int → Int) (nki : Int → Int) (npl : Int → Int) (nva : Int → Int) (nwr : Int → Int) (kow : Int → Int) (kbt : Int → Int) (kki : Int → Int) (kpl : Int → Int) (kva : Int → Int) (kwr : Int → Int) (rf : Int → Int) : Option (Int × (Int → Int) × (Int → Int) × (Int → Int) × (Int → Int) × (Int → Int) × (Int → Int) × (Int → Int)) :=
  ceq ik 0 (bnd (m_Vol_refuse (-3) rf) (fun r5 => some (r5.1, now, nbt, nki, npl, nva, nwr, r5.2))) (bnd (m_Disk_copyFrom now nbt nki npl nva nwr kow kbt kki kpl kva kwr) (fun r1 => bnd (m_Disk_freeBlocks r1.1) (fun r3 => some (r3, r1.1, r1.2.1, r1.2.2.1, r1.2.2.2.1, r1.2.2.2.2.1, r1.2.2.2.2.2, rf))))
set_option maxHeartbeats 4000000 in
set_option maxRecDepth 100000 in
theorem c_Vol_on (l : Launch) (D : va_G) (cI cB : ClassId) (a0 a1 a2 a3 a4 a5 a6 a7 a8 a9 a10 a11 a12 a13 a14 a15 a16 a17 a18 a19 a20 a21 a22 a23 a24 a25 a26 a27 a28 a29 a30 a31 a32 a33 a34 a35 a36 a37 : Nat) (ik : Int) (now : Int → Int) (nbt : Int → Int) (nki : Int → Int) (npl : Int → Int) (nva : Int → Int) (nwr : Int → Int) (nrm : Int) (nrs : Int → Int) (nrz : Int → Int) (kow : Int → Int) (kbt : Int → Int) (kki : Int → Int) (kpl : Int → Int) (kva : Int → Int) (kwr : Int → Int) (krm : Int) (krs : Int → Int) (krz : Int → Int) (tow : Int → Int) (tbt : Int → Int) (tki : Int → Int) (tpl : Int → Int) (tva : Int → Int) (twr : Int → Int) (trm : Int) (trs : Int → Int) (trz : Int → Int) (seed : Int) (smn : Int) (snu : Int → Int) (rmn : Int) (rnu : Int → Int) (rf : Int → Int)  {o : Int × (Int → Int) × (Int → Int) × (Int → Int) × (Int → Int) × (Int → Int) × (Int → Int) × (Int → Int)} (h : m_Vol_on ik now nbt nki npl nva nwr kow kbt kki kpl kva kwr rf = some o) : Ct l D cI cB y_Vol_on b_Vol_on 1 (some .int) { frames := 2, cells := 0, slots := 0, locals := 82 } [.ref a0] (w_Vol cI cB a0 a1 a2 a3 a4 a5 a6 a7 a8 a9 a10 a11 a12 a13 a14 a15 a16 a17 a18 a19 a20 a21 a22 a23 a24 a25 a26 a27 a28 a29 a30 a31 a32 a33 a34 a35 a36 a37 ik now nbt nki npl nva nwr nrm nrs nrz kow kbt kki kpl kva kwr krm krs krz tow tbt tki tpl tva twr trm trs trz seed smn snu rmn rnu rf) (w_Vol cI cB a0 a1 a2 a3 a4 a5 a6 a7 a8 a9 a10 a11 a12 a13 a14 a15 a16 a17 a18 a19 a20 a21 a22 a23 a24 a25 a26 a27 a28 a29 a30 a31 a32 a33 a34 a35 a36 a37 ik o.2.1 o.2.2.1 o.2.2.2.1 o.2.2.2.2.1 o.2.2.2.2.2.1 o.2.2.2.2.2.2.1 nrm nrs nrz kow kbt kki kpl kva kwr krm krs krz tow tbt tki tpl tva twr trm trs trz seed smn snu rmn rnu o.2.2.2.2.2.2.2) (some (.int (zi o.1))) := by
  refine Ct.start (by decide) (Nat.le_of_ble_eq_true rfl) (fun G X hR => ?_)
  refine x_ls (ls2 := [(0, .ref a0)]) [0] rfl ?_
  unfold m_Vol_on at h
  refine x_aload_n (pc := 0) X d_Vol_on_0 0 rfl rfl ?_
  refine x_get (pc := 1) X d_Vol_on_1 0 rfl fl_Vol_51 rfl ?_
  refine x_ifne (pc := 4) (tgt := 14) X d_Vol_on_4 rfl h (fun h => ?_) (fun h => ?_)
  · skip
    refine x_aload_n (pc := 14) X d_Vol_on_14 0 rfl rfl ?_
    refine x_get (pc := 15) X d_Vol_on_15 0 rfl fl_Vol_10 rfl ?_
    refine x_aload_n (pc := 18) X d_Vol_on_18 0 rfl rfl ?_
    refine x_get (pc := 19) X d_Vol_on_19 0 rfl fl_Vol_19 rfl ?_
    obtain ⟨r1, h2, h⟩ := bnd_e h
    refine x_callV (pc := 22) (As := [.ref a11]) (rest := []) (w2 := (w_Vol cI cB a0 a1 a2 a3 a4 a5 a6 a7 a8 a9 a10 a11 a12 a13 a14 a15 a16 a17 a18 a19 a20 a21 a22 a23 a24 a25 a26 a27 a28 a29 a30 a31 a32 a33 a34 a35 a36 a37 ik r1.1 r1.2.1 r1.2.2.1 r1.2.2.2.1 r1.2.2.2.2.1 r1.2.2.2.2.2 nrm nrs nrz kow kbt kki kpl kva kwr krm krs krz tow tbt tki tpl tva twr trm trs trz seed smn snu rmn rnu rf)) X d_Vol_on_22 lk_Vol_73 mv_Disk_copyFrom (c_Disk_copyFrom l D cI cB a1 a2 a3 a4 a5 a6 a7 a8 a9 a10 a11 a12 a13 a14 a15 a16 a17 a18 a19 a20 now nbt nki npl nva nwr nrm nrs nrz kow kbt kki kpl kva kwr krm krs krz h2) ⟨(Nat.le_of_ble_eq_true rfl), (Nat.le_of_ble_eq_true rfl), (Nat.le_of_ble_eq_true rfl), (Nat.le_of_ble_eq_true rfl)⟩ 1 rfl rfl [1, 2, 3, 4, 5, 6, 7, 8, 9, 10, 11, 12, 13, 14, 15, 16, 17, 18, 19, 20] rfl rfl rfl (Up.of [0, 21, 22, 23, 24, 25, 26, 27, 28, 29, 30, 31, 32, 33, 34, 35, 36, 37] [(a0, .inr (5, [.ref a1, .ref a11, .ref a21, .ref a31, .ref a32, .ref a35, .ref a37, .int (zi ik)])), (a21, .inr (0, [.ref a22, .ref a23, .ref a24, .ref a25, .ref a26, .ref a27, .ref a28])), (a22, zA cI 64 tow), (a23, zA cI 64 tbt), (a24, zA cI 4 tki), (a25, zA cI 96 tpl), (a26, zA cI 96 tva), (a27, zA cB 96 twr), (a28, .inr (3, [.ref a29, .ref a30, .int (zi trm)])), (a29, zA cI 32 trs), (a30, zA cI 32 trz), (a31, .inr (1, [.ref a1, .ref a21, .int (zi seed)])), (a32, .inr (4, [.ref a33])), (a33, .inr (2, [.ref a34, .int (zi smn)])), (a34, zA cI 96 snu), (a35, .inr (2, [.ref a36, .int (zi rmn)])), (a36, zA cI 32 rnu), (a37, zA cI 7 rf)] rfl rfl rfl 38 rfl (by decide +kernel)) rfl rfl (Nat.le_of_ble_eq_true rfl) ?_
    refine x_aload_n (pc := 25) X d_Vol_on_25 0 rfl rfl ?_
    refine x_get (pc := 26) X d_Vol_on_26 0 rfl fl_Vol_10 rfl ?_
    obtain ⟨r3, h4, h⟩ := bnd_e h
    refine x_callV (pc := 29) (As := []) (rest := []) (w2 := (w_Vol cI cB a0 a1 a2 a3 a4 a5 a6 a7 a8 a9 a10 a11 a12 a13 a14 a15 a16 a17 a18 a19 a20 a21 a22 a23 a24 a25 a26 a27 a28 a29 a30 a31 a32 a33 a34 a35 a36 a37 ik r1.1 r1.2.1 r1.2.2.1 r1.2.2.2.1 r1.2.2.2.2.1 r1.2.2.2.2.2 nrm nrs nrz kow kbt kki kpl kva kwr krm krs krz tow tbt tki tpl tva twr trm trs trz seed smn snu rmn rnu rf)) X d_Vol_on_29 lk_Vol_264 mv_Disk_freeBlocks (c_Disk_freeBlocks l D cI cB a1 a2 a3 a4 a5 a6 a7 a8 a9 a10 r1.1 r1.2.1 r1.2.2.1 r1.2.2.2.1 r1.2.2.2.2.1 r1.2.2.2.2.2 nrm nrs nrz h4) ⟨(Nat.le_of_ble_eq_true rfl), (Nat.le_of_ble_eq_true rfl), (Nat.le_of_ble_eq_true rfl), (Nat.le_of_ble_eq_true rfl)⟩ 1 rfl rfl [1, 2, 3, 4, 5, 6, 7, 8, 9, 10] rfl rfl rfl (Up.same rfl) rfl rfl (Nat.le_of_ble_eq_true rfl) ?_
    cases h
    exact x_iret (pc := 32) X hR d_Vol_on_32
  · skip
    refine x_aload_n (pc := 7) X d_Vol_on_7 0 rfl rfl ?_
    refine x_bipush (pc := 8) (v := -3) X d_Vol_on_8 rfl ?_
    obtain ⟨r5, h6, h⟩ := bnd_e h
    refine x_callV (pc := 10) (As := [.int (zi (-3))]) (rest := []) (w2 := (w_Vol cI cB a0 a1 a2 a3 a4 a5 a6 a7 a8 a9 a10 a11 a12 a13 a14 a15 a16 a17 a18 a19 a20 a21 a22 a23 a24 a25 a26 a27 a28 a29 a30 a31 a32 a33 a34 a35 a36 a37 ik now nbt nki npl nva nwr nrm nrs nrz kow kbt kki kpl kva kwr krm krs krz tow tbt tki tpl tva twr trm trs trz seed smn snu rmn rnu r5.2)) X d_Vol_on_10 lk_Vol_55 mv_Vol_refuse (c_Vol_refuse l D cI cB a0 a1 a2 a3 a4 a5 a6 a7 a8 a9 a10 a11 a12 a13 a14 a15 a16 a17 a18 a19 a20 a21 a22 a23 a24 a25 a26 a27 a28 a29 a30 a31 a32 a33 a34 a35 a36 a37 ik now nbt nki npl nva nwr nrm nrs nrz kow kbt kki kpl kva kwr krm krs krz tow tbt tki tpl tva twr trm trs trz seed smn snu rmn rnu rf (-3) h6) ⟨(Nat.le_of_ble_eq_true rfl), (Nat.le_of_ble_eq_true rfl), (Nat.le_of_ble_eq_true rfl), (Nat.le_of_ble_eq_true rfl)⟩ 0 rfl rfl [0, 1, 2, 3, 4, 5, 6, 7, 8, 9, 10, 11, 12, 13, 14, 15, 16, 17, 18, 19, 20, 21, 22, 23, 24, 25, 26, 27, 28, 29, 30, 31, 32, 33, 34, 35, 36, 37] rfl rfl rfl (Up.of [] [] rfl rfl rfl 38 rfl (by decide +kernel)) rfl rfl (Nat.le_of_ble_eq_true rfl) ?_
    cases h
    exact x_iret (pc := 13) X hR d_Vol_on_13
theorem d_Vol_count_0 : decode b_Vol_count 0 = .ok (.iload_n 1, 1) := by decide +kernel
theorem d_Vol_count_1 : decode b_Vol_count 1 = .ok (.bipush 11, 2) := by decide +kernel
theorem d_Vol_count_3 : decode b_Vol_count 3 = .ok (.if_icmp .lt 19, 3) := by decide +kernel
theorem d_Vol_count_6 : decode b_Vol_count 6 = .ok (.iload_n 1, 1) := by decide +kernel
theorem d_Vol_count_7 : decode b_Vol_count 7 = .ok (.bipush 16, 2) := by decide +kernel
theorem d_Vol_count_9 : decode b_Vol_count 9 = .ok (.if_icmp .gt 13, 3) := by decide +kernel
theorem d_Vol_count_12 : decode b_Vol_count 12 = .ok (.aload_n 0, 1) := by decide +kernel
theorem d_Vol_count_13 : decode b_Vol_count 13 = .ok (.getfield 47, 3) := by decide +kernel
theorem d_Vol_count_16 : decode b_Vol_count 16 = .ok (.iload_n 1, 1) := by decide +kernel
theorem d_Vol_count_17 : decode b_Vol_count 17 = .ok (.bipush 10, 2) := by decide +kernel
theorem d_Vol_count_19 : decode b_Vol_count 19 = .ok (.isub, 1) := by decide +kernel
theorem d_Vol_count_20 : decode b_Vol_count 20 = .ok (.iaload, 1) := by decide +kernel
theorem d_Vol_count_21 : decode b_Vol_count 21 = .ok (.ireturn, 1) := by decide +kernel
theorem d_Vol_count_22 : decode b_Vol_count 22 = .ok (.iload_n 1, 1) := by decide +kernel
theorem d_Vol_count_23 : decode b_Vol_count 23 = .ok (.tableswitch 115 0 7 #[45, 53, 61, 69, 80, 88, 96, 104], 45) := by decide +kernel
theorem d_Vol_count_68 : decode b_Vol_count 68 = .ok (.aload_n 0, 1) := by decide +kernel
theorem d_Vol_count_69 : decode b_Vol_count 69 = .ok (.getfield 10, 3) := by decide +kernel
theorem d_Vol_count_72 : decode b_Vol_count 72 = .ok (.invokevirtual 264, 3) := by decide +kernel
theorem d_Vol_count_75 : decode b_Vol_count 75 = .ok (.ireturn, 1) := by decide +kernel
theorem d_Vol_count_76 : decode b_Vol_count 76 = .ok (.aload_n 0, 1) := by decide +kernel
theorem d_Vol_count_77 : decode b_Vol_count 77 = .ok (.getfield 10, 3) := by decide +kernel
theorem d_Vol_count_80 : decode b_Vol_count 80 = .ok (.invokevirtual 285, 3) := by decide +kernel
theorem d_Vol_count_83 : decode b_Vol_count 83 = .ok (.ireturn, 1) := by decide +kernel
theorem d_Vol_count_84 : decode b_Vol_count 84 = .ok (.aload_n 0, 1) := by decide +kernel
theorem d_Vol_count_85 : decode b_Vol_count 85 = .ok (.getfield 10, 3) := by decide +kernel
theorem d_Vol_count_88 : decode b_Vol_count 88 = .ok (.invokevirtual 240, 3) := by decide +kernel
theorem d_Vol_count_91 : decode b_Vol_count 91 = .ok (.ireturn, 1) := by decide +kernel
theorem d_Vol_count_92 : decode b_Vol_count 92 = .ok (.aload_n 0, 1) := by decide +kernel
theorem d_Vol_count_93 : decode b_Vol_count 93 = .ok (.getfield 10, 3) := by decide +kernel
theorem d_Vol_count_96 : decode b_Vol_count 96 = .ok (.invokevirtual 156, 3) := by decide +kernel
theorem d_Vol_count_99 : decode b_Vol_count 99 = .ok (.getfield 160, 3) := by decide +kernel
theorem d_Vol_count_102 : decode b_Vol_count 102 = .ok (.ireturn, 1) := by decide +kernel
theorem d_Vol_count_103 : decode b_Vol_count 103 = .ok (.aload_n 0, 1) := by decide +kernel
theorem d_Vol_count_104 : decode b_Vol_count 104 = .ok (.getfield 10, 3) := by decide +kernel
theorem d_Vol_count_107 : decode b_Vol_count 107 = .ok (.invokevirtual 288, 3) := by decide +kernel
theorem d_Vol_count_110 : decode b_Vol_count 110 = .ok (.ireturn, 1) := by decide +kernel
theorem d_Vol_count_111 : decode b_Vol_count 111 = .ok (.aload_n 0, 1) := by decide +kernel
theorem d_Vol_count_112 : decode b_Vol_count 112 = .ok (.getfield 10, 3) := by decide +kernel
theorem d_Vol_count_115 : decode b_Vol_count 115 = .ok (.invokevirtual 267, 3) := by decide +kernel
theorem d_Vol_count_118 : decode b_Vol_count 118 = .ok (.ireturn, 1) := by decide +kernel
theorem d_Vol_count_119 : decode b_Vol_count 119 = .ok (.aload_n 0, 1) := by decide +kernel
theorem d_Vol_count_120 : decode b_Vol_count 120 = .ok (.getfield 43, 3) := by decide +kernel
theorem d_Vol_count_123 : decode b_Vol_count 123 = .ok (.getfield 270, 3) := by decide +kernel
theorem d_Vol_count_126 : decode b_Vol_count 126 = .ok (.ireturn, 1) := by decide +kernel
theorem d_Vol_count_127 : decode b_Vol_count 127 = .ok (.aload_n 0, 1) := by decide +kernel
theorem d_Vol_count_128 : decode b_Vol_count 128 = .ok (.getfield 34, 3) := by decide +kernel
theorem d_Vol_count_131 : decode b_Vol_count 131 = .ok (.getfield 59, 3) := by decide +kernel
theorem d_Vol_count_134 : decode b_Vol_count 134 = .ok (.getfield 270, 3) := by decide +kernel
theorem d_Vol_count_137 : decode b_Vol_count 137 = .ok (.ireturn, 1) := by decide +kernel
theorem d_Vol_count_138 : decode b_Vol_count 138 = .ok (.bipush (-9), 2) := by decide +kernel
theorem d_Vol_count_140 : decode b_Vol_count 140 = .ok (.ireturn, 1) := by decide +kernel
def m_Vol_count (x1 : Int) (now : Int → Int) (npl : Int → Int) (nva : Int → Int) (nwr : Int → Int) (nrm : Int) (nrs : Int → Int) (nrz : Int → Int) (smn : Int) (rmn : Int) (rf : Int → Int) : Option (Int × Int × (Int → Int) × (Int → Int)) :=
  jn (fun (z2 : Int) (c3 : Int) (c4 : Int → Int) (c5 : Int → Int) => ceq z2 0 (bnd (m_Disk_freeBlocks now) (fun r6 => some (r6, c3, c4, c5))) (ceq z2 1 (bnd (m_Disk_promisedInAll npl nva) (fun r8 => some (r8, c3, c4, c5))) (ceq z2 2 (bnd (m_Disk_roomLeft now npl nva) (fun r10 => some (r10, c3, c4, c5))) (ceq z2 3 (bnd (m_Disk_lookedAtRuns now c3 c4 c5) (fun r12 => some (r12.1, r12.1, r12.2.1, r12.2.2))) (ceq z2 4 (bnd (m_Disk_greatestSize now c3 c4 c5) (fun r14 => some (r14.1, r14.2.1, r14.2.2.1, r14.2.2.2))) (ceq z2 5 (bnd (m_Disk_extentsInAll npl nwr) (fun r16 => some (r16, c3, c4, c5))) (ceq z2 6 (some (rmn, c3, c4, c5)) (ceq z2 7 (some (smn, c3, c4, c5)) (some ((-9), c3, c4, c5)))))))))) (fun j1 => clt x1 11 (j1 x1 nrm nrs nrz) (cle x1 16 (gd (zx (x1 - 10) 7) (some ((rf (x1 - 10)), nrm, nrs, nrz))) (j1 x1 nrm nrs nrz)))
set_option maxHeartbeats 4000000 in
set_option maxRecDepth 100000 in
theorem c_Vol_count (l : Launch) (D : va_G) (cI cB : ClassId) (a0 a1 a2 a3 a4 a5 a6 a7 a8 a9 a10 a11 a12 a13 a14 a15 a16 a17 a18 a19 a20 a21 a22 a23 a24 a25 a26 a27 a28 a29 a30 a31 a32 a33 a34 a35 a36 a37 : Nat) (ik : Int) (now : Int → Int) (nbt : Int → Int) (nki : Int → Int) (npl : Int → Int) (nva : Int → Int) (nwr : Int → Int) (nrm : Int) (nrs : Int → Int) (nrz : Int → Int) (kow : Int → Int) (kbt : Int → Int) (kki : Int → Int) (kpl : Int → Int) (kva : Int → Int) (kwr : Int → Int) (krm : Int) (krs : Int → Int) (krz : Int → Int) (tow : Int → Int) (tbt : Int → Int) (tki : Int → Int) (tpl : Int → Int) (tva : Int → Int) (twr : Int → Int) (trm : Int) (trs : Int → Int) (trz : Int → Int) (seed : Int) (smn : Int) (snu : Int → Int) (rmn : Int) (rnu : Int → Int) (rf : Int → Int) (x1 : Int) {o : Int × Int × (Int → Int) × (Int → Int)} (h : m_Vol_count x1 now npl nva nwr nrm nrs nrz smn rmn rf = some o) : Ct l D cI cB y_Vol_count b_Vol_count 2 (some .int) { frames := 4, cells := 0, slots := 0, locals := 91 } [.ref a0, .int (zi x1)] (w_Vol cI cB a0 a1 a2 a3 a4 a5 a6 a7 a8 a9 a10 a11 a12 a13 a14 a15 a16 a17 a18 a19 a20 a21 a22 a23 a24 a25 a26 a27 a28 a29 a30 a31 a32 a33 a34 a35 a36 a37 ik now nbt nki npl nva nwr nrm nrs nrz kow kbt kki kpl kva kwr krm krs krz tow tbt tki tpl tva twr trm trs trz seed smn snu rmn rnu rf) (w_Vol cI cB a0 a1 a2 a3 a4 a5 a6 a7 a8 a9 a10 a11 a12 a13 a14 a15 a16 a17 a18 a19 a20 a21 a22 a23 a24 a25 a26 a27 a28 a29 a30 a31 a32 a33 a34 a35 a36 a37 ik now nbt nki npl nva nwr o.2.1 o.2.2.1 o.2.2.2 kow kbt kki kpl kva kwr krm krs krz tow tbt tki tpl tva twr trm trs trz seed smn snu rmn rnu rf) (some (.int (zi o.1))) := by
  refine Ct.start (by decide) (Nat.le_of_ble_eq_true rfl) (fun G X hR => ?_)
  refine x_ls (ls2 := [(0, .ref a0), (1, .int (zi x1))]) [0, 1] rfl ?_
  unfold m_Vol_count at h
  refine x_iload_n (pc := 0) X d_Vol_count_0 1 rfl rfl ?_
  refine x_bipush (pc := 1) (v := 11) X d_Vol_count_1 rfl ?_
  obtain ⟨j1, hj18, h⟩ := jn_e h
  have J19 : ∀ (z2 : Int) (c3 : Int) (c4 : Int → Int) (c5 : Int → Int), j1 z2 c3 c4 c5 = some o → Wx G 0 0 22 [(0, .ref a0), (1, .int (zi z2))] [] (w_Vol cI cB a0 a1 a2 a3 a4 a5 a6 a7 a8 a9 a10 a11 a12 a13 a14 a15 a16 a17 a18 a19 a20 a21 a22 a23 a24 a25 a26 a27 a28 a29 a30 a31 a32 a33 a34 a35 a36 a37 ik now nbt nki npl nva nwr c3 c4 c5 kow kbt kki kpl kva kwr krm krs krz tow tbt tki tpl tva twr trm trs trz seed smn snu rmn rnu rf) := by
    intro z2 c3 c4 c5 h
    rw [hj18] at h
    (try dsimp only at h)
    refine x_iload_n (pc := 22) X d_Vol_count_22 1 rfl rfl ?_
    obtain ⟨hz, h⟩ := ceq_e h
    rcases h with ⟨e0, h⟩ | ⟨n0, h⟩
    · refine x_tsIn (pc := 23) (v := 0) (tgt := 68) X d_Vol_count_23 e0 ⟨by decide, by decide⟩ (by decide) (by decide) rfl rfl ?_
      refine x_aload_n (pc := 68) X d_Vol_count_68 0 rfl rfl ?_
      refine x_get (pc := 69) X d_Vol_count_69 0 rfl fl_Vol_10 rfl ?_
      obtain ⟨r6, h7, h⟩ := bnd_e h
      refine x_callV (pc := 72) (As := []) (rest := []) (w2 := (w_Vol cI cB a0 a1 a2 a3 a4 a5 a6 a7 a8 a9 a10 a11 a12 a13 a14 a15 a16 a17 a18 a19 a20 a21 a22 a23 a24 a25 a26 a27 a28 a29 a30 a31 a32 a33 a34 a35 a36 a37 ik now nbt nki npl nva nwr c3 c4 c5 kow kbt kki kpl kva kwr krm krs krz tow tbt tki tpl tva twr trm trs trz seed smn snu rmn rnu rf)) X d_Vol_count_72 lk_Vol_264 mv_Disk_freeBlocks (c_Disk_freeBlocks l D cI cB a1 a2 a3 a4 a5 a6 a7 a8 a9 a10 now nbt nki npl nva nwr c3 c4 c5 h7) ⟨(Nat.le_of_ble_eq_true rfl), (Nat.le_of_ble_eq_true rfl), (Nat.le_of_ble_eq_true rfl), (Nat.le_of_ble_eq_true rfl)⟩ 1 rfl rfl [1, 2, 3, 4, 5, 6, 7, 8, 9, 10] rfl rfl rfl (Up.same rfl) rfl rfl (Nat.le_of_ble_eq_true rfl) ?_
      cases h
      exact x_iret (pc := 75) X hR d_Vol_count_75
    obtain ⟨hz, h⟩ := ceq_e h
    rcases h with ⟨e1, h⟩ | ⟨n1, h⟩
    · refine x_tsIn (pc := 23) (v := 1) (tgt := 76) X d_Vol_count_23 e1 ⟨by decide, by decide⟩ (by decide) (by decide) rfl rfl ?_
      refine x_aload_n (pc := 76) X d_Vol_count_76 0 rfl rfl ?_
      refine x_get (pc := 77) X d_Vol_count_77 0 rfl fl_Vol_10 rfl ?_
      obtain ⟨r8, h9, h⟩ := bnd_e h
      refine x_callV (pc := 80) (As := []) (rest := []) (w2 := (w_Vol cI cB a0 a1 a2 a3 a4 a5 a6 a7 a8 a9 a10 a11 a12 a13 a14 a15 a16 a17 a18 a19 a20 a21 a22 a23 a24 a25 a26 a27 a28 a29 a30 a31 a32 a33 a34 a35 a36 a37 ik now nbt nki npl nva nwr c3 c4 c5 kow kbt kki kpl kva kwr krm krs krz tow tbt tki tpl tva twr trm trs trz seed smn snu rmn rnu rf)) X d_Vol_count_80 lk_Vol_285 mv_Disk_promisedInAll (c_Disk_promisedInAll l D cI cB a1 a2 a3 a4 a5 a6 a7 a8 a9 a10 now nbt nki npl nva nwr c3 c4 c5 h9) ⟨(Nat.le_of_ble_eq_true rfl), (Nat.le_of_ble_eq_true rfl), (Nat.le_of_ble_eq_true rfl), (Nat.le_of_ble_eq_true rfl)⟩ 1 rfl rfl [1, 2, 3, 4, 5, 6, 7, 8, 9, 10] rfl rfl rfl (Up.same rfl) rfl rfl (Nat.le_of_ble_eq_true rfl) ?_
      cases h
      exact x_iret (pc := 83) X hR d_Vol_count_83
    obtain ⟨hz, h⟩ := ceq_e h
    rcases h with ⟨e2, h⟩ | ⟨n2, h⟩
    · refine x_tsIn (pc := 23) (v := 2) (tgt := 84) X d_Vol_count_23 e2 ⟨by decide, by decide⟩ (by decide) (by decide) rfl rfl ?_
      refine x_aload_n (pc := 84) X d_Vol_count_84 0 rfl rfl ?_
      refine x_get (pc := 85) X d_Vol_count_85 0 rfl fl_Vol_10 rfl ?_
      obtain ⟨r10, h11, h⟩ := bnd_e h
      refine x_callV (pc := 88) (As := []) (rest := []) (w2 := (w_Vol cI cB a0 a1 a2 a3 a4 a5 a6 a7 a8 a9 a10 a11 a12 a13 a14 a15 a16 a17 a18 a19 a20 a21 a22 a23 a24 a25 a26 a27 a28 a29 a30 a31 a32 a33 a34 a35 a36 a37 ik now nbt nki npl nva nwr c3 c4 c5 kow kbt kki kpl kva kwr krm krs krz tow tbt tki tpl tva twr trm trs trz seed smn snu rmn rnu rf)) X d_Vol_count_88 lk_Vol_240 mv_Disk_roomLeft (c_Disk_roomLeft l D cI cB a1 a2 a3 a4 a5 a6 a7 a8 a9 a10 now nbt nki npl nva nwr c3 c4 c5 h11) ⟨(Nat.le_of_ble_eq_true rfl), (Nat.le_of_ble_eq_true rfl), (Nat.le_of_ble_eq_true rfl), (Nat.le_of_ble_eq_true rfl)⟩ 1 rfl rfl [1, 2, 3, 4, 5, 6, 7, 8, 9, 10] rfl rfl rfl (Up.same rfl) rfl rfl (Nat.le_of_ble_eq_true rfl) ?_
      cases h
      exact x_iret (pc := 91) X hR d_Vol_count_91
    obtain ⟨hz, h⟩ := ceq_e h
    rcases h with ⟨e3, h⟩ | ⟨n3, h⟩
    · refine x_tsIn (pc := 23) (v := 3) (tgt := 92) X d_Vol_count_23 e3 ⟨by decide, by decide⟩ (by decide) (by decide) rfl rfl ?_
      refine x_aload_n (pc := 92) X d_Vol_count_92 0 rfl rfl ?_
      refine x_get (pc := 93) X d_Vol_count_93 0 rfl fl_Vol_10 rfl ?_
      obtain ⟨r12, h13, h⟩ := bnd_e h
      refine x_callV (pc := 96) (As := []) (rest := []) (w2 := (w_Vol cI cB a0 a1 a2 a3 a4 a5 a6 a7 a8 a9 a10 a11 a12 a13 a14 a15 a16 a17 a18 a19 a20 a21 a22 a23 a24 a25 a26 a27 a28 a29 a30 a31 a32 a33 a34 a35 a36 a37 ik now nbt nki npl nva nwr r12.1 r12.2.1 r12.2.2 kow kbt kki kpl kva kwr krm krs krz tow tbt tki tpl tva twr trm trs trz seed smn snu rmn rnu rf)) X d_Vol_count_96 lk_Vol_156 mv_Disk_lookedAtRuns (c_Disk_lookedAtRuns l D cI cB a1 a2 a3 a4 a5 a6 a7 a8 a9 a10 now nbt nki npl nva nwr c3 c4 c5 h13) ⟨(Nat.le_of_ble_eq_true rfl), (Nat.le_of_ble_eq_true rfl), (Nat.le_of_ble_eq_true rfl), (Nat.le_of_ble_eq_true rfl)⟩ 1 rfl rfl [1, 2, 3, 4, 5, 6, 7, 8, 9, 10] rfl rfl rfl (Up.of [0, 11, 12, 13, 14, 15, 16, 17, 18, 19, 20, 21, 22, 23, 24, 25, 26, 27, 28, 29, 30, 31, 32, 33, 34, 35, 36, 37] [(a0, .inr (5, [.ref a1, .ref a11, .ref a21, .ref a31, .ref a32, .ref a35, .ref a37, .int (zi ik)])), (a11, .inr (0, [.ref a12, .ref a13, .ref a14, .ref a15, .ref a16, .ref a17, .ref a18])), (a12, zA cI 64 kow), (a13, zA cI 64 kbt), (a14, zA cI 4 kki), (a15, zA cI 96 kpl), (a16, zA cI 96 kva), (a17, zA cB 96 kwr), (a18, .inr (3, [.ref a19, .ref a20, .int (zi krm)])), (a19, zA cI 32 krs), (a20, zA cI 32 krz), (a21, .inr (0, [.ref a22, .ref a23, .ref a24, .ref a25, .ref a26, .ref a27, .ref a28])), (a22, zA cI 64 tow), (a23, zA cI 64 tbt), (a24, zA cI 4 tki), (a25, zA cI 96 tpl), (a26, zA cI 96 tva), (a27, zA cB 96 twr), (a28, .inr (3, [.ref a29, .ref a30, .int (zi trm)])), (a29, zA cI 32 trs), (a30, zA cI 32 trz), (a31, .inr (1, [.ref a1, .ref a21, .int (zi seed)])), (a32, .inr (4, [.ref a33])), (a33, .inr (2, [.ref a34, .int (zi smn)])), (a34, zA cI 96 snu), (a35, .inr (2, [.ref a36, .int (zi rmn)])), (a36, zA cI 32 rnu), (a37, zA cI 7 rf)] rfl rfl rfl 38 rfl (by decide +kernel)) rfl rfl (Nat.le_of_ble_eq_true rfl) ?_
      refine x_get (pc := 99) X d_Vol_count_99 8 rfl fl_Vol_160 rfl ?_
      cases h
      exact x_iret (pc := 102) X hR d_Vol_count_102
    obtain ⟨hz, h⟩ := ceq_e h
    rcases h with ⟨e4, h⟩ | ⟨n4, h⟩
    · refine x_tsIn (pc := 23) (v := 4) (tgt := 103) X d_Vol_count_23 e4 ⟨by decide, by decide⟩ (by decide) (by decide) rfl rfl ?_
      refine x_aload_n (pc := 103) X d_Vol_count_103 0 rfl rfl ?_
      refine x_get (pc := 104) X d_Vol_count_104 0 rfl fl_Vol_10 rfl ?_
      obtain ⟨r14, h15, h⟩ := bnd_e h
      refine x_callV (pc := 107) (As := []) (rest := []) (w2 := (w_Vol cI cB a0 a1 a2 a3 a4 a5 a6 a7 a8 a9 a10 a11 a12 a13 a14 a15 a16 a17 a18 a19 a20 a21 a22 a23 a24 a25 a26 a27 a28 a29 a30 a31 a32 a33 a34 a35 a36 a37 ik now nbt nki npl nva nwr r14.2.1 r14.2.2.1 r14.2.2.2 kow kbt kki kpl kva kwr krm krs krz tow tbt tki tpl tva twr trm trs trz seed smn snu rmn rnu rf)) X d_Vol_count_107 lk_Vol_288 mv_Disk_greatestSize (c_Disk_greatestSize l D cI cB a1 a2 a3 a4 a5 a6 a7 a8 a9 a10 now nbt nki npl nva nwr c3 c4 c5 h15) ⟨(Nat.le_of_ble_eq_true rfl), (Nat.le_of_ble_eq_true rfl), (Nat.le_of_ble_eq_true rfl), (Nat.le_of_ble_eq_true rfl)⟩ 1 rfl rfl [1, 2, 3, 4, 5, 6, 7, 8, 9, 10] rfl rfl rfl (Up.of [0, 11, 12, 13, 14, 15, 16, 17, 18, 19, 20, 21, 22, 23, 24, 25, 26, 27, 28, 29, 30, 31, 32, 33, 34, 35, 36, 37] [(a0, .inr (5, [.ref a1, .ref a11, .ref a21, .ref a31, .ref a32, .ref a35, .ref a37, .int (zi ik)])), (a11, .inr (0, [.ref a12, .ref a13, .ref a14, .ref a15, .ref a16, .ref a17, .ref a18])), (a12, zA cI 64 kow), (a13, zA cI 64 kbt), (a14, zA cI 4 kki), (a15, zA cI 96 kpl), (a16, zA cI 96 kva), (a17, zA cB 96 kwr), (a18, .inr (3, [.ref a19, .ref a20, .int (zi krm)])), (a19, zA cI 32 krs), (a20, zA cI 32 krz), (a21, .inr (0, [.ref a22, .ref a23, .ref a24, .ref a25, .ref a26, .ref a27, .ref a28])), (a22, zA cI 64 tow), (a23, zA cI 64 tbt), (a24, zA cI 4 tki), (a25, zA cI 96 tpl), (a26, zA cI 96 tva), (a27, zA cB 96 twr), (a28, .inr (3, [.ref a29, .ref a30, .int (zi trm)])), (a29, zA cI 32 trs), (a30, zA cI 32 trz), (a31, .inr (1, [.ref a1, .ref a21, .int (zi seed)])), (a32, .inr (4, [.ref a33])), (a33, .inr (2, [.ref a34, .int (zi smn)])), (a34, zA cI 96 snu), (a35, .inr (2, [.ref a36, .int (zi rmn)])), (a36, zA cI 32 rnu), (a37, zA cI 7 rf)] rfl rfl rfl 38 rfl (by decide +kernel)) rfl rfl (Nat.le_of_ble_eq_true rfl) ?_
      cases h
      exact x_iret (pc := 110) X hR d_Vol_count_110
    obtain ⟨hz, h⟩ := ceq_e h
    rcases h with ⟨e5, h⟩ | ⟨n5, h⟩
    · refine x_tsIn (pc := 23) (v := 5) (tgt := 111) X d_Vol_count_23 e5 ⟨by decide, by decide⟩ (by decide) (by decide) rfl rfl ?_
      refine x_aload_n (pc := 111) X d_Vol_count_111 0 rfl rfl ?_
      refine x_get (pc := 112) X d_Vol_count_112 0 rfl fl_Vol_10 rfl ?_
      obtain ⟨r16, h17, h⟩ := bnd_e h
      refine x_callV (pc := 115) (As := []) (rest := []) (w2 := (w_Vol cI cB a0 a1 a2 a3 a4 a5 a6 a7 a8 a9 a10 a11 a12 a13 a14 a15 a16 a17 a18 a19 a20 a21 a22 a23 a24 a25 a26 a27 a28 a29 a30 a31 a32 a33 a34 a35 a36 a37 ik now nbt nki npl nva nwr c3 c4 c5 kow kbt kki kpl kva kwr krm krs krz tow tbt tki tpl tva twr trm trs trz seed smn snu rmn rnu rf)) X d_Vol_count_115 lk_Vol_267 mv_Disk_extentsInAll (c_Disk_extentsInAll l D cI cB a1 a2 a3 a4 a5 a6 a7 a8 a9 a10 now nbt nki npl nva nwr c3 c4 c5 h17) ⟨(Nat.le_of_ble_eq_true rfl), (Nat.le_of_ble_eq_true rfl), (Nat.le_of_ble_eq_true rfl), (Nat.le_of_ble_eq_true rfl)⟩ 1 rfl rfl [1, 2, 3, 4, 5, 6, 7, 8, 9, 10] rfl rfl rfl (Up.same rfl) rfl rfl (Nat.le_of_ble_eq_true rfl) ?_
      cases h
      exact x_iret (pc := 118) X hR d_Vol_count_118
    obtain ⟨hz, h⟩ := ceq_e h
    rcases h with ⟨e6, h⟩ | ⟨n6, h⟩
    · refine x_tsIn (pc := 23) (v := 6) (tgt := 119) X d_Vol_count_23 e6 ⟨by decide, by decide⟩ (by decide) (by decide) rfl rfl ?_
      refine x_aload_n (pc := 119) X d_Vol_count_119 0 rfl rfl ?_
      refine x_get (pc := 120) X d_Vol_count_120 0 rfl fl_Vol_43 rfl ?_
      refine x_get (pc := 123) X d_Vol_count_123 35 rfl fl_Vol_270 rfl ?_
      cases h
      exact x_iret (pc := 126) X hR d_Vol_count_126
    obtain ⟨hz, h⟩ := ceq_e h
    rcases h with ⟨e7, h⟩ | ⟨n7, h⟩
    · refine x_tsIn (pc := 23) (v := 7) (tgt := 127) X d_Vol_count_23 e7 ⟨by decide, by decide⟩ (by decide) (by decide) rfl rfl ?_
      refine x_aload_n (pc := 127) X d_Vol_count_127 0 rfl rfl ?_
      refine x_get (pc := 128) X d_Vol_count_128 0 rfl fl_Vol_34 rfl ?_
      refine x_get (pc := 131) X d_Vol_count_131 32 rfl fl_Vol_59 rfl ?_
      refine x_get (pc := 134) X d_Vol_count_134 33 rfl fl_Vol_270 rfl ?_
      cases h
      exact x_iret (pc := 137) X hR d_Vol_count_137
    refine x_tsOut (pc := 23) (tgt := 138) X d_Vol_count_23 hz.1 (by omega) rfl ?_
    · skip
      refine x_bipush (pc := 138) (v := -9) X d_Vol_count_138 rfl ?_
      cases h
      exact x_iret (pc := 140) X hR d_Vol_count_140
  clear hj18
  refine x_icmplt (pc := 3) (tgt := 22) X d_Vol_count_3 rfl h (fun h => ?_) (fun h => ?_)
  · skip
    exact J19 x1 nrm nrs nrz h
  · skip
    refine x_iload_n (pc := 6) X d_Vol_count_6 1 rfl rfl ?_
    refine x_bipush (pc := 7) (v := 16) X d_Vol_count_7 rfl ?_
    refine x_icmpgt (pc := 9) (tgt := 22) X d_Vol_count_9 rfl h (fun h => ?_) (fun h => ?_)
    · skip
      exact J19 x1 nrm nrs nrz h
    · skip
      refine x_aload_n (pc := 12) X d_Vol_count_12 0 rfl rfl ?_
      refine x_get (pc := 13) X d_Vol_count_13 0 rfl fl_Vol_47 rfl ?_
      refine x_iload_n (pc := 16) X d_Vol_count_16 1 rfl rfl ?_
      refine x_bipush (pc := 17) (v := 10) X d_Vol_count_17 rfl ?_
      refine x_isub (pc := 19) X d_Vol_count_19  ?_
      refine x_iald (pc := 20) X d_Vol_count_20 37 rfl (Nat.le_of_ble_eq_true rfl) rfl h (fun h => ?_)
      cases h
      exact x_iret (pc := 21) X hR d_Vol_count_21
