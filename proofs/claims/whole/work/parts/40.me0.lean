noncomputable abbrev w_Vol (cI cB : ClassId) (a0 a1 a2 a3 a4 a5 a6 a7 a8 a9 a10 a11 a12 a13 a14 a15 a16 a17 a18 a19 a20 a21 a22 a23 a24 a25 a26 a27 a28 a29 a30 a31 a32 a33 a34 a35 a36 a37 : Nat) (ik : Int) (now : Int → Int) (nbt : Int → Int) (nki : Int → Int) (npl : Int → Int) (nva : Int → Int) (nwr : Int → Int) (nrm : Int) (nrs : Int → Int) (nrz : Int → Int) (kow : Int → Int) (kbt : Int → Int) (kki : Int → Int) (kpl : Int → Int) (kva : Int → Int) (kwr : Int → Int) (krm : Int) (krs : Int → Int) (krz : Int → Int) (tow : Int → Int) (tbt : Int → Int) (tki : Int → Int) (tpl : Int → Int) (tva : Int → Int) (twr : Int → Int) (trm : Int) (trs : Int → Int) (trz : Int → Int) (seed : Int) (smn : Int) (snu : Int → Int) (rmn : Int) (rnu : Int → Int) (rf : Int → Int) : va_W := [(a0, .inr (5, [.ref a1, .ref a11, .ref a21, .ref a31, .ref a32, .ref a35, .ref a37, .int (zi ik)])), (a1, .inr (0, [.ref a2, .ref a3, .ref a4, .ref a5, .ref a6, .ref a7, .ref a8])), (a2, zA cI 64 now), (a3, zA cI 64 nbt), (a4, zA cI 4 nki), (a5, zA cI 96 npl), (a6, zA cI 96 nva), (a7, zA cB 96 nwr), (a8, .inr (3, [.ref a9, .ref a10, .int (zi nrm)])), (a9, zA cI 32 nrs), (a10, zA cI 32 nrz), (a11, .inr (0, [.ref a12, .ref a13, .ref a14, .ref a15, .ref a16, .ref a17, .ref a18])), (a12, zA cI 64 kow), (a13, zA cI 64 kbt), (a14, zA cI 4 kki), (a15, zA cI 96 kpl), (a16, zA cI 96 kva), (a17, zA cB 96 kwr), (a18, .inr (3, [.ref a19, .ref a20, .int (zi krm)])), (a19, zA cI 32 krs), (a20, zA cI 32 krz), (a21, .inr (0, [.ref a22, .ref a23, .ref a24, .ref a25, .ref a26, .ref a27, .ref a28])), (a22, zA cI 64 tow), (a23, zA cI 64 tbt), (a24, zA cI 4 tki), (a25, zA cI 96 tpl), (a26, zA cI 96 tva), (a27, zA cB 96 twr), (a28, .inr (3, [.ref a29, .ref a30, .int (zi trm)])), (a29, zA cI 32 trs), (a30, zA cI 32 trz), (a31, .inr (1, [.ref a1, .ref a21, .int (zi seed)])), (a32, .inr (4, [.ref a33])), (a33, .inr (2, [.ref a34, .int (zi smn)])), (a34, zA cI 96 snu), (a35, .inr (2, [.ref a36, .int (zi rmn)])), (a36, zA cI 32 rnu), (a37, zA cI 7 rf)]
theorem d_Vol_refuse_0 : decode b_Vol_refuse 0 = .ok (.iload_n 1, 1) := by decide +kernel
theorem d_Vol_refuse_1 : decode b_Vol_refuse 1 = .ok (.ineg, 1) := by decide +kernel
theorem d_Vol_refuse_2 : decode b_Vol_refuse 2 = .ok (.istore_n 2, 1) := by decide +kernel
theorem d_Vol_refuse_3 : decode b_Vol_refuse 3 = .ok (.iload_n 2, 1) := by decide +kernel
theorem d_Vol_refuse_4 : decode b_Vol_refuse 4 = .ok (.ifCond .lt 22, 3) := by decide +kernel
theorem d_Vol_refuse_7 : decode b_Vol_refuse 7 = .ok (.iload_n 2, 1) := by decide +kernel
theorem d_Vol_refuse_8 : decode b_Vol_refuse 8 = .ok (.aload_n 0, 1) := by decide +kernel
theorem d_Vol_refuse_9 : decode b_Vol_refuse 9 = .ok (.getfield 47, 3) := by decide +kernel
theorem d_Vol_refuse_12 : decode b_Vol_refuse 12 = .ok (.arraylength, 1) := by decide +kernel
theorem d_Vol_refuse_13 : decode b_Vol_refuse 13 = .ok (.if_icmp .ge 13, 3) := by decide +kernel
theorem d_Vol_refuse_16 : decode b_Vol_refuse 16 = .ok (.aload_n 0, 1) := by decide +kernel
theorem d_Vol_refuse_17 : decode b_Vol_refuse 17 = .ok (.getfield 47, 3) := by decide +kernel
theorem d_Vol_refuse_20 : decode b_Vol_refuse 20 = .ok (.iload_n 2, 1) := by decide +kernel
theorem d_Vol_refuse_21 : decode b_Vol_refuse 21 = .ok (.dup2, 1) := by decide +kernel
theorem d_Vol_refuse_22 : decode b_Vol_refuse 22 = .ok (.iaload, 1) := by decide +kernel
theorem d_Vol_refuse_23 : decode b_Vol_refuse 23 = .ok (.iconst 1, 1) := by decide +kernel
theorem d_Vol_refuse_24 : decode b_Vol_refuse 24 = .ok (.iadd, 1) := by decide +kernel
theorem d_Vol_refuse_25 : decode b_Vol_refuse 25 = .ok (.iastore, 1) := by decide +kernel
theorem d_Vol_refuse_26 : decode b_Vol_refuse 26 = .ok (.iload_n 1, 1) := by decide +kernel
theorem d_Vol_refuse_27 : decode b_Vol_refuse 27 = .ok (.ireturn, 1) := by decide +kernel
def m_Vol_refuse (x1 : Int) (rf : Int → Int) : Option (Int × (Int → Int)) :=
  clt (-x1) 0 (some (x1, rf)) (clt (-x1) 7 (gd (zx (-x1) 7) (gd (zx (-x1) 7) (some (x1, (uf rf (-x1) ((rf (-x1)) + 1)))))) (some (x1, rf)))
set_option maxHeartbeats 4000000 in
set_option maxRecDepth 100000 in
theorem c_Vol_refuse (l : Launch) (D : va_G) (cI cB : ClassId) (a0 a1 a2 a3 a4 a5 a6 a7 a8 a9 a10 a11 a12 a13 a14 a15 a16 a17 a18 a19 a20 a21 a22 a23 a24 a25 a26 a27 a28 a29 a30 a31 a32 a33 a34 a35 a36 a37 : Nat) (ik : Int) (now : Int → Int) (nbt : Int → Int) (nki : Int → Int) (npl : Int → Int) (nva : Int → Int) (nwr : Int → Int) (nrm : Int) (nrs : Int → Int) (nrz : Int → Int) (kow : Int → Int) (kbt : Int → Int) (kki : Int → Int) (kpl : Int → Int) (kva : Int → Int) (kwr : Int → Int) (krm : Int) (krs : Int → Int) (krz : Int → Int) (tow : Int → Int) (tbt : Int → Int) (tki : Int → Int) (tpl : Int → Int) (tva : Int → Int) (twr : Int → Int) (trm : Int) (trs : Int → Int) (trz : Int → Int) (seed : Int) (smn : Int) (snu : Int → Int) (rmn : Int) (rnu : Int → Int) (rf : Int → Int) (x1 : Int) {o : Int × (Int → Int)} (h : m_Vol_refuse x1 rf = some o) : Ct l D cI cB y_Vol_refuse b_Vol_refuse 3 (some .int) { frames := 0, cells := 0, slots := 0, locals := 0 } [.ref a0, .int (zi x1)] (w_Vol cI cB a0 a1 a2 a3 a4 a5 a6 a7 a8 a9 a10 a11 a12 a13 a14 a15 a16 a17 a18 a19 a20 a21 a22 a23 a24 a25 a26 a27 a28 a29 a30 a31 a32 a33 a34 a35 a36 a37 ik now nbt nki npl nva nwr nrm nrs nrz kow kbt kki kpl kva kwr krm krs krz tow tbt tki tpl tva twr trm trs trz seed smn snu rmn rnu rf) (w_Vol cI cB a0 a1 a2 a3 a4 a5 a6 a7 a8 a9 a10 a11 a12 a13 a14 a15 a16 a17 a18 a19 a20 a21 a22 a23 a24 a25 a26 a27 a28 a29 a30 a31 a32 a33 a34 a35 a36 a37 ik now nbt nki npl nva nwr nrm nrs nrz kow kbt kki kpl kva kwr krm krs krz tow tbt tki tpl tva twr trm trs trz seed smn snu rmn rnu o.2) (some (.int (zi o.1))) := by
  refine Ct.start (by decide) (Nat.le_of_ble_eq_true rfl) (fun G X hR => ?_)
  refine x_ls (ls2 := [(0, .ref a0), (1, .int (zi x1))]) [0, 1] rfl ?_
  unfold m_Vol_refuse at h
  refine x_iload_n (pc := 0) X d_Vol_refuse_0 1 rfl rfl ?_
  refine x_ineg (pc := 1) X d_Vol_refuse_1  ?_
  refine x_istore_n (pc := 2) (ls2 := [(2, .int (zi (-x1))), (0, .ref a0), (1, .int (zi x1))]) X d_Vol_refuse_2 rfl (Nat.le_of_ble_eq_true rfl) rfl ?_
  refine x_iload_n (pc := 3) X d_Vol_refuse_3 0 rfl rfl ?_
  refine x_iflt (pc := 4) (tgt := 26) X d_Vol_refuse_4 rfl h (fun h => ?_) (fun h => ?_)
  · skip
    refine x_iload_n (pc := 26) X d_Vol_refuse_26 2 rfl rfl ?_
    cases h
    exact x_iret (pc := 27) X hR d_Vol_refuse_27
  · skip
    refine x_iload_n (pc := 7) X d_Vol_refuse_7 0 rfl rfl ?_
    refine x_aload_n (pc := 8) X d_Vol_refuse_8 1 rfl rfl ?_
    refine x_get (pc := 9) X d_Vol_refuse_9 0 rfl fl_Vol_47 rfl ?_
    refine x_alen (pc := 12) (M := 7) X d_Vol_refuse_12 37 rfl rfl ?_
    refine x_icmpge (pc := 13) (tgt := 26) X d_Vol_refuse_13 rfl h (fun h => ?_) (fun h => ?_)
    · skip
      refine x_iload_n (pc := 26) X d_Vol_refuse_26 2 rfl rfl ?_
      cases h
      exact x_iret (pc := 27) X hR d_Vol_refuse_27
    · skip
      refine x_aload_n (pc := 16) X d_Vol_refuse_16 1 rfl rfl ?_
      refine x_get (pc := 17) X d_Vol_refuse_17 0 rfl fl_Vol_47 rfl ?_
      refine x_iload_n (pc := 20) X d_Vol_refuse_20 0 rfl rfl ?_
      refine x_dup2 (pc := 21) X d_Vol_refuse_21 rfl rfl ?_
      refine x_iald (pc := 22) X d_Vol_refuse_22 37 rfl (Nat.le_of_ble_eq_true rfl) rfl h (fun h => ?_)
      refine x_iconst (pc := 23) X d_Vol_refuse_23  ?_
      refine x_iadd (pc := 24) X d_Vol_refuse_24  ?_
      refine x_iast (pc := 25) (w2 := (w_Vol cI cB a0 a1 a2 a3 a4 a5 a6 a7 a8 a9 a10 a11 a12 a13 a14 a15 a16 a17 a18 a19 a20 a21 a22 a23 a24 a25 a26 a27 a28 a29 a30 a31 a32 a33 a34 a35 a36 a37 ik now nbt nki npl nva nwr nrm nrs nrz kow kbt kki kpl kva kwr krm krs krz tow tbt tki tpl tva twr trm trs trz seed smn snu rmn rnu (uf rf (-x1) ((rf (-x1)) + 1)))) X d_Vol_refuse_25 37 rfl (Nat.le_of_ble_eq_true rfl) rfl rfl h (fun h => ?_)
      refine x_iload_n (pc := 26) X d_Vol_refuse_26 2 rfl rfl ?_
      cases h
      exact x_iret (pc := 27) X hR d_Vol_refuse_27
theorem d_Vol_letter_0 : decode b_Vol_letter 0 = .ok (.iload_n 1, 1) := by decide +kernel
theorem d_Vol_letter_1 : decode b_Vol_letter 1 = .ok (.ifCond .ge 10, 3) := by decide +kernel
theorem d_Vol_letter_4 : decode b_Vol_letter 4 = .ok (.aload_n 0, 1) := by decide +kernel
theorem d_Vol_letter_5 : decode b_Vol_letter 5 = .ok (.bipush (-4), 2) := by decide +kernel
theorem d_Vol_letter_7 : decode b_Vol_letter 7 = .ok (.invokevirtual 55, 3) := by decide +kernel
theorem d_Vol_letter_10 : decode b_Vol_letter 10 = .ok (.ireturn, 1) := by decide +kernel
theorem d_Vol_letter_11 : decode b_Vol_letter 11 = .ok (.iload_n 1, 1) := by decide +kernel
theorem d_Vol_letter_12 : decode b_Vol_letter 12 = .ok (.sipush 255, 3) := by decide +kernel
theorem d_Vol_letter_15 : decode b_Vol_letter 15 = .ok (.if_icmp .gt 16, 3) := by decide +kernel
theorem d_Vol_letter_18 : decode b_Vol_letter 18 = .ok (.aload_n 0, 1) := by decide +kernel
theorem d_Vol_letter_19 : decode b_Vol_letter 19 = .ok (.getfield 34, 3) := by decide +kernel
theorem d_Vol_letter_22 : decode b_Vol_letter 22 = .ok (.getfield 59, 3) := by decide +kernel
theorem d_Vol_letter_25 : decode b_Vol_letter 25 = .ok (.invokevirtual 62, 3) := by decide +kernel
theorem d_Vol_letter_28 : decode b_Vol_letter 28 = .ok (.ifCond .eq 10, 3) := by decide +kernel
theorem d_Vol_letter_31 : decode b_Vol_letter 31 = .ok (.aload_n 0, 1) := by decide +kernel
theorem d_Vol_letter_32 : decode b_Vol_letter 32 = .ok (.bipush (-6), 2) := by decide +kernel
theorem d_Vol_letter_34 : decode b_Vol_letter 34 = .ok (.invokevirtual 55, 3) := by decide +kernel
theorem d_Vol_letter_37 : decode b_Vol_letter 37 = .ok (.ireturn, 1) := by decide +kernel
theorem d_Vol_letter_38 : decode b_Vol_letter 38 = .ok (.aload_n 0, 1) := by decide +kernel
theorem d_Vol_letter_39 : decode b_Vol_letter 39 = .ok (.getfield 34, 3) := by decide +kernel
theorem d_Vol_letter_42 : decode b_Vol_letter 42 = .ok (.getfield 59, 3) := by decide +kernel
theorem d_Vol_letter_45 : decode b_Vol_letter 45 = .ok (.iload_n 1, 1) := by decide +kernel
theorem d_Vol_letter_46 : decode b_Vol_letter 46 = .ok (.invokevirtual 66, 3) := by decide +kernel
theorem d_Vol_letter_49 : decode b_Vol_letter 49 = .ok (.ireturn, 1) := by decide +kernel
def m_Vol_letter (x1 : Int) (smn : Int) (snu : Int → Int) (rf : Int → Int) : Option (Int × Int × (Int → Int) × (Int → Int)) :=
  clt x1 0 (bnd (m_Vol_refuse (-4) rf) (fun r13 => some (r13.1, smn, snu, r13.2))) (jn (fun (c2 : Int) (c3 : Int → Int) (c4 : Int → Int) => bnd (m_Vol_refuse (-6) c4) (fun r5 => some (r5.1, c2, c3, r5.2))) (fun j1 => cle x1 255 (bnd (m_Row_isFull_W96 smn) (fun r9 => ceq r9 0 (bnd (m_Row_add_W96 x1 smn snu) (fun r11 => some (r11.1, r11.2.1, r11.2.2, rf))) (j1 smn snu rf))) (j1 smn snu rf)))
set_option maxHeartbeats 4000000 in
set_option maxRecDepth 100000 in
theorem c_Vol_letter (l : Launch) (D : va_G) (cI cB : ClassId) (a0 a1 a2 a3 a4 a5 a6 a7 a8 a9 a10 a11 a12 a13 a14 a15 a16 a17 a18 a19 a20 a21 a22 a23 a24 a25 a26 a27 a28 a29 a30 a31 a32 a33 a34 a35 a36 a37 : Nat) (ik : Int) (now : Int → Int) (nbt : Int → Int) (nki : Int → Int) (npl : Int → Int) (nva : Int → Int) (nwr : Int → Int) (nrm : Int) (nrs : Int → Int) (nrz : Int → Int) (kow : Int → Int) (kbt : Int → Int) (kki : Int → Int) (kpl : Int → Int) (kva : Int → Int) (kwr : Int → Int) (krm : Int) (krs : Int → Int) (krz : Int → Int) (tow : Int → Int) (tbt : Int → Int) (tki : Int → Int) (tpl : Int → Int) (tva : Int → Int) (twr : Int → Int) (trm : Int) (trs : Int → Int) (trz : Int → Int) (seed : Int) (smn : Int) (snu : Int → Int) (rmn : Int) (rnu : Int → Int) (rf : Int → Int) (x1 : Int) {o : Int × Int × (Int → Int) × (Int → Int)} (h : m_Vol_letter x1 smn snu rf = some o) : Ct l D cI cB y_Vol_letter b_Vol_letter 2 (some .int) { frames := 1, cells := 0, slots := 0, locals := 22 } [.ref a0, .int (zi x1)] (w_Vol cI cB a0 a1 a2 a3 a4 a5 a6 a7 a8 a9 a10 a11 a12 a13 a14 a15 a16 a17 a18 a19 a20 a21 a22 a23 a24 a25 a26 a27 a28 a29 a30 a31 a32 a33 a34 a35 a36 a37 ik now nbt nki npl nva nwr nrm nrs nrz kow kbt kki kpl kva kwr krm krs krz tow tbt tki tpl tva twr trm trs trz seed smn snu rmn rnu rf) (w_Vol cI cB a0 a1 a2 a3 a4 a5 a6 a7 a8 a9 a10 a11 a12 a13 a14 a15 a16 a17 a18 a19 a20 a21 a22 a23 a24 a25 a26 a27 a28 a29 a30 a31 a32 a33 a34 a35 a36 a37 ik now nbt nki npl nva nwr nrm nrs nrz kow kbt kki kpl kva kwr krm krs krz tow tbt tki tpl tva twr trm trs trz seed o.2.1 o.2.2.1 rmn rnu o.2.2.2) (some (.int (zi o.1))) := by
  refine Ct.start (by decide) (Nat.le_of_ble_eq_true rfl) (fun G X hR => ?_)
  refine x_ls (ls2 := [(0, .ref a0), (1, .int (zi x1))]) [0, 1] rfl ?_
  unfold m_Vol_letter at h
  refine x_iload_n (pc := 0) X d_Vol_letter_0 1 rfl rfl ?_
  refine x_ifge (pc := 1) (tgt := 11) X d_Vol_letter_1 rfl h (fun h => ?_) (fun h => ?_)
  · skip
    refine x_iload_n (pc := 11) X d_Vol_letter_11 1 rfl rfl ?_
    refine x_sipush (pc := 12) (v := 255) X d_Vol_letter_12 (by decide +kernel) ?_
    obtain ⟨j1, hj7, h⟩ := jn_e h
    have J8 : ∀ (c2 : Int) (c3 : Int → Int) (c4 : Int → Int), j1 c2 c3 c4 = some o → Wx G 0 0 31 [(0, .ref a0)] [] (w_Vol cI cB a0 a1 a2 a3 a4 a5 a6 a7 a8 a9 a10 a11 a12 a13 a14 a15 a16 a17 a18 a19 a20 a21 a22 a23 a24 a25 a26 a27 a28 a29 a30 a31 a32 a33 a34 a35 a36 a37 ik now nbt nki npl nva nwr nrm nrs nrz kow kbt kki kpl kva kwr krm krs krz tow tbt tki tpl tva twr trm trs trz seed c2 c3 rmn rnu c4) := by
      intro c2 c3 c4 h
      rw [hj7] at h
      (try dsimp only at h)
      refine x_aload_n (pc := 31) X d_Vol_letter_31 0 rfl rfl ?_
      refine x_bipush (pc := 32) (v := -6) X d_Vol_letter_32 rfl ?_
      obtain ⟨r5, h6, h⟩ := bnd_e h
      refine x_callV (pc := 34) (As := [.int (zi (-6))]) (rest := []) (w2 := (w_Vol cI cB a0 a1 a2 a3 a4 a5 a6 a7 a8 a9 a10 a11 a12 a13 a14 a15 a16 a17 a18 a19 a20 a21 a22 a23 a24 a25 a26 a27 a28 a29 a30 a31 a32 a33 a34 a35 a36 a37 ik now nbt nki npl nva nwr nrm nrs nrz kow kbt kki kpl kva kwr krm krs krz tow tbt tki tpl tva twr trm trs trz seed c2 c3 rmn rnu r5.2)) X d_Vol_letter_34 lk_Vol_55 mv_Vol_refuse (c_Vol_refuse l D cI cB a0 a1 a2 a3 a4 a5 a6 a7 a8 a9 a10 a11 a12 a13 a14 a15 a16 a17 a18 a19 a20 a21 a22 a23 a24 a25 a26 a27 a28 a29 a30 a31 a32 a33 a34 a35 a36 a37 ik now nbt nki npl nva nwr nrm nrs nrz kow kbt kki kpl kva kwr krm krs krz tow tbt tki tpl tva twr trm trs trz seed c2 c3 rmn rnu c4 (-6) h6) ⟨(Nat.le_of_ble_eq_true rfl), (Nat.le_of_ble_eq_true rfl), (Nat.le_of_ble_eq_true rfl), (Nat.le_of_ble_eq_true rfl)⟩ 0 rfl rfl [0, 1, 2, 3, 4, 5, 6, 7, 8, 9, 10, 11, 12, 13, 14, 15, 16, 17, 18, 19, 20, 21, 22, 23, 24, 25, 26, 27, 28, 29, 30, 31, 32, 33, 34, 35, 36, 37] rfl rfl rfl (Up.of [] [] rfl rfl rfl 38 rfl (by decide +kernel)) rfl rfl (Nat.le_of_ble_eq_true rfl) ?_
      cases h
      exact x_iret (pc := 37) X hR d_Vol_letter_37
    clear hj7
    refine x_icmpgt (pc := 15) (tgt := 31) X d_Vol_letter_15 rfl h (fun h => ?_) (fun h => ?_)
    · skip
      refine x_ls (ls2 := [(0, .ref a0)]) [0] rfl ?_
      exact J8 smn snu rf h
    · skip
      refine x_aload_n (pc := 18) X d_Vol_letter_18 0 rfl rfl ?_
      refine x_get (pc := 19) X d_Vol_letter_19 0 rfl fl_Vol_34 rfl ?_
      refine x_get (pc := 22) X d_Vol_letter_22 32 rfl fl_Vol_59 rfl ?_
      obtain ⟨r9, h10, h⟩ := bnd_e h
      refine x_callV (pc := 25) (As := []) (rest := []) (w2 := (w_Vol cI cB a0 a1 a2 a3 a4 a5 a6 a7 a8 a9 a10 a11 a12 a13 a14 a15 a16 a17 a18 a19 a20 a21 a22 a23 a24 a25 a26 a27 a28 a29 a30 a31 a32 a33 a34 a35 a36 a37 ik now nbt nki npl nva nwr nrm nrs nrz kow kbt kki kpl kva kwr krm krs krz tow tbt tki tpl tva twr trm trs trz seed smn snu rmn rnu rf)) X d_Vol_letter_25 lk_Vol_62 mv_Row_isFull (c_Row_isFull_W96 l D cI cB a33 a34 smn snu h10) ⟨(Nat.le_of_ble_eq_true rfl), (Nat.le_of_ble_eq_true rfl), (Nat.le_of_ble_eq_true rfl), (Nat.le_of_ble_eq_true rfl)⟩ 33 rfl rfl [33, 34] rfl rfl rfl (Up.same rfl) rfl rfl (Nat.le_of_ble_eq_true rfl) ?_
      refine x_ifeq (pc := 28) (tgt := 38) X d_Vol_letter_28 rfl h (fun h => ?_) (fun h => ?_)
      · skip
        refine x_aload_n (pc := 38) X d_Vol_letter_38 0 rfl rfl ?_
        refine x_get (pc := 39) X d_Vol_letter_39 0 rfl fl_Vol_34 rfl ?_
        refine x_get (pc := 42) X d_Vol_letter_42 32 rfl fl_Vol_59 rfl ?_
        refine x_iload_n (pc := 45) X d_Vol_letter_45 1 rfl rfl ?_
        obtain ⟨r11, h12, h⟩ := bnd_e h
        refine x_callV (pc := 46) (As := [.int (zi x1)]) (rest := []) (w2 := (w_Vol cI cB a0 a1 a2 a3 a4 a5 a6 a7 a8 a9 a10 a11 a12 a13 a14 a15 a16 a17 a18 a19 a20 a21 a22 a23 a24 a25 a26 a27 a28 a29 a30 a31 a32 a33 a34 a35 a36 a37 ik now nbt nki npl nva nwr nrm nrs nrz kow kbt kki kpl kva kwr krm krs krz tow tbt tki tpl tva twr trm trs trz seed r11.2.1 r11.2.2 rmn rnu rf)) X d_Vol_letter_46 lk_Vol_66 mv_Row_add (c_Row_add_W96 l D cI cB a33 a34 smn snu x1 h12) ⟨(Nat.le_of_ble_eq_true rfl), (Nat.le_of_ble_eq_true rfl), (Nat.le_of_ble_eq_true rfl), (Nat.le_of_ble_eq_true rfl)⟩ 33 rfl rfl [33, 34] rfl rfl rfl (Up.of [0, 1, 2, 3, 4, 5, 6, 7, 8, 9, 10, 11, 12, 13, 14, 15, 16, 17, 18, 19, 20, 21, 22, 23, 24, 25, 26, 27, 28, 29, 30, 31, 32, 35, 36, 37] [(a0, .inr (5, [.ref a1, .ref a11, .ref a21, .ref a31, .ref a32, .ref a35, .ref a37, .int (zi ik)])), (a1, .inr (0, [.ref a2, .ref a3, .ref a4, .ref a5, .ref a6, .ref a7, .ref a8])), (a2, zA cI 64 now), (a3, zA cI 64 nbt), (a4, zA cI 4 nki), (a5, zA cI 96 npl), (a6, zA cI 96 nva), (a7, zA cB 96 nwr), (a8, .inr (3, [.ref a9, .ref a10, .int (zi nrm)])), (a9, zA cI 32 nrs), (a10, zA cI 32 nrz), (a11, .inr (0, [.ref a12, .ref a13, .ref a14, .ref a15, .ref a16, .ref a17, .ref a18])), (a12, zA cI 64 kow), (a13, zA cI 64 kbt), (a14, zA cI 4 kki), (a15, zA cI 96 kpl), (a16, zA cI 96 kva), (a17, zA cB 96 kwr), (a18, .inr (3, [.ref a19, .ref a20, .int (zi krm)])), (a19, zA cI 32 krs), (a20, zA cI 32 krz), (a21, .inr (0, [.ref a22, .ref a23, .ref a24, .ref a25, .ref a26, .ref a27, .ref a28])), (a22, zA cI 64 tow), (a23, zA cI 64 tbt), (a24, zA cI 4 tki), (a25, zA cI 96 tpl), (a26, zA cI 96 tva), (a27, zA cB 96 twr), (a28, .inr (3, [.ref a29, .ref a30, .int (zi trm)])), (a29, zA cI 32 trs), (a30, zA cI 32 trz), (a31, .inr (1, [.ref a1, .ref a21, .int (zi seed)])), (a32, .inr (4, [.ref a33])), (a35, .inr (2, [.ref a36, .int (zi rmn)])), (a36, zA cI 32 rnu), (a37, zA cI 7 rf)] rfl rfl rfl 38 rfl (by decide +kernel)) rfl rfl (Nat.le_of_ble_eq_true rfl) ?_
        cases h
        exact x_iret (pc := 49) X hR d_Vol_letter_49
      · skip
        refine x_ls (ls2 := [(0, .ref a0)]) [0] rfl ?_
        exact J8 smn snu rf h
  · skip
    refine x_aload_n (pc := 4) X d_Vol_letter_4 0 rfl rfl ?_
    refine x_bipush (pc := 5) (v := -4) X d_Vol_letter_5 rfl ?_
    obtain ⟨r13, h14, h⟩ := bnd_e h
    refine x_callV (pc := 7) (As := [.int (zi (-4))]) (rest := []) (w2 := (w_Vol cI cB a0 a1 a2 a3 a4 a5 a6 a7 a8 a9 a10 a11 a12 a13 a14 a15 a16 a17 a18 a19 a20 a21 a22 a23 a24 a25 a26 a27 a28 a29 a30 a31 a32 a33 a34 a35 a36 a37 ik now nbt nki npl nva nwr nrm nrs nrz kow kbt kki kpl kva kwr krm krs krz tow tbt tki tpl tva twr trm trs trz seed smn snu rmn rnu r13.2)) X d_Vol_letter_7 lk_Vol_55 mv_Vol_refuse (c_Vol_refuse l D cI cB a0 a1 a2 a3 a4 a5 a6 a7 a8 a9 a10 a11 a12 a13 a14 a15 a16 a17 a18 a19 a20 a21 a22 a23 a24 a25 a26 a27 a28 a29 a30 a31 a32 a33 a34 a35 a36 a37 ik now nbt nki npl nva nwr nrm nrs nrz kow kbt kki kpl kva kwr krm krs krz tow tbt tki tpl tva twr trm trs trz seed smn snu rmn rnu rf (-4) h14) ⟨(Nat.le_of_ble_eq_true rfl), (Nat.le_of_ble_eq_true rfl), (Nat.le_of_ble_eq_true rfl), (Nat.le_of_ble_eq_true rfl)⟩ 0 rfl rfl [0, 1, 2, 3, 4, 5, 6, 7, 8, 9, 10, 11, 12, 13, 14, 15, 16, 17, 18, 19, 20, 21, 22, 23, 24, 25, 26, 27, 28, 29, 30, 31, 32, 33, 34, 35, 36, 37] rfl rfl rfl (Up.of [] [] rfl rfl rfl 38 rfl (by decide +kernel)) rfl rfl (Nat.le_of_ble_eq_true rfl) ?_
    cases h
    exact x_iret (pc := 10) X hR d_Vol_letter_10
theorem d_Vol_volume_0 : decode b_Vol_volume 0 = .ok (.aload_n 0, 1) := by decide +kernel
theorem d_Vol_volume_1 : decode b_Vol_volume 1 = .ok (.getfield 34, 3) := by decide +kernel
theorem d_Vol_volume_4 : decode b_Vol_volume 4 = .ok (.invokevirtual 69, 3) := by decide +kernel
theorem d_Vol_volume_7 : decode b_Vol_volume 7 = .ok (.istore_n 1, 1) := by decide +kernel
theorem d_Vol_volume_8 : decode b_Vol_volume 8 = .ok (.iload_n 1, 1) := by decide +kernel
theorem d_Vol_volume_9 : decode b_Vol_volume 9 = .ok (.ifCond .ne 26, 3) := by decide +kernel
theorem d_Vol_volume_12 : decode b_Vol_volume 12 = .ok (.aload_n 0, 1) := by decide +kernel
theorem d_Vol_volume_13 : decode b_Vol_volume 13 = .ok (.getfield 16, 3) := by decide +kernel
theorem d_Vol_volume_16 : decode b_Vol_volume 16 = .ok (.aload_n 0, 1) := by decide +kernel
theorem d_Vol_volume_17 : decode b_Vol_volume 17 = .ok (.getfield 10, 3) := by decide +kernel
theorem d_Vol_volume_20 : decode b_Vol_volume 20 = .ok (.invokevirtual 73, 3) := by decide +kernel
theorem d_Vol_volume_23 : decode b_Vol_volume 23 = .ok (.aload_n 0, 1) := by decide +kernel
theorem d_Vol_volume_24 : decode b_Vol_volume 24 = .ok (.getfield 34, 3) := by decide +kernel
theorem d_Vol_volume_27 : decode b_Vol_volume 27 = .ok (.aload_n 0, 1) := by decide +kernel
theorem d_Vol_volume_28 : decode b_Vol_volume 28 = .ok (.getfield 16, 3) := by decide +kernel
theorem d_Vol_volume_31 : decode b_Vol_volume 31 = .ok (.invokevirtual 77, 3) := by decide +kernel
theorem d_Vol_volume_34 : decode b_Vol_volume 34 = .ok (.istore_n 1, 1) := by decide +kernel
theorem d_Vol_volume_35 : decode b_Vol_volume 35 = .ok (.iload_n 1, 1) := by decide +kernel
theorem d_Vol_volume_36 : decode b_Vol_volume 36 = .ok (.ifCond .le 14, 3) := by decide +kernel
theorem d_Vol_volume_39 : decode b_Vol_volume 39 = .ok (.aload_n 0, 1) := by decide +kernel
theorem d_Vol_volume_40 : decode b_Vol_volume 40 = .ok (.getfield 10, 3) := by decide +kernel
theorem d_Vol_volume_43 : decode b_Vol_volume 43 = .ok (.aload_n 0, 1) := by decide +kernel
theorem d_Vol_volume_44 : decode b_Vol_volume 44 = .ok (.getfield 16, 3) := by decide +kernel
theorem d_Vol_volume_47 : decode b_Vol_volume 47 = .ok (.invokevirtual 73, 3) := by decide +kernel
theorem d_Vol_volume_50 : decode b_Vol_volume 50 = .ok (.aload_n 0, 1) := by decide +kernel
theorem d_Vol_volume_51 : decode b_Vol_volume 51 = .ok (.getfield 34, 3) := by decide +kernel
theorem d_Vol_volume_54 : decode b_Vol_volume 54 = .ok (.getfield 59, 3) := by decide +kernel
theorem d_Vol_volume_57 : decode b_Vol_volume 57 = .ok (.invokevirtual 81, 3) := by decide +kernel
theorem d_Vol_volume_60 : decode b_Vol_volume 60 = .ok (.iload_n 1, 1) := by decide +kernel
theorem d_Vol_volume_61 : decode b_Vol_volume 61 = .ok (.ireturn, 1) := by decide +kernel
def m_Vol_volume  (now : Int → Int) (nbt : Int → Int) (nki : Int → Int) (npl : Int → Int) (nva : Int → Int) (nwr : Int → Int) (tow : Int → Int) (tbt : Int → Int) (tki : Int → Int) (tpl : Int → Int) (tva : Int → Int) (twr : Int → Int) (trm : Int) (trs : Int → Int) (trz : Int → Int) (smn : Int) (snu : Int → Int) : Option (Int × (Int → Int) × (Int → Int) × (Int → Int) × (Int → Int) × (Int → Int) × (Int → Int) × (Int → Int) × (Int → Int) × (Int → Int) × (Int → Int) × (Int → Int) × (Int → Int) × Int × (Int → Int) × (Int → Int) × Int) :=
  bnd (m_Text_faultOfForm smn snu) (fun r1 => jn (fun (z4 : Int) (c5 : Int → Int) (c6 : Int → Int) (c7 : Int → Int) (c8 : Int → Int) (c9 : Int → Int) (c10 : Int → Int) (c11 : Int → Int) (c12 : Int → Int) (c13 : Int → Int) (c14 : Int → Int) (c15 : Int → Int) (c16 : Int → Int) (c17 : Int) (c18 : Int → Int) (c19 : Int → Int) (c20 : Int) => jn (fun (z22 : Int) (c23 : Int → Int) (c24 : Int → Int) (c25 : Int → Int) (c26 : Int → Int) (c27 : Int → Int) (c28 : Int → Int) (c29 : Int → Int) (c30 : Int → Int) (c31 : Int → Int) (c32 : Int → Int) (c33 : Int → Int) (c34 : Int → Int) (c35 : Int) (c36 : Int → Int) (c37 : Int → Int) (c38 : Int) => bnd (m_Row_empty_W96 c38) (fun r39 => some (z22, c23, c24, c25, c26, c27, c28, c29, c30, c31, c32, c33, c34, c35, c36, c37, r39))) (fun j21 => cle z4 0 (j21 z4 c5 c6 c7 c8 c9 c10 c11 c12 c13 c14 c15 c16 c17 c18 c19 c20) (bnd (m_Disk_copyFrom c5 c6 c7 c8 c9 c10 c11 c12 c13 c14 c15 c16) (fun r43 => j21 z4 r43.1 r43.2.1 r43.2.2.1 r43.2.2.2.1 r43.2.2.2.2.1 r43.2.2.2.2.2 c11 c12 c13 c14 c15 c16 c17 c18 c19 c20)))) (fun j3 => ceq r1 0 (bnd (m_Disk_copyFrom tow tbt tki tpl tva twr now nbt nki npl nva nwr) (fun r47 => bnd (m_Text_playOn smn snu r47.1 r47.2.1 r47.2.2.1 r47.2.2.2.1 r47.2.2.2.2.1 r47.2.2.2.2.2 trm trs trz) (fun r49 => j3 r49.1 now nbt nki npl nva nwr r49.2.1 r49.2.2.1 r49.2.2.2.1 r49.2.2.2.2.1 r49.2.2.2.2.2.1 r49.2.2.2.2.2.2.1 r49.2.2.2.2.2.2.2.1 r49.2.2.2.2.2.2.2.2.1 r49.2.2.2.2.2.2.2.2.2 smn))) (j3 r1 now nbt nki npl nva nwr tow tbt tki tpl tva twr trm trs trz smn)))
set_option maxHeartbeats 4000000 in
set_option maxRecDepth 100000 in
theorem c_Vol_volume (l : Launch) (D : va_G) (cI cB : ClassId) (a0 a1 a2 a3 a4 a5 a6 a7 a8 a9 a10 a11 a12 a13 a14 a15 a16 a17 a18 a19 a20 a21 a22 a23 a24 a25 a26 a27 a28 a29 a30 a31 a32 a33 a34 a35 a36 a37 : Nat) (ik : Int) (now : Int → Int) (nbt : Int → Int) (nki : Int → Int) (npl : Int → Int) (nva : Int → Int) (nwr : Int → Int) (nrm : Int) (nrs : Int → Int) (nrz : Int → Int) (kow : Int → Int) (kbt : Int → Int) (kki : Int → Int) (kpl : Int → Int) (kva : Int → Int) (kwr : Int → Int) (krm : Int) (krs : Int → Int) (krz : Int → Int) (tow : Int → Int) (tbt : Int → Int) (tki : Int → Int) (tpl : Int → Int) (tva : Int → Int) (twr : Int → Int) (trm : Int) (trs : Int → Int) (trz : Int → Int) (seed : Int) (smn : Int) (snu : Int → Int) (rmn : Int) (rnu : Int → Int) (rf : Int → Int)  {o : Int × (Int → Int) × (Int → Int) × (Int → Int) × (Int → Int) × (Int → Int) × (Int → Int) × (Int → Int) × (Int → Int) × (Int → Int) × (Int → Int) × (Int → Int) × (Int → Int) × Int × (Int → Int) × (Int → Int) × Int} (h : m_Vol_volume now nbt nki npl nva nwr tow tbt tki tpl tva twr trm trs trz smn snu = some o) : Ct l D cI cB y_Vol_volume b_Vol_volume 2 (some .int) { frames := 6, cells := 0, slots := 0, locals := 153 } [.ref a0] (w_Vol cI cB a0 a1 a2 a3 a4 a5 a6 a7 a8 a9 a10 a11 a12 a13 a14 a15 a16 a17 a18 a19 a20 a21 a22 a23 a24 a25 a26 a27 a28 a29 a30 a31 a32 a33 a34 a35 a36 a37 ik now nbt nki npl nva nwr nrm nrs nrz kow kbt kki kpl kva kwr krm krs krz tow tbt tki tpl tva twr trm trs trz seed smn snu rmn rnu rf) (w_Vol cI cB a0 a1 a2 a3 a4 a5 a6 a7 a8 a9 a10 a11 a12 a13 a14 a15 a16 a17 a18 a19 a20 a21 a22 a23 a24 a25 a26 a27 a28 a29 a30 a31 a32 a33 a34 a35 a36 a37 ik o.2.1 o.2.2.1 o.2.2.2.1 o.2.2.2.2.1 o.2.2.2.2.2.1 o.2.2.2.2.2.2.1 nrm nrs nrz kow kbt kki kpl kva kwr krm krs krz o.2.2.2.2.2.2.2.1 o.2.2.2.2.2.2.2.2.1 o.2.2.2.2.2.2.2.2.2.1 o.2.2.2.2.2.2.2.2.2.2.1 o.2.2.2.2.2.2.2.2.2.2.2.1 o.2.2.2.2.2.2.2.2.2.2.2.2.1 o.2.2.2.2.2.2.2.2.2.2.2.2.2.1 o.2.2.2.2.2.2.2.2.2.2.2.2.2.2.1 o.2.2.2.2.2.2.2.2.2.2.2.2.2.2.2.1 seed o.2.2.2.2.2.2.2.2.2.2.2.2.2.2.2.2 snu rmn rnu rf) (some (.int (zi o.1))) := by
  refine Ct.start (by decide) (Nat.le_of_ble_eq_true rfl) (fun G X hR => ?_)
  refine x_ls (ls2 := [(0, .ref a0)]) [0] rfl ?_
  unfold m_Vol_volume at h
  refine x_aload_n (pc := 0) X d_Vol_volume_0 0 rfl rfl ?_
  refine x_get (pc := 1) X d_Vol_volume_1 0 rfl fl_Vol_34 rfl ?_
  obtain ⟨r1, h2, h⟩ := bnd_e h
  refine x_callV (pc := 4) (As := []) (rest := []) (w2 := (w_Vol cI cB a0 a1 a2 a3 a4 a5 a6 a7 a8 a9 a10 a11 a12 a13 a14 a15 a16 a17 a18 a19 a20 a21 a22 a23 a24 a25 a26 a27 a28 a29 a30 a31 a32 a33 a34 a35 a36 a37 ik now nbt nki npl nva nwr nrm nrs nrz kow kbt kki kpl kva kwr krm krs krz tow tbt tki tpl tva twr trm trs trz seed smn snu rmn rnu rf)) X d_Vol_volume_4 lk_Vol_69 mv_Text_faultOfForm (c_Text_faultOfForm l D cI cB a32 a33 a34 smn snu h2) ⟨(Nat.le_of_ble_eq_true rfl), (Nat.le_of_ble_eq_true rfl), (Nat.le_of_ble_eq_true rfl), (Nat.le_of_ble_eq_true rfl)⟩ 32 rfl rfl [32, 33, 34] rfl rfl rfl (Up.same rfl) rfl rfl (Nat.le_of_ble_eq_true rfl) ?_
  refine x_istore_n (pc := 7) (ls2 := [(1, .int (zi r1)), (0, .ref a0)]) X d_Vol_volume_7 rfl (Nat.le_of_ble_eq_true rfl) rfl ?_
  refine x_iload_n (pc := 8) X d_Vol_volume_8 0 rfl rfl ?_
  obtain ⟨j3, hj45, h⟩ := jn_e h
  have J46 : ∀ (z4 : Int) (c5 : Int → Int) (c6 : Int → Int) (c7 : Int → Int) (c8 : Int → Int) (c9 : Int → Int) (c10 : Int → Int) (c11 : Int → Int) (c12 : Int → Int) (c13 : Int → Int) (c14 : Int → Int) (c15 : Int → Int) (c16 : Int → Int) (c17 : Int) (c18 : Int → Int) (c19 : Int → Int) (c20 : Int), j3 z4 c5 c6 c7 c8 c9 c10 c11 c12 c13 c14 c15 c16 c17 c18 c19 c20 = some o → Wx G 0 0 35 [(0, .ref a0), (1, .int (zi z4))] [] (w_Vol cI cB a0 a1 a2 a3 a4 a5 a6 a7 a8 a9 a10 a11 a12 a13 a14 a15 a16 a17 a18 a19 a20 a21 a22 a23 a24 a25 a26 a27 a28 a29 a30 a31 a32 a33 a34 a35 a36 a37 ik c5 c6 c7 c8 c9 c10 nrm nrs nrz kow kbt kki kpl kva kwr krm krs krz c11 c12 c13 c14 c15 c16 c17 c18 c19 seed c20 snu rmn rnu rf) := by
    intro z4 c5 c6 c7 c8 c9 c10 c11 c12 c13 c14 c15 c16 c17 c18 c19 c20 h
    rw [hj45] at h
    (try dsimp only at h)
    refine x_iload_n (pc := 35) X d_Vol_volume_35 1 rfl rfl ?_
    obtain ⟨j21, hj41, h⟩ := jn_e h
    have J42 : ∀ (z22 : Int) (c23 : Int → Int) (c24 : Int → Int) (c25 : Int → Int) (c26 : Int → Int) (c27 : Int → Int) (c28 : Int → Int) (c29 : Int → Int) (c30 : Int → Int) (c31 : Int → Int) (c32 : Int → Int) (c33 : Int → Int) (c34 : Int → Int) (c35 : Int) (c36 : Int → Int) (c37 : Int → Int) (c38 : Int), j21 z22 c23 c24 c25 c26 c27 c28 c29 c30 c31 c32 c33 c34 c35 c36 c37 c38 = some o → Wx G 0 0 50 [(0, .ref a0), (1, .int (zi z22))] [] (w_Vol cI cB a0 a1 a2 a3 a4 a5 a6 a7 a8 a9 a10 a11 a12 a13 a14 a15 a16 a17 a18 a19 a20 a21 a22 a23 a24 a25 a26 a27 a28 a29 a30 a31 a32 a33 a34 a35 a36 a37 ik c23 c24 c25 c26 c27 c28 nrm nrs nrz kow kbt kki kpl kva kwr krm krs krz c29 c30 c31 c32 c33 c34 c35 c36 c37 seed c38 snu rmn rnu rf) := by
      intro z22 c23 c24 c25 c26 c27 c28 c29 c30 c31 c32 c33 c34 c35 c36 c37 c38 h
      rw [hj41] at h
      (try dsimp only at h)
      refine x_aload_n (pc := 50) X d_Vol_volume_50 0 rfl rfl ?_
      refine x_get (pc := 51) X d_Vol_volume_51 0 rfl fl_Vol_34 rfl ?_
      refine x_get (pc := 54) X d_Vol_volume_54 32 rfl fl_Vol_59 rfl ?_
      obtain ⟨r39, h40, h⟩ := bnd_e h
      refine x_callV (pc := 57) (As := []) (rest := []) (w2 := (w_Vol cI cB a0 a1 a2 a3 a4 a5 a6 a7 a8 a9 a10 a11 a12 a13 a14 a15 a16 a17 a18 a19 a20 a21 a22 a23 a24 a25 a26 a27 a28 a29 a30 a31 a32 a33 a34 a35 a36 a37 ik c23 c24 c25 c26 c27 c28 nrm nrs nrz kow kbt kki kpl kva kwr krm krs krz c29 c30 c31 c32 c33 c34 c35 c36 c37 seed r39 snu rmn rnu rf)) X d_Vol_volume_57 lk_Vol_81 mv_Row_empty (c_Row_empty_W96 l D cI cB a33 a34 c38 snu h40) ⟨(Nat.le_of_ble_eq_true rfl), (Nat.le_of_ble_eq_true rfl), (Nat.le_of_ble_eq_true rfl), (Nat.le_of_ble_eq_true rfl)⟩ 33 rfl rfl [33, 34] rfl rfl rfl (Up.of [0, 1, 2, 3, 4, 5, 6, 7, 8, 9, 10, 11, 12, 13, 14, 15, 16, 17, 18, 19, 20, 21, 22, 23, 24, 25, 26, 27, 28, 29, 30, 31, 32, 35, 36, 37] [(a0, .inr (5, [.ref a1, .ref a11, .ref a21, .ref a31, .ref a32, .ref a35, .ref a37, .int (zi ik)])), (a1, .inr (0, [.ref a2, .ref a3, .ref a4, .ref a5, .ref a6, .ref a7, .ref a8])), (a2, zA cI 64 c23), (a3, zA cI 64 c24), (a4, zA cI 4 c25), (a5, zA cI 96 c26), (a6, zA cI 96 c27), (a7, zA cB 96 c28), (a8, .inr (3, [.ref a9, .ref a10, .int (zi nrm)])), (a9, zA cI 32 nrs), (a10, zA cI 32 nrz), (a11, .inr (0, [.ref a12, .ref a13, .ref a14, .ref a15, .ref a16, .ref a17, .ref a18])), (a12, zA cI 64 kow), (a13, zA cI 64 kbt), (a14, zA cI 4 kki), (a15, zA cI 96 kpl), (a16, zA cI 96 kva), (a17, zA cB 96 kwr), (a18, .inr (3, [.ref a19, .ref a20, .int (zi krm)])), (a19, zA cI 32 krs), (a20, zA cI 32 krz), (a21, .inr (0, [.ref a22, .ref a23, .ref a24, .ref a25, .ref a26, .ref a27, .ref a28])), (a22, zA cI 64 c29), (a23, zA cI 64 c30), (a24, zA cI 4 c31), (a25, zA cI 96 c32), (a26, zA cI 96 c33), (a27, zA cB 96 c34), (a28, .inr (3, [.ref a29, .ref a30, .int (zi c35)])), (a29, zA cI 32 c36), (a30, zA cI 32 c37), (a31, .inr (1, [.ref a1, .ref a21, .int (zi seed)])), (a32, .inr (4, [.ref a33])), (a35, .inr (2, [.ref a36, .int (zi rmn)])), (a36, zA cI 32 rnu), (a37, zA cI 7 rf)] rfl rfl rfl 38 rfl (by decide +kernel)) rfl rfl (Nat.le_of_ble_eq_true rfl) ?_
      refine x_iload_n (pc := 60) X d_Vol_volume_60 1 rfl rfl ?_
      cases h
      exact x_iret (pc := 61) X hR d_Vol_volume_61
    clear hj41
    refine x_ifle (pc := 36) (tgt := 50) X d_Vol_volume_36 rfl h (fun h => ?_) (fun h => ?_)
    · skip
      exact J42 z4 c5 c6 c7 c8 c9 c10 c11 c12 c13 c14 c15 c16 c17 c18 c19 c20 h
    · skip
      refine x_aload_n (pc := 39) X d_Vol_volume_39 0 rfl rfl ?_
      refine x_get (pc := 40) X d_Vol_volume_40 0 rfl fl_Vol_10 rfl ?_
      refine x_aload_n (pc := 43) X d_Vol_volume_43 0 rfl rfl ?_
      refine x_get (pc := 44) X d_Vol_volume_44 0 rfl fl_Vol_16 rfl ?_
      obtain ⟨r43, h44, h⟩ := bnd_e h
      refine x_callV (pc := 47) (As := [.ref a21]) (rest := []) (w2 := (w_Vol cI cB a0 a1 a2 a3 a4 a5 a6 a7 a8 a9 a10 a11 a12 a13 a14 a15 a16 a17 a18 a19 a20 a21 a22 a23 a24 a25 a26 a27 a28 a29 a30 a31 a32 a33 a34 a35 a36 a37 ik r43.1 r43.2.1 r43.2.2.1 r43.2.2.2.1 r43.2.2.2.2.1 r43.2.2.2.2.2 nrm nrs nrz kow kbt kki kpl kva kwr krm krs krz c11 c12 c13 c14 c15 c16 c17 c18 c19 seed c20 snu rmn rnu rf)) X d_Vol_volume_47 lk_Vol_73 mv_Disk_copyFrom (c_Disk_copyFrom l D cI cB a1 a2 a3 a4 a5 a6 a7 a8 a9 a10 a21 a22 a23 a24 a25 a26 a27 a28 a29 a30 c5 c6 c7 c8 c9 c10 nrm nrs nrz c11 c12 c13 c14 c15 c16 c17 c18 c19 h44) ⟨(Nat.le_of_ble_eq_true rfl), (Nat.le_of_ble_eq_true rfl), (Nat.le_of_ble_eq_true rfl), (Nat.le_of_ble_eq_true rfl)⟩ 1 rfl rfl [1, 2, 3, 4, 5, 6, 7, 8, 9, 10, 21, 22, 23, 24, 25, 26, 27, 28, 29, 30] rfl rfl rfl (Up.of [0, 11, 12, 13, 14, 15, 16, 17, 18, 19, 20, 31, 32, 33, 34, 35, 36, 37] [(a0, .inr (5, [.ref a1, .ref a11, .ref a21, .ref a31, .ref a32, .ref a35, .ref a37, .int (zi ik)])), (a11, .inr (0, [.ref a12, .ref a13, .ref a14, .ref a15, .ref a16, .ref a17, .ref a18])), (a12, zA cI 64 kow), (a13, zA cI 64 kbt), (a14, zA cI 4 kki), (a15, zA cI 96 kpl), (a16, zA cI 96 kva), (a17, zA cB 96 kwr), (a18, .inr (3, [.ref a19, .ref a20, .int (zi krm)])), (a19, zA cI 32 krs), (a20, zA cI 32 krz), (a31, .inr (1, [.ref a1, .ref a21, .int (zi seed)])), (a32, .inr (4, [.ref a33])), (a33, .inr (2, [.ref a34, .int (zi c20)])), (a34, zA cI 96 snu), (a35, .inr (2, [.ref a36, .int (zi rmn)])), (a36, zA cI 32 rnu), (a37, zA cI 7 rf)] rfl rfl rfl 38 rfl (by decide +kernel)) rfl rfl (Nat.le_of_ble_eq_true rfl) ?_
      exact J42 z4 r43.1 r43.2.1 r43.2.2.1 r43.2.2.2.1 r43.2.2.2.2.1 r43.2.2.2.2.2 c11 c12 c13 c14 c15 c16 c17 c18 c19 c20 h
  clear hj45
  refine x_ifne (pc := 9) (tgt := 35) X d_Vol_volume_9 rfl h (fun h => ?_) (fun h => ?_)
  · skip
    refine x_ls (ls2 := [(0, .ref a0), (1, .int (zi r1))]) [1, 0] rfl ?_
    exact J46 r1 now nbt nki npl nva nwr tow tbt tki tpl tva twr trm trs trz smn h
  · skip
    refine x_aload_n (pc := 12) X d_Vol_volume_12 1 rfl rfl ?_
    refine x_get (pc := 13) X d_Vol_volume_13 0 rfl fl_Vol_16 rfl ?_
    refine x_aload_n (pc := 16) X d_Vol_volume_16 1 rfl rfl ?_
    refine x_get (pc := 17) X d_Vol_volume_17 0 rfl fl_Vol_10 rfl ?_
    obtain ⟨r47, h48, h⟩ := bnd_e h
    refine x_callV (pc := 20) (As := [.ref a1]) (rest := []) (w2 := (w_Vol cI cB a0 a1 a2 a3 a4 a5 a6 a7 a8 a9 a10 a11 a12 a13 a14 a15 a16 a17 a18 a19 a20 a21 a22 a23 a24 a25 a26 a27 a28 a29 a30 a31 a32 a33 a34 a35 a36 a37 ik now nbt nki npl nva nwr nrm nrs nrz kow kbt kki kpl kva kwr krm krs krz r47.1 r47.2.1 r47.2.2.1 r47.2.2.2.1 r47.2.2.2.2.1 r47.2.2.2.2.2 trm trs trz seed smn snu rmn rnu rf)) X d_Vol_volume_20 lk_Vol_73 mv_Disk_copyFrom (c_Disk_copyFrom l D cI cB a21 a22 a23 a24 a25 a26 a27 a28 a29 a30 a1 a2 a3 a4 a5 a6 a7 a8 a9 a10 tow tbt tki tpl tva twr trm trs trz now nbt nki npl nva nwr nrm nrs nrz h48) ⟨(Nat.le_of_ble_eq_true rfl), (Nat.le_of_ble_eq_true rfl), (Nat.le_of_ble_eq_true rfl), (Nat.le_of_ble_eq_true rfl)⟩ 21 rfl rfl [21, 22, 23, 24, 25, 26, 27, 28, 29, 30, 1, 2, 3, 4, 5, 6, 7, 8, 9, 10] rfl rfl rfl (Up.of [0, 11, 12, 13, 14, 15, 16, 17, 18, 19, 20, 31, 32, 33, 34, 35, 36, 37] [(a0, .inr (5, [.ref a1, .ref a11, .ref a21, .ref a31, .ref a32, .ref a35, .ref a37, .int (zi ik)])), (a11, .inr (0, [.ref a12, .ref a13, .ref a14, .ref a15, .ref a16, .ref a17, .ref a18])), (a12, zA cI 64 kow), (a13, zA cI 64 kbt), (a14, zA cI 4 kki), (a15, zA cI 96 kpl), (a16, zA cI 96 kva), (a17, zA cB 96 kwr), (a18, .inr (3, [.ref a19, .ref a20, .int (zi krm)])), (a19, zA cI 32 krs), (a20, zA cI 32 krz), (a31, .inr (1, [.ref a1, .ref a21, .int (zi seed)])), (a32, .inr (4, [.ref a33])), (a33, .inr (2, [.ref a34, .int (zi smn)])), (a34, zA cI 96 snu), (a35, .inr (2, [.ref a36, .int (zi rmn)])), (a36, zA cI 32 rnu), (a37, zA cI 7 rf)] rfl rfl rfl 38 rfl (by decide +kernel)) rfl rfl (Nat.le_of_ble_eq_true rfl) ?_
    refine x_aload_n (pc := 23) X d_Vol_volume_23 1 rfl rfl ?_
    refine x_get (pc := 24) X d_Vol_volume_24 0 rfl fl_Vol_34 rfl ?_
    refine x_aload_n (pc := 27) X d_Vol_volume_27 1 rfl rfl ?_
    refine x_get (pc := 28) X d_Vol_volume_28 0 rfl fl_Vol_16 rfl ?_
    obtain ⟨r49, h50, h⟩ := bnd_e h
    refine x_callV (pc := 31) (As := [.ref a21]) (rest := []) (w2 := (w_Vol cI cB a0 a1 a2 a3 a4 a5 a6 a7 a8 a9 a10 a11 a12 a13 a14 a15 a16 a17 a18 a19 a20 a21 a22 a23 a24 a25 a26 a27 a28 a29 a30 a31 a32 a33 a34 a35 a36 a37 ik now nbt nki npl nva nwr nrm nrs nrz kow kbt kki kpl kva kwr krm krs krz r49.2.1 r49.2.2.1 r49.2.2.2.1 r49.2.2.2.2.1 r49.2.2.2.2.2.1 r49.2.2.2.2.2.2.1 r49.2.2.2.2.2.2.2.1 r49.2.2.2.2.2.2.2.2.1 r49.2.2.2.2.2.2.2.2.2 seed smn snu rmn rnu rf)) X d_Vol_volume_31 lk_Vol_77 mv_Text_playOn (c_Text_playOn l D cI cB a32 a33 a34 a21 a22 a23 a24 a25 a26 a27 a28 a29 a30 smn snu r47.1 r47.2.1 r47.2.2.1 r47.2.2.2.1 r47.2.2.2.2.1 r47.2.2.2.2.2 trm trs trz h50) ⟨(Nat.le_of_ble_eq_true rfl), (Nat.le_of_ble_eq_true rfl), (Nat.le_of_ble_eq_true rfl), (Nat.le_of_ble_eq_true rfl)⟩ 32 rfl rfl [32, 33, 34, 21, 22, 23, 24, 25, 26, 27, 28, 29, 30] rfl rfl rfl (Up.of [0, 1, 2, 3, 4, 5, 6, 7, 8, 9, 10, 11, 12, 13, 14, 15, 16, 17, 18, 19, 20, 31, 35, 36, 37] [(a0, .inr (5, [.ref a1, .ref a11, .ref a21, .ref a31, .ref a32, .ref a35, .ref a37, .int (zi ik)])), (a1, .inr (0, [.ref a2, .ref a3, .ref a4, .ref a5, .ref a6, .ref a7, .ref a8])), (a2, zA cI 64 now), (a3, zA cI 64 nbt), (a4, zA cI 4 nki), (a5, zA cI 96 npl), (a6, zA cI 96 nva), (a7, zA cB 96 nwr), (a8, .inr (3, [.ref a9, .ref a10, .int (zi nrm)])), (a9, zA cI 32 nrs), (a10, zA cI 32 nrz), (a11, .inr (0, [.ref a12, .ref a13, .ref a14, .ref a15, .ref a16, .ref a17, .ref a18])), (a12, zA cI 64 kow), (a13, zA cI 64 kbt), (a14, zA cI 4 kki), (a15, zA cI 96 kpl), (a16, zA cI 96 kva), (a17, zA cB 96 kwr), (a18, .inr (3, [.ref a19, .ref a20, .int (zi krm)])), (a19, zA cI 32 krs), (a20, zA cI 32 krz), (a31, .inr (1, [.ref a1, .ref a21, .int (zi seed)])), (a35, .inr (2, [.ref a36, .int (zi rmn)])), (a36, zA cI 32 rnu), (a37, zA cI 7 rf)] rfl rfl rfl 38 rfl (by decide +kernel)) rfl rfl (Nat.le_of_ble_eq_true rfl) ?_
    refine x_istore_n (pc := 34) (ls2 := [(1, .int (zi r49.1)), (0, .ref a0)]) X d_Vol_volume_34 rfl (Nat.le_of_ble_eq_true rfl) rfl ?_
    refine x_ls (ls2 := [(0, .ref a0), (1, .int (zi r49.1))]) [1, 0] rfl ?_
    exact J46 r49.1 now nbt nki npl nva nwr r49.2.1 r49.2.2.1 r49.2.2.2.1 r49.2.2.2.2.1 r49.2.2.2.2.2.1 r49.2.2.2.2.2.2.1 r49.2.2.2.2.2.2.2.1 r49.2.2.2.2.2.2.2.2.1 r49.2.2.2.2.2.2.2.2.2 smn h
theorem d_Vol_page_0 : decode b_Vol_page 0 = .ok (.iload_n 1, 1) := by decide +kernel
theorem d_Vol_page_1 : decode b_Vol_page 1 = .ok (.invokestatic 84, 3) := by decide +kernel
theorem d_Vol_page_4 : decode b_Vol_page 4 = .ok (.ifCond .eq 10, 3) := by decide +kernel
theorem d_Vol_page_7 : decode b_Vol_page 7 = .ok (.iload_n 2, 1) := by decide +kernel
theorem d_Vol_page_8 : decode b_Vol_page 8 = .ok (.invokestatic 88, 3) := by decide +kernel
theorem d_Vol_page_11 : decode b_Vol_page 11 = .ok (.ifCond .ne 9, 3) := by decide +kernel
theorem d_Vol_page_14 : decode b_Vol_page 14 = .ok (.aload_n 0, 1) := by decide +kernel
theorem d_Vol_page_15 : decode b_Vol_page 15 = .ok (.iconst (-1), 1) := by decide +kernel
theorem d_Vol_page_16 : decode b_Vol_page 16 = .ok (.invokevirtual 55, 3) := by decide +kernel
theorem d_Vol_page_19 : decode b_Vol_page 19 = .ok (.ireturn, 1) := by decide +kernel
theorem d_Vol_page_20 : decode b_Vol_page 20 = .ok (.iload_n 3, 1) := by decide +kernel
theorem d_Vol_page_21 : decode b_Vol_page 21 = .ok (.tableswitch 71 0 2 #[27, 40, 58], 27) := by decide +kernel
theorem d_Vol_page_48 : decode b_Vol_page 48 = .ok (.aload_n 0, 1) := by decide +kernel
theorem d_Vol_page_49 : decode b_Vol_page 49 = .ok (.getfield 10, 3) := by decide +kernel
theorem d_Vol_page_52 : decode b_Vol_page 52 = .ok (.iload_n 1, 1) := by decide +kernel
theorem d_Vol_page_53 : decode b_Vol_page 53 = .ok (.iload_n 2, 1) := by decide +kernel
theorem d_Vol_page_54 : decode b_Vol_page 54 = .ok (.invokevirtual 91, 3) := by decide +kernel
theorem d_Vol_page_57 : decode b_Vol_page 57 = .ok (.invokestatic 95, 3) := by decide +kernel
theorem d_Vol_page_60 : decode b_Vol_page 60 = .ok (.ireturn, 1) := by decide +kernel
theorem d_Vol_page_61 : decode b_Vol_page 61 = .ok (.aload_n 0, 1) := by decide +kernel
theorem d_Vol_page_62 : decode b_Vol_page 62 = .ok (.getfield 10, 3) := by decide +kernel
theorem d_Vol_page_65 : decode b_Vol_page 65 = .ok (.iload_n 1, 1) := by decide +kernel
theorem d_Vol_page_66 : decode b_Vol_page 66 = .ok (.iload_n 2, 1) := by decide +kernel
theorem d_Vol_page_67 : decode b_Vol_page 67 = .ok (.invokevirtual 98, 3) := by decide +kernel
theorem d_Vol_page_70 : decode b_Vol_page 70 = .ok (.ifCond .eq 7, 3) := by decide +kernel
theorem d_Vol_page_73 : decode b_Vol_page 73 = .ok (.iconst 1, 1) := by decide +kernel
theorem d_Vol_page_74 : decode b_Vol_page 74 = .ok (.goto 4, 3) := by decide +kernel
theorem d_Vol_page_77 : decode b_Vol_page 77 = .ok (.iconst 0, 1) := by decide +kernel
theorem d_Vol_page_78 : decode b_Vol_page 78 = .ok (.ireturn, 1) := by decide +kernel
theorem d_Vol_page_79 : decode b_Vol_page 79 = .ok (.aload_n 0, 1) := by decide +kernel
theorem d_Vol_page_80 : decode b_Vol_page 80 = .ok (.getfield 10, 3) := by decide +kernel
theorem d_Vol_page_83 : decode b_Vol_page 83 = .ok (.iload_n 1, 1) := by decide +kernel
theorem d_Vol_page_84 : decode b_Vol_page 84 = .ok (.iload_n 2, 1) := by decide +kernel
theorem d_Vol_page_85 : decode b_Vol_page 85 = .ok (.invokevirtual 102, 3) := by decide +kernel
theorem d_Vol_page_88 : decode b_Vol_page 88 = .ok (.invokestatic 95, 3) := by decide +kernel
theorem d_Vol_page_91 : decode b_Vol_page 91 = .ok (.ireturn, 1) := by decide +kernel
theorem d_Vol_page_92 : decode b_Vol_page 92 = .ok (.aload_n 0, 1) := by decide +kernel
theorem d_Vol_page_93 : decode b_Vol_page 93 = .ok (.bipush (-2), 2) := by decide +kernel
theorem d_Vol_page_95 : decode b_Vol_page 95 = .ok (.invokevirtual 55, 3) := by decide +kernel
theorem d_Vol_page_98 : decode b_Vol_page 98 = .ok (.ireturn, 1) := by decide +kernel
def m_Vol_page (x1 : Int) (x2 : Int) (x3 : Int) (npl : Int → Int) (nva : Int → Int) (nwr : Int → Int) (rf : Int → Int) : Option (Int × (Int → Int)) :=
  bnd (m_Vol_isFile x1) (fun r1 => jn (fun (c4 : Int → Int) => bnd (m_Vol_refuse (-1) c4) (fun r5 => some (r5.1, r5.2))) (fun j3 => ceq r1 0 (j3 rf) (bnd (m_Vol_isPage x2) (fun r9 => ceq r9 0 (j3 rf) (ceq x3 0 (bnd (m_Disk_blockAt x1 x2 npl) (fun r13 => bnd (m_Vol_orNothing r13) (fun r15 => some (r15, rf)))) (ceq x3 1 (bnd (m_Disk_isWritten x1 x2 nwr) (fun r17 => ceq r17 0 (some (0, rf)) (some (1, rf)))) (ceq x3 2 (bnd (m_Disk_valueAt x1 x2 nva) (fun r19 => bnd (m_Vol_orNothing r19) (fun r21 => some (r21, rf)))) (bnd (m_Vol_refuse (-2) rf) (fun r11 => some (r11.1, r11.2))))))))))
set_option maxHeartbeats 4000000 in
set_option maxRecDepth 100000 in
theorem c_Vol_page (l : Launch) (D : va_G) (cI cB : ClassId) (a0 a1 a2 a3 a4 a5 a6 a7 a8 a9 a10 a11 a12 a13 a14 a15 a16 a17 a18 a19 a20 a21 a22 a23 a24 a25 a26 a27 a28 a29 a30 a31 a32 a33 a34 a35 a36 a37 : Nat) (ik : Int) (now : Int → Int) (nbt : Int → Int) (nki : Int → Int) (npl : Int → Int) (nva : Int → Int) (nwr : Int → Int) (nrm : Int) (nrs : Int → Int) (nrz : Int → Int) (kow : Int → Int) (kbt : Int → Int) (kki : Int → Int) (kpl : Int → Int) (kva : Int → Int) (kwr : Int → Int) (krm : Int) (krs : Int → Int) (krz : Int → Int) (tow : Int → Int) (tbt : Int → Int) (tki : Int → Int) (tpl : Int → Int) (tva : Int → Int) (twr : Int → Int) (trm : Int) (trs : Int → Int) (trz : Int → Int) (seed : Int) (smn : Int) (snu : Int → Int) (rmn : Int) (rnu : Int → Int) (rf : Int → Int) (x1 : Int) (x2 : Int) (x3 : Int) {o : Int × (Int → Int)} (h : m_Vol_page x1 x2 x3 npl nva nwr rf = some o) : Ct l D cI cB y_Vol_page b_Vol_page 4 (some .int) { frames := 1, cells := 0, slots := 0, locals := 23 } [.ref a0, .int (zi x1), .int (zi x2), .int (zi x3)] (w_Vol cI cB a0 a1 a2 a3 a4 a5 a6 a7 a8 a9 a10 a11 a12 a13 a14 a15 a16 a17 a18 a19 a20 a21 a22 a23 a24 a25 a26 a27 a28 a29 a30 a31 a32 a33 a34 a35 a36 a37 ik now nbt nki npl nva nwr nrm nrs nrz kow kbt kki kpl kva kwr krm krs krz tow tbt tki tpl tva twr trm trs trz seed smn snu rmn rnu rf) (w_Vol cI cB a0 a1 a2 a3 a4 a5 a6 a7 a8 a9 a10 a11 a12 a13 a14 a15 a16 a17 a18 a19 a20 a21 a22 a23 a24 a25 a26 a27 a28 a29 a30 a31 a32 a33 a34 a35 a36 a37 ik now nbt nki npl nva nwr nrm nrs nrz kow kbt kki kpl kva kwr krm krs krz tow tbt tki tpl tva twr trm trs trz seed smn snu rmn rnu o.2) (some (.int (zi o.1))) := by
  refine Ct.start (by decide) (Nat.le_of_ble_eq_true rfl) (fun G X hR => ?_)
  refine x_ls (ls2 := [(0, .ref a0), (1, .int (zi x1)), (2, .int (zi x2)), (3, .int (zi x3))]) [0, 1, 2, 3] rfl ?_
  unfold m_Vol_page at h
  refine x_iload_n (pc := 0) X d_Vol_page_0 1 rfl rfl ?_
  obtain ⟨r1, h2, h⟩ := bnd_e h
  refine x_callS (pc := 1) (As := [.int (zi x1)]) (rest := []) (w2 := (w_Vol cI cB a0 a1 a2 a3 a4 a5 a6 a7 a8 a9 a10 a11 a12 a13 a14 a15 a16 a17 a18 a19 a20 a21 a22 a23 a24 a25 a26 a27 a28 a29 a30 a31 a32 a33 a34 a35 a36 a37 ik now nbt nki npl nva nwr nrm nrs nrz kow kbt kki kpl kva kwr krm krs krz tow tbt tki tpl tva twr trm trs trz seed smn snu rmn rnu rf)) X d_Vol_page_1 lk_Vol_84 mv_Vol_isFile (c_Vol_isFile l D cI cB x1 h2) ⟨(Nat.le_of_ble_eq_true rfl), (Nat.le_of_ble_eq_true rfl), (Nat.le_of_ble_eq_true rfl), (Nat.le_of_ble_eq_true rfl)⟩ [] rfl rfl rfl (Up.same rfl) rfl rfl (Nat.le_of_ble_eq_true rfl) ?_
  obtain ⟨j3, hj7, h⟩ := jn_e h
  have J8 : ∀ (c4 : Int → Int), j3 c4 = some o → Wx G 0 0 14 [(0, .ref a0)] [] (w_Vol cI cB a0 a1 a2 a3 a4 a5 a6 a7 a8 a9 a10 a11 a12 a13 a14 a15 a16 a17 a18 a19 a20 a21 a22 a23 a24 a25 a26 a27 a28 a29 a30 a31 a32 a33 a34 a35 a36 a37 ik now nbt nki npl nva nwr nrm nrs nrz kow kbt kki kpl kva kwr krm krs krz tow tbt tki tpl tva twr trm trs trz seed smn snu rmn rnu c4) := by
    intro c4 h
    rw [hj7] at h
    (try dsimp only at h)
    refine x_aload_n (pc := 14) X d_Vol_page_14 0 rfl rfl ?_
    refine x_iconst (pc := 15) X d_Vol_page_15  ?_
    obtain ⟨r5, h6, h⟩ := bnd_e h
    refine x_callV (pc := 16) (As := [.int (zi (-1))]) (rest := []) (w2 := (w_Vol cI cB a0 a1 a2 a3 a4 a5 a6 a7 a8 a9 a10 a11 a12 a13 a14 a15 a16 a17 a18 a19 a20 a21 a22 a23 a24 a25 a26 a27 a28 a29 a30 a31 a32 a33 a34 a35 a36 a37 ik now nbt nki npl nva nwr nrm nrs nrz kow kbt kki kpl kva kwr krm krs krz tow tbt tki tpl tva twr trm trs trz seed smn snu rmn rnu r5.2)) X d_Vol_page_16 lk_Vol_55 mv_Vol_refuse (c_Vol_refuse l D cI cB a0 a1 a2 a3 a4 a5 a6 a7 a8 a9 a10 a11 a12 a13 a14 a15 a16 a17 a18 a19 a20 a21 a22 a23 a24 a25 a26 a27 a28 a29 a30 a31 a32 a33 a34 a35 a36 a37 ik now nbt nki npl nva nwr nrm nrs nrz kow kbt kki kpl kva kwr krm krs krz tow tbt tki tpl tva twr trm trs trz seed smn snu rmn rnu c4 (-1) h6) ⟨(Nat.le_of_ble_eq_true rfl), (Nat.le_of_ble_eq_true rfl), (Nat.le_of_ble_eq_true rfl), (Nat.le_of_ble_eq_true rfl)⟩ 0 rfl rfl [0, 1, 2, 3, 4, 5, 6, 7, 8, 9, 10, 11, 12, 13, 14, 15, 16, 17, 18, 19, 20, 21, 22, 23, 24, 25, 26, 27, 28, 29, 30, 31, 32, 33, 34, 35, 36, 37] rfl rfl rfl (Up.of [] [] rfl rfl rfl 38 rfl (by decide +kernel)) rfl rfl (Nat.le_of_ble_eq_true rfl) ?_
    cases h
    exact x_iret (pc := 19) X hR d_Vol_page_19
  clear hj7
  refine x_ifeq (pc := 4) (tgt := 14) X d_Vol_page_4 rfl h (fun h => ?_) (fun h => ?_)
  · skip
    refine x_ls (ls2 := [(0, .ref a0)]) [0] rfl ?_
    exact J8 rf h
  · skip
    refine x_iload_n (pc := 7) X d_Vol_page_7 2 rfl rfl ?_
    obtain ⟨r9, h10, h⟩ := bnd_e h
    refine x_callS (pc := 8) (As := [.int (zi x2)]) (rest := []) (w2 := (w_Vol cI cB a0 a1 a2 a3 a4 a5 a6 a7 a8 a9 a10 a11 a12 a13 a14 a15 a16 a17 a18 a19 a20 a21 a22 a23 a24 a25 a26 a27 a28 a29 a30 a31 a32 a33 a34 a35 a36 a37 ik now nbt nki npl nva nwr nrm nrs nrz kow kbt kki kpl kva kwr krm krs krz tow tbt tki tpl tva twr trm trs trz seed smn snu rmn rnu rf)) X d_Vol_page_8 lk_Vol_88 mv_Vol_isPage (c_Vol_isPage l D cI cB x2 h10) ⟨(Nat.le_of_ble_eq_true rfl), (Nat.le_of_ble_eq_true rfl), (Nat.le_of_ble_eq_true rfl), (Nat.le_of_ble_eq_true rfl)⟩ [] rfl rfl rfl (Up.same rfl) rfl rfl (Nat.le_of_ble_eq_true rfl) ?_
    refine x_ifne (pc := 11) (tgt := 20) X d_Vol_page_11 rfl h (fun h => ?_) (fun h => ?_)
    · skip
      refine x_iload_n (pc := 20) X d_Vol_page_20 3 rfl rfl ?_
      obtain ⟨hz, h⟩ := ceq_e h
      rcases h with ⟨e0, h⟩ | ⟨n0, h⟩
      · refine x_tsIn (pc := 21) (v := 0) (tgt := 48) X d_Vol_page_21 e0 ⟨by decide, by decide⟩ (by decide) (by decide) rfl rfl ?_
        refine x_aload_n (pc := 48) X d_Vol_page_48 0 rfl rfl ?_
        refine x_get (pc := 49) X d_Vol_page_49 0 rfl fl_Vol_10 rfl ?_
        refine x_iload_n (pc := 52) X d_Vol_page_52 1 rfl rfl ?_
        refine x_iload_n (pc := 53) X d_Vol_page_53 2 rfl rfl ?_
        obtain ⟨r13, h14, h⟩ := bnd_e h
        refine x_callV (pc := 54) (As := [.int (zi x1), .int (zi x2)]) (rest := []) (w2 := (w_Vol cI cB a0 a1 a2 a3 a4 a5 a6 a7 a8 a9 a10 a11 a12 a13 a14 a15 a16 a17 a18 a19 a20 a21 a22 a23 a24 a25 a26 a27 a28 a29 a30 a31 a32 a33 a34 a35 a36 a37 ik now nbt nki npl nva nwr nrm nrs nrz kow kbt kki kpl kva kwr krm krs krz tow tbt tki tpl tva twr trm trs trz seed smn snu rmn rnu rf)) X d_Vol_page_54 lk_Vol_91 mv_Disk_blockAt (c_Disk_blockAt l D cI cB a1 a2 a3 a4 a5 a6 a7 a8 a9 a10 now nbt nki npl nva nwr nrm nrs nrz x1 x2 h14) ⟨(Nat.le_of_ble_eq_true rfl), (Nat.le_of_ble_eq_true rfl), (Nat.le_of_ble_eq_true rfl), (Nat.le_of_ble_eq_true rfl)⟩ 1 rfl rfl [1, 2, 3, 4, 5, 6, 7, 8, 9, 10] rfl rfl rfl (Up.same rfl) rfl rfl (Nat.le_of_ble_eq_true rfl) ?_
        obtain ⟨r15, h16, h⟩ := bnd_e h
        refine x_callS (pc := 57) (As := [.int (zi r13)]) (rest := []) (w2 := (w_Vol cI cB a0 a1 a2 a3 a4 a5 a6 a7 a8 a9 a10 a11 a12 a13 a14 a15 a16 a17 a18 a19 a20 a21 a22 a23 a24 a25 a26 a27 a28 a29 a30 a31 a32 a33 a34 a35 a36 a37 ik now nbt nki npl nva nwr nrm nrs nrz kow kbt kki kpl kva kwr krm krs krz tow tbt tki tpl tva twr trm trs trz seed smn snu rmn rnu rf)) X d_Vol_page_57 lk_Vol_95 mv_Vol_orNothing (c_Vol_orNothing l D cI cB r13 h16) ⟨(Nat.le_of_ble_eq_true rfl), (Nat.le_of_ble_eq_true rfl), (Nat.le_of_ble_eq_true rfl), (Nat.le_of_ble_eq_true rfl)⟩ [] rfl rfl rfl (Up.same rfl) rfl rfl (Nat.le_of_ble_eq_true rfl) ?_
        cases h
        exact x_iret (pc := 60) X hR d_Vol_page_60
      obtain ⟨hz, h⟩ := ceq_e h
      rcases h with ⟨e1, h⟩ | ⟨n1, h⟩
      · refine x_tsIn (pc := 21) (v := 1) (tgt := 61) X d_Vol_page_21 e1 ⟨by decide, by decide⟩ (by decide) (by decide) rfl rfl ?_
        refine x_aload_n (pc := 61) X d_Vol_page_61 0 rfl rfl ?_
        refine x_get (pc := 62) X d_Vol_page_62 0 rfl fl_Vol_10 rfl ?_
        refine x_iload_n (pc := 65) X d_Vol_page_65 1 rfl rfl ?_
        refine x_iload_n (pc := 66) X d_Vol_page_66 2 rfl rfl ?_
        obtain ⟨r17, h18, h⟩ := bnd_e h
        refine x_callV (pc := 67) (As := [.int (zi x1), .int (zi x2)]) (rest := []) (w2 := (w_Vol cI cB a0 a1 a2 a3 a4 a5 a6 a7 a8 a9 a10 a11 a12 a13 a14 a15 a16 a17 a18 a19 a20 a21 a22 a23 a24 a25 a26 a27 a28 a29 a30 a31 a32 a33 a34 a35 a36 a37 ik now nbt nki npl nva nwr nrm nrs nrz kow kbt kki kpl kva kwr krm krs krz tow tbt tki tpl tva twr trm trs trz seed smn snu rmn rnu rf)) X d_Vol_page_67 lk_Vol_98 mv_Disk_isWritten (c_Disk_isWritten l D cI cB a1 a2 a3 a4 a5 a6 a7 a8 a9 a10 now nbt nki npl nva nwr nrm nrs nrz x1 x2 h18) ⟨(Nat.le_of_ble_eq_true rfl), (Nat.le_of_ble_eq_true rfl), (Nat.le_of_ble_eq_true rfl), (Nat.le_of_ble_eq_true rfl)⟩ 1 rfl rfl [1, 2, 3, 4, 5, 6, 7, 8, 9, 10] rfl rfl rfl (Up.same rfl) rfl rfl (Nat.le_of_ble_eq_true rfl) ?_
        refine x_ifeq (pc := 70) (tgt := 77) X d_Vol_page_70 rfl h (fun h => ?_) (fun h => ?_)
        · skip
          refine x_iconst (pc := 77) X d_Vol_page_77  ?_
          cases h
          exact x_iret (pc := 78) X hR d_Vol_page_78
        · skip
          refine x_iconst (pc := 73) X d_Vol_page_73  ?_
          refine x_goto (pc := 74) (tgt := 78) X d_Vol_page_74 rfl ?_
          cases h
          exact x_iret (pc := 78) X hR d_Vol_page_78
      obtain ⟨hz, h⟩ := ceq_e h
      rcases h with ⟨e2, h⟩ | ⟨n2, h⟩
      · refine x_tsIn (pc := 21) (v := 2) (tgt := 79) X d_Vol_page_21 e2 ⟨by decide, by decide⟩ (by decide) (by decide) rfl rfl ?_
        refine x_aload_n (pc := 79) X d_Vol_page_79 0 rfl rfl ?_
        refine x_get (pc := 80) X d_Vol_page_80 0 rfl fl_Vol_10 rfl ?_
        refine x_iload_n (pc := 83) X d_Vol_page_83 1 rfl rfl ?_
        refine x_iload_n (pc := 84) X d_Vol_page_84 2 rfl rfl ?_
        obtain ⟨r19, h20, h⟩ := bnd_e h
        refine x_callV (pc := 85) (As := [.int (zi x1), .int (zi x2)]) (rest := []) (w2 := (w_Vol cI cB a0 a1 a2 a3 a4 a5 a6 a7 a8 a9 a10 a11 a12 a13 a14 a15 a16 a17 a18 a19 a20 a21 a22 a23 a24 a25 a26 a27 a28 a29 a30 a31 a32 a33 a34 a35 a36 a37 ik now nbt nki npl nva nwr nrm nrs nrz kow kbt kki kpl kva kwr krm krs krz tow tbt tki tpl tva twr trm trs trz seed smn snu rmn rnu rf)) X d_Vol_page_85 lk_Vol_102 mv_Disk_valueAt (c_Disk_valueAt l D cI cB a1 a2 a3 a4 a5 a6 a7 a8 a9 a10 now nbt nki npl nva nwr nrm nrs nrz x1 x2 h20) ⟨(Nat.le_of_ble_eq_true rfl), (Nat.le_of_ble_eq_true rfl), (Nat.le_of_ble_eq_true rfl), (Nat.le_of_ble_eq_true rfl)⟩ 1 rfl rfl [1, 2, 3, 4, 5, 6, 7, 8, 9, 10] rfl rfl rfl (Up.same rfl) rfl rfl (Nat.le_of_ble_eq_true rfl) ?_
        obtain ⟨r21, h22, h⟩ := bnd_e h
        refine x_callS (pc := 88) (As := [.int (zi r19)]) (rest := []) (w2 := (w_Vol cI cB a0 a1 a2 a3 a4 a5 a6 a7 a8 a9 a10 a11 a12 a13 a14 a15 a16 a17 a18 a19 a20 a21 a22 a23 a24 a25 a26 a27 a28 a29 a30 a31 a32 a33 a34 a35 a36 a37 ik now nbt nki npl nva nwr nrm nrs nrz kow kbt kki kpl kva kwr krm krs krz tow tbt tki tpl tva twr trm trs trz seed smn snu rmn rnu rf)) X d_Vol_page_88 lk_Vol_95 mv_Vol_orNothing (c_Vol_orNothing l D cI cB r19 h22) ⟨(Nat.le_of_ble_eq_true rfl), (Nat.le_of_ble_eq_true rfl), (Nat.le_of_ble_eq_true rfl), (Nat.le_of_ble_eq_true rfl)⟩ [] rfl rfl rfl (Up.same rfl) rfl rfl (Nat.le_of_ble_eq_true rfl) ?_
        cases h
        exact x_iret (pc := 91) X hR d_Vol_page_91
      refine x_tsOut (pc := 21) (tgt := 92) X d_Vol_page_21 hz.1 (by omega) rfl ?_
      · skip
        refine x_aload_n (pc := 92) X d_Vol_page_92 0 rfl rfl ?_
        refine x_bipush (pc := 93) (v := -2) X d_Vol_page_93 rfl ?_
        obtain ⟨r11, h12, h⟩ := bnd_e h
        refine x_callV (pc := 95) (As := [.int (zi (-2))]) (rest := []) (w2 := (w_Vol cI cB a0 a1 a2 a3 a4 a5 a6 a7 a8 a9 a10 a11 a12 a13 a14 a15 a16 a17 a18 a19 a20 a21 a22 a23 a24 a25 a26 a27 a28 a29 a30 a31 a32 a33 a34 a35 a36 a37 ik now nbt nki npl nva nwr nrm nrs nrz kow kbt kki kpl kva kwr krm krs krz tow tbt tki tpl tva twr trm trs trz seed smn snu rmn rnu r11.2)) X d_Vol_page_95 lk_Vol_55 mv_Vol_refuse (c_Vol_refuse l D cI cB a0 a1 a2 a3 a4 a5 a6 a7 a8 a9 a10 a11 a12 a13 a14 a15 a16 a17 a18 a19 a20 a21 a22 a23 a24 a25 a26 a27 a28 a29 a30 a31 a32 a33 a34 a35 a36 a37 ik now nbt nki npl nva nwr nrm nrs nrz kow kbt kki kpl kva kwr krm krs krz tow tbt tki tpl tva twr trm trs trz seed smn snu rmn rnu rf (-2) h12) ⟨(Nat.le_of_ble_eq_true rfl), (Nat.le_of_ble_eq_true rfl), (Nat.le_of_ble_eq_true rfl), (Nat.le_of_ble_eq_true rfl)⟩ 0 rfl rfl [0, 1, 2, 3, 4, 5, 6, 7, 8, 9, 10, 11, 12, 13, 14, 15, 16, 17, 18, 19, 20, 21, 22, 23, 24, 25, 26, 27, 28, 29, 30, 31, 32, 33, 34, 35, 36, 37] rfl rfl rfl (Up.of [] [] rfl rfl rfl 38 rfl (by decide +kernel)) rfl rfl (Nat.le_of_ble_eq_true rfl) ?_
        cases h
        exact x_iret (pc := 98) X hR d_Vol_page_98
    · skip
      refine x_ls (ls2 := [(0, .ref a0)]) [0] rfl ?_
      exact J8 rf h
theorem d_Vol_file_0 : decode b_Vol_file 0 = .ok (.iload_n 1, 1) := by decide +kernel
theorem d_Vol_file_1 : decode b_Vol_file 1 = .ok (.invokestatic 84, 3) := by decide +kernel
theorem d_Vol_file_4 : decode b_Vol_file 4 = .ok (.ifCond .ne 9, 3) := by decide +kernel
theorem d_Vol_file_7 : decode b_Vol_file 7 = .ok (.aload_n 0, 1) := by decide +kernel
theorem d_Vol_file_8 : decode b_Vol_file 8 = .ok (.iconst (-1), 1) := by decide +kernel
theorem d_Vol_file_9 : decode b_Vol_file 9 = .ok (.invokevirtual 55, 3) := by decide +kernel
theorem d_Vol_file_12 : decode b_Vol_file 12 = .ok (.ireturn, 1) := by decide +kernel
theorem d_Vol_file_13 : decode b_Vol_file 13 = .ok (.iload_n 2, 1) := by decide +kernel
theorem d_Vol_file_14 : decode b_Vol_file 14 = .ok (.tableswitch 108 0 6 #[42, 51, 60, 69, 78, 87, 99], 42) := by decide +kernel
theorem d_Vol_file_56 : decode b_Vol_file 56 = .ok (.aload_n 0, 1) := by decide +kernel
theorem d_Vol_file_57 : decode b_Vol_file 57 = .ok (.getfield 10, 3) := by decide +kernel
theorem d_Vol_file_60 : decode b_Vol_file 60 = .ok (.iload_n 1, 1) := by decide +kernel
theorem d_Vol_file_61 : decode b_Vol_file 61 = .ok (.invokevirtual 105, 3) := by decide +kernel
theorem d_Vol_file_64 : decode b_Vol_file 64 = .ok (.ireturn, 1) := by decide +kernel
theorem d_Vol_file_65 : decode b_Vol_file 65 = .ok (.aload_n 0, 1) := by decide +kernel
theorem d_Vol_file_66 : decode b_Vol_file 66 = .ok (.getfield 10, 3) := by decide +kernel
theorem d_Vol_file_69 : decode b_Vol_file 69 = .ok (.iload_n 1, 1) := by decide +kernel
theorem d_Vol_file_70 : decode b_Vol_file 70 = .ok (.invokevirtual 108, 3) := by decide +kernel
theorem d_Vol_file_73 : decode b_Vol_file 73 = .ok (.ireturn, 1) := by decide +kernel
theorem d_Vol_file_74 : decode b_Vol_file 74 = .ok (.aload_n 0, 1) := by decide +kernel
theorem d_Vol_file_75 : decode b_Vol_file 75 = .ok (.getfield 10, 3) := by decide +kernel
theorem d_Vol_file_78 : decode b_Vol_file 78 = .ok (.iload_n 1, 1) := by decide +kernel
theorem d_Vol_file_79 : decode b_Vol_file 79 = .ok (.invokevirtual 111, 3) := by decide +kernel
theorem d_Vol_file_82 : decode b_Vol_file 82 = .ok (.ireturn, 1) := by decide +kernel
theorem d_Vol_file_83 : decode b_Vol_file 83 = .ok (.aload_n 0, 1) := by decide +kernel
theorem d_Vol_file_84 : decode b_Vol_file 84 = .ok (.getfield 10, 3) := by decide +kernel
theorem d_Vol_file_87 : decode b_Vol_file 87 = .ok (.iload_n 1, 1) := by decide +kernel
theorem d_Vol_file_88 : decode b_Vol_file 88 = .ok (.invokevirtual 114, 3) := by decide +kernel
theorem d_Vol_file_91 : decode b_Vol_file 91 = .ok (.ireturn, 1) := by decide +kernel
theorem d_Vol_file_92 : decode b_Vol_file 92 = .ok (.aload_n 0, 1) := by decide +kernel
theorem d_Vol_file_93 : decode b_Vol_file 93 = .ok (.getfield 10, 3) := by decide +kernel
theorem d_Vol_file_96 : decode b_Vol_file 96 = .ok (.iload_n 1, 1) := by decide +kernel
theorem d_Vol_file_97 : decode b_Vol_file 97 = .ok (.invokevirtual 117, 3) := by decide +kernel
theorem d_Vol_file_100 : decode b_Vol_file 100 = .ok (.ireturn, 1) := by decide +kernel
theorem d_Vol_file_101 : decode b_Vol_file 101 = .ok (.aload_n 0, 1) := by decide +kernel
theorem d_Vol_file_102 : decode b_Vol_file 102 = .ok (.getfield 10, 3) := by decide +kernel
theorem d_Vol_file_105 : decode b_Vol_file 105 = .ok (.iload_n 1, 1) := by decide +kernel
theorem d_Vol_file_106 : decode b_Vol_file 106 = .ok (.invokevirtual 117, 3) := by decide +kernel
theorem d_Vol_file_109 : decode b_Vol_file 109 = .ok (.invokestatic 120, 3) := by decide +kernel
theorem d_Vol_file_112 : decode b_Vol_file 112 = .ok (.ireturn, 1) := by decide +kernel
theorem d_Vol_file_113 : decode b_Vol_file 113 = .ok (.aload_n 0, 1) := by decide +kernel
theorem d_Vol_file_114 : decode b_Vol_file 114 = .ok (.getfield 10, 3) := by decide +kernel
theorem d_Vol_file_117 : decode b_Vol_file 117 = .ok (.iload_n 1, 1) := by decide +kernel
theorem d_Vol_file_118 : decode b_Vol_file 118 = .ok (.invokevirtual 123, 3) := by decide +kernel
theorem d_Vol_file_121 : decode b_Vol_file 121 = .ok (.ireturn, 1) := by decide +kernel
theorem d_Vol_file_122 : decode b_Vol_file 122 = .ok (.aload_n 0, 1) := by decide +kernel
theorem d_Vol_file_123 : decode b_Vol_file 123 = .ok (.bipush (-2), 2) := by decide +kernel
theorem d_Vol_file_125 : decode b_Vol_file 125 = .ok (.invokevirtual 55, 3) := by decide +kernel
theorem d_Vol_file_128 : decode b_Vol_file 128 = .ok (.ireturn, 1) := by decide +kernel
def m_Vol_file (x1 : Int) (x2 : Int) (nki : Int → Int) (npl : Int → Int) (nva : Int → Int) (nwr : Int → Int) (rf : Int → Int) : Option (Int × (Int → Int)) :=
  bnd (m_Vol_isFile x1) (fun r1 => ceq r1 0 (bnd (m_Vol_refuse (-1) rf) (fun r21 => some (r21.1, r21.2))) (ceq x2 0 (bnd (m_Disk_kindAt x1 nki) (fun r5 => some (r5, rf))) (ceq x2 1 (bnd (m_Disk_placedIn x1 npl) (fun r7 => some (r7, rf))) (ceq x2 2 (bnd (m_Disk_waitingIn x1 nva) (fun r9 => some (r9, rf))) (ceq x2 3 (bnd (m_Disk_promisedIn x1 npl nva) (fun r11 => some (r11, rf))) (ceq x2 4 (bnd (m_Disk_extentsIn x1 npl nwr) (fun r13 => some (r13, rf))) (ceq x2 5 (bnd (m_Disk_extentsIn x1 npl nwr) (fun r15 => bnd (m_Vol_depthOf r15) (fun r17 => some (r17, rf)))) (ceq x2 6 (bnd (m_Disk_writtenIn x1 nwr) (fun r19 => some (r19, rf))) (bnd (m_Vol_refuse (-2) rf) (fun r3 => some (r3.1, r3.2)))))))))))
set_option maxHeartbeats 4000000 in
set_option maxRecDepth 100000 in
theorem c_Vol_file (l : Launch) (D : va_G) (cI cB : ClassId) (a0 a1 a2 a3 a4 a5 a6 a7 a8 a9 a10 a11 a12 a13 a14 a15 a16 a17 a18 a19 a20 a21 a22 a23 a24 a25 a26 a27 a28 a29 a30 a31 a32 a33 a34 a35 a36 a37 : Nat) (ik : Int) (now : Int → Int) (nbt : Int → Int) (nki : Int → Int) (npl : Int → Int) (nva : Int → Int) (nwr : Int → Int) (nrm : Int) (nrs : Int → Int) (nrz : Int → Int) (kow : Int → Int) (kbt : Int → Int) (kki : Int → Int) (kpl : Int → Int) (kva : Int → Int) (kwr : Int → Int) (krm : Int) (krs : Int → Int) (krz : Int → Int) (tow : Int → Int) (tbt : Int → Int) (tki : Int → Int) (tpl : Int → Int) (tva : Int → Int) (twr : Int → Int) (trm : Int) (trs : Int → Int) (trz : Int → Int) (seed : Int) (smn : Int) (snu : Int → Int) (rmn : Int) (rnu : Int → Int) (rf : Int → Int) (x1 : Int) (x2 : Int) {o : Int × (Int → Int)} (h : m_Vol_file x1 x2 nki npl nva nwr rf = some o) : Ct l D cI cB y_Vol_file b_Vol_file 3 (some .int) { frames := 3, cells := 0, slots := 0, locals := 69 } [.ref a0, .int (zi x1), .int (zi x2)] (w_Vol cI cB a0 a1 a2 a3 a4 a5 a6 a7 a8 a9 a10 a11 a12 a13 a14 a15 a16 a17 a18 a19 a20 a21 a22 a23 a24 a25 a26 a27 a28 a29 a30 a31 a32 a33 a34 a35 a36 a37 ik now nbt nki npl nva nwr nrm nrs nrz kow kbt kki kpl kva kwr krm krs krz tow tbt tki tpl tva twr trm trs trz seed smn snu rmn rnu rf) (w_Vol cI cB a0 a1 a2 a3 a4 a5 a6 a7 a8 a9 a10 a11 a12 a13 a14 a15 a16 a17 a18 a19 a20 a21 a22 a23 a24 a25 a26 a27 a28 a29 a30 a31 a32 a33 a34 a35 a36 a37 ik now nbt nki npl nva nwr nrm nrs nrz kow kbt kki kpl kva kwr krm krs krz tow tbt tki tpl tva twr trm trs trz seed smn snu rmn rnu o.2) (some (.int (zi o.1))) := by
  refine Ct.start (by decide) (Nat.le_of_ble_eq_true rfl) (fun G X hR => ?_)
  refine x_ls (ls2 := [(0, .ref a0), (1, .int (zi x1)), (2, .int (zi x2))]) [0, 1, 2] rfl ?_
  unfold m_Vol_file at h
  refine x_iload_n (pc := 0) X d_Vol_file_0 1 rfl rfl ?_
  obtain ⟨r1, h2, h⟩ := bnd_e h
  refine x_callS (pc := 1) (As := [.int (zi x1)]) (rest := []) (w2 := (w_Vol cI cB a0 a1 a2 a3 a4 a5 a6 a7 a8 a9 a10 a11 a12 a13 a14 a15 a16 a17 a18 a19 a20 a21 a22 a23 a24 a25 a26 a27 a28 a29 a30 a31 a32 a33 a34 a35 a36 a37 ik now nbt nki npl nva nwr nrm nrs nrz kow kbt kki kpl kva kwr krm krs krz tow tbt tki tpl tva twr trm trs trz seed smn snu rmn rnu rf)) X d_Vol_file_1 lk_Vol_84 mv_Vol_isFile (c_Vol_isFile l D cI cB x1 h2) ⟨(Nat.le_of_ble_eq_true rfl), (Nat.le_of_ble_eq_true rfl), (Nat.le_of_ble_eq_true rfl), (Nat.le_of_ble_eq_true rfl)⟩ [] rfl rfl rfl (Up.same rfl) rfl rfl (Nat.le_of_ble_eq_true rfl) ?_
  refine x_ifne (pc := 4) (tgt := 13) X d_Vol_file_4 rfl h (fun h => ?_) (fun h => ?_)
  · skip
    refine x_iload_n (pc := 13) X d_Vol_file_13 2 rfl rfl ?_
    obtain ⟨hz, h⟩ := ceq_e h
    rcases h with ⟨e0, h⟩ | ⟨n0, h⟩
    · refine x_tsIn (pc := 14) (v := 0) (tgt := 56) X d_Vol_file_14 e0 ⟨by decide, by decide⟩ (by decide) (by decide) rfl rfl ?_
      refine x_aload_n (pc := 56) X d_Vol_file_56 0 rfl rfl ?_
      refine x_get (pc := 57) X d_Vol_file_57 0 rfl fl_Vol_10 rfl ?_
      refine x_iload_n (pc := 60) X d_Vol_file_60 1 rfl rfl ?_
      obtain ⟨r5, h6, h⟩ := bnd_e h
      refine x_callV (pc := 61) (As := [.int (zi x1)]) (rest := []) (w2 := (w_Vol cI cB a0 a1 a2 a3 a4 a5 a6 a7 a8 a9 a10 a11 a12 a13 a14 a15 a16 a17 a18 a19 a20 a21 a22 a23 a24 a25 a26 a27 a28 a29 a30 a31 a32 a33 a34 a35 a36 a37 ik now nbt nki npl nva nwr nrm nrs nrz kow kbt kki kpl kva kwr krm krs krz tow tbt tki tpl tva twr trm trs trz seed smn snu rmn rnu rf)) X d_Vol_file_61 lk_Vol_105 mv_Disk_kindAt (c_Disk_kindAt l D cI cB a1 a2 a3 a4 a5 a6 a7 a8 a9 a10 now nbt nki npl nva nwr nrm nrs nrz x1 h6) ⟨(Nat.le_of_ble_eq_true rfl), (Nat.le_of_ble_eq_true rfl), (Nat.le_of_ble_eq_true rfl), (Nat.le_of_ble_eq_true rfl)⟩ 1 rfl rfl [1, 2, 3, 4, 5, 6, 7, 8, 9, 10] rfl rfl rfl (Up.same rfl) rfl rfl (Nat.le_of_ble_eq_true rfl) ?_
      cases h
      exact x_iret (pc := 64) X hR d_Vol_file_64
    obtain ⟨hz, h⟩ := ceq_e h
    rcases h with ⟨e1, h⟩ | ⟨n1, h⟩
    · refine x_tsIn (pc := 14) (v := 1) (tgt := 65) X d_Vol_file_14 e1 ⟨by decide, by decide⟩ (by decide) (by decide) rfl rfl ?_
      refine x_aload_n (pc := 65) X d_Vol_file_65 0 rfl rfl ?_
      refine x_get (pc := 66) X d_Vol_file_66 0 rfl fl_Vol_10 rfl ?_
      refine x_iload_n (pc := 69) X d_Vol_file_69 1 rfl rfl ?_
      obtain ⟨r7, h8, h⟩ := bnd_e h
      refine x_callV (pc := 70) (As := [.int (zi x1)]) (rest := []) (w2 := (w_Vol cI cB a0 a1 a2 a3 a4 a5 a6 a7 a8 a9 a10 a11 a12 a13 a14 a15 a16 a17 a18 a19 a20 a21 a22 a23 a24 a25 a26 a27 a28 a29 a30 a31 a32 a33 a34 a35 a36 a37 ik now nbt nki npl nva nwr nrm nrs nrz kow kbt kki kpl kva kwr krm krs krz tow tbt tki tpl tva twr trm trs trz seed smn snu rmn rnu rf)) X d_Vol_file_70 lk_Vol_108 mv_Disk_placedIn (c_Disk_placedIn l D cI cB a1 a2 a3 a4 a5 a6 a7 a8 a9 a10 now nbt nki npl nva nwr nrm nrs nrz x1 h8) ⟨(Nat.le_of_ble_eq_true rfl), (Nat.le_of_ble_eq_true rfl), (Nat.le_of_ble_eq_true rfl), (Nat.le_of_ble_eq_true rfl)⟩ 1 rfl rfl [1, 2, 3, 4, 5, 6, 7, 8, 9, 10] rfl rfl rfl (Up.same rfl) rfl rfl (Nat.le_of_ble_eq_true rfl) ?_
      cases h
      exact x_iret (pc := 73) X hR d_Vol_file_73
    obtain ⟨hz, h⟩ := ceq_e h
    rcases h with ⟨e2, h⟩ | ⟨n2, h⟩
    · refine x_tsIn (pc := 14) (v := 2) (tgt := 74) X d_Vol_file_14 e2 ⟨by decide, by decide⟩ (by decide) (by decide) rfl rfl ?_
      refine x_aload_n (pc := 74) X d_Vol_file_74 0 rfl rfl ?_
      refine x_get (pc := 75) X d_Vol_file_75 0 rfl fl_Vol_10 rfl ?_
      refine x_iload_n (pc := 78) X d_Vol_file_78 1 rfl rfl ?_
      obtain ⟨r9, h10, h⟩ := bnd_e h
      refine x_callV (pc := 79) (As := [.int (zi x1)]) (rest := []) (w2 := (w_Vol cI cB a0 a1 a2 a3 a4 a5 a6 a7 a8 a9 a10 a11 a12 a13 a14 a15 a16 a17 a18 a19 a20 a21 a22 a23 a24 a25 a26 a27 a28 a29 a30 a31 a32 a33 a34 a35 a36 a37 ik now nbt nki npl nva nwr nrm nrs nrz kow kbt kki kpl kva kwr krm krs krz tow tbt tki tpl tva twr trm trs trz seed smn snu rmn rnu rf)) X d_Vol_file_79 lk_Vol_111 mv_Disk_waitingIn (c_Disk_waitingIn l D cI cB a1 a2 a3 a4 a5 a6 a7 a8 a9 a10 now nbt nki npl nva nwr nrm nrs nrz x1 h10) ⟨(Nat.le_of_ble_eq_true rfl), (Nat.le_of_ble_eq_true rfl), (Nat.le_of_ble_eq_true rfl), (Nat.le_of_ble_eq_true rfl)⟩ 1 rfl rfl [1, 2, 3, 4, 5, 6, 7, 8, 9, 10] rfl rfl rfl (Up.same rfl) rfl rfl (Nat.le_of_ble_eq_true rfl) ?_
      cases h
      exact x_iret (pc := 82) X hR d_Vol_file_82
    obtain ⟨hz, h⟩ := ceq_e h
    rcases h with ⟨e3, h⟩ | ⟨n3, h⟩
    · refine x_tsIn (pc := 14) (v := 3) (tgt := 83) X d_Vol_file_14 e3 ⟨by decide, by decide⟩ (by decide) (by decide) rfl rfl ?_
      refine x_aload_n (pc := 83) X d_Vol_file_83 0 rfl rfl ?_
      refine x_get (pc := 84) X d_Vol_file_84 0 rfl fl_Vol_10 rfl ?_
      refine x_iload_n (pc := 87) X d_Vol_file_87 1 rfl rfl ?_
      obtain ⟨r11, h12, h⟩ := bnd_e h
      refine x_callV (pc := 88) (As := [.int (zi x1)]) (rest := []) (w2 := (w_Vol cI cB a0 a1 a2 a3 a4 a5 a6 a7 a8 a9 a10 a11 a12 a13 a14 a15 a16 a17 a18 a19 a20 a21 a22 a23 a24 a25 a26 a27 a28 a29 a30 a31 a32 a33 a34 a35 a36 a37 ik now nbt nki npl nva nwr nrm nrs nrz kow kbt kki kpl kva kwr krm krs krz tow tbt tki tpl tva twr trm trs trz seed smn snu rmn rnu rf)) X d_Vol_file_88 lk_Vol_114 mv_Disk_promisedIn (c_Disk_promisedIn l D cI cB a1 a2 a3 a4 a5 a6 a7 a8 a9 a10 now nbt nki npl nva nwr nrm nrs nrz x1 h12) ⟨(Nat.le_of_ble_eq_true rfl), (Nat.le_of_ble_eq_true rfl), (Nat.le_of_ble_eq_true rfl), (Nat.le_of_ble_eq_true rfl)⟩ 1 rfl rfl [1, 2, 3, 4, 5, 6, 7, 8, 9, 10] rfl rfl rfl (Up.same rfl) rfl rfl (Nat.le_of_ble_eq_true rfl) ?_
      cases h
      exact x_iret (pc := 91) X hR d_Vol_file_91
    obtain ⟨hz, h⟩ := ceq_e h
    rcases h with ⟨e4, h⟩ | ⟨n4, h⟩
    · refine x_tsIn (pc := 14) (v := 4) (tgt := 92) X d_Vol_file_14 e4 ⟨by decide, by decide⟩ (by decide) (by decide) rfl rfl ?_
      refine x_aload_n (pc := 92) X d_Vol_file_92 0 rfl rfl ?_
      refine x_get (pc := 93) X d_Vol_file_93 0 rfl fl_Vol_10 rfl ?_
      refine x_iload_n (pc := 96) X d_Vol_file_96 1 rfl rfl ?_
      obtain ⟨r13, h14, h⟩ := bnd_e h
      refine x_callV (pc := 97) (As := [.int (zi x1)]) (rest := []) (w2 := (w_Vol cI cB a0 a1 a2 a3 a4 a5 a6 a7 a8 a9 a10 a11 a12 a13 a14 a15 a16 a17 a18 a19 a20 a21 a22 a23 a24 a25 a26 a27 a28 a29 a30 a31 a32 a33 a34 a35 a36 a37 ik now nbt nki npl nva nwr nrm nrs nrz kow kbt kki kpl kva kwr krm krs krz tow tbt tki tpl tva twr trm trs trz seed smn snu rmn rnu rf)) X d_Vol_file_97 lk_Vol_117 mv_Disk_extentsIn (c_Disk_extentsIn l D cI cB a1 a2 a3 a4 a5 a6 a7 a8 a9 a10 now nbt nki npl nva nwr nrm nrs nrz x1 h14) ⟨(Nat.le_of_ble_eq_true rfl), (Nat.le_of_ble_eq_true rfl), (Nat.le_of_ble_eq_true rfl), (Nat.le_of_ble_eq_true rfl)⟩ 1 rfl rfl [1, 2, 3, 4, 5, 6, 7, 8, 9, 10] rfl rfl rfl (Up.same rfl) rfl rfl (Nat.le_of_ble_eq_true rfl) ?_
      cases h
      exact x_iret (pc := 100) X hR d_Vol_file_100
    obtain ⟨hz, h⟩ := ceq_e h
    rcases h with ⟨e5, h⟩ | ⟨n5, h⟩
    · refine x_tsIn (pc := 14) (v := 5) (tgt := 101) X d_Vol_file_14 e5 ⟨by decide, by decide⟩ (by decide) (by decide) rfl rfl ?_
      refine x_aload_n (pc := 101) X d_Vol_file_101 0 rfl rfl ?_
      refine x_get (pc := 102) X d_Vol_file_102 0 rfl fl_Vol_10 rfl ?_
      refine x_iload_n (pc := 105) X d_Vol_file_105 1 rfl rfl ?_
      obtain ⟨r15, h16, h⟩ := bnd_e h
      refine x_callV (pc := 106) (As := [.int (zi x1)]) (rest := []) (w2 := (w_Vol cI cB a0 a1 a2 a3 a4 a5 a6 a7 a8 a9 a10 a11 a12 a13 a14 a15 a16 a17 a18 a19 a20 a21 a22 a23 a24 a25 a26 a27 a28 a29 a30 a31 a32 a33 a34 a35 a36 a37 ik now nbt nki npl nva nwr nrm nrs nrz kow kbt kki kpl kva kwr krm krs krz tow tbt tki tpl tva twr trm trs trz seed smn snu rmn rnu rf)) X d_Vol_file_106 lk_Vol_117 mv_Disk_extentsIn (c_Disk_extentsIn l D cI cB a1 a2 a3 a4 a5 a6 a7 a8 a9 a10 now nbt nki npl nva nwr nrm nrs nrz x1 h16) ⟨(Nat.le_of_ble_eq_true rfl), (Nat.le_of_ble_eq_true rfl), (Nat.le_of_ble_eq_true rfl), (Nat.le_of_ble_eq_true rfl)⟩ 1 rfl rfl [1, 2, 3, 4, 5, 6, 7, 8, 9, 10] rfl rfl rfl (Up.same rfl) rfl rfl (Nat.le_of_ble_eq_true rfl) ?_
      obtain ⟨r17, h18, h⟩ := bnd_e h
      refine x_callS (pc := 109) (As := [.int (zi r15)]) (rest := []) (w2 := (w_Vol cI cB a0 a1 a2 a3 a4 a5 a6 a7 a8 a9 a10 a11 a12 a13 a14 a15 a16 a17 a18 a19 a20 a21 a22 a23 a24 a25 a26 a27 a28 a29 a30 a31 a32 a33 a34 a35 a36 a37 ik now nbt nki npl nva nwr nrm nrs nrz kow kbt kki kpl kva kwr krm krs krz tow tbt tki tpl tva twr trm trs trz seed smn snu rmn rnu rf)) X d_Vol_file_109 lk_Vol_120 mv_Vol_depthOf (c_Vol_depthOf l D cI cB r15 h18) ⟨(Nat.le_of_ble_eq_true rfl), (Nat.le_of_ble_eq_true rfl), (Nat.le_of_ble_eq_true rfl), (Nat.le_of_ble_eq_true rfl)⟩ [] rfl rfl rfl (Up.same rfl) rfl rfl (Nat.le_of_ble_eq_true rfl) ?_
      cases h
      exact x_iret (pc := 112) X hR d_Vol_file_112
    obtain ⟨hz, h⟩ := ceq_e h
    rcases h with ⟨e6, h⟩ | ⟨n6, h⟩
    · refine x_tsIn (pc := 14) (v := 6) (tgt := 113) X d_Vol_file_14 e6 ⟨by decide, by decide⟩ (by decide) (by decide) rfl rfl ?_
      refine x_aload_n (pc := 113) X d_Vol_file_113 0 rfl rfl ?_
      refine x_get (pc := 114) X d_Vol_file_114 0 rfl fl_Vol_10 rfl ?_
      refine x_iload_n (pc := 117) X d_Vol_file_117 1 rfl rfl ?_
      obtain ⟨r19, h20, h⟩ := bnd_e h
      refine x_callV (pc := 118) (As := [.int (zi x1)]) (rest := []) (w2 := (w_Vol cI cB a0 a1 a2 a3 a4 a5 a6 a7 a8 a9 a10 a11 a12 a13 a14 a15 a16 a17 a18 a19 a20 a21 a22 a23 a24 a25 a26 a27 a28 a29 a30 a31 a32 a33 a34 a35 a36 a37 ik now nbt nki npl nva nwr nrm nrs nrz kow kbt kki kpl kva kwr krm krs krz tow tbt tki tpl tva twr trm trs trz seed smn snu rmn rnu rf)) X d_Vol_file_118 lk_Vol_123 mv_Disk_writtenIn (c_Disk_writtenIn l D cI cB a1 a2 a3 a4 a5 a6 a7 a8 a9 a10 now nbt nki npl nva nwr nrm nrs nrz x1 h20) ⟨(Nat.le_of_ble_eq_true rfl), (Nat.le_of_ble_eq_true rfl), (Nat.le_of_ble_eq_true rfl), (Nat.le_of_ble_eq_true rfl)⟩ 1 rfl rfl [1, 2, 3, 4, 5, 6, 7, 8, 9, 10] rfl rfl rfl (Up.same rfl) rfl rfl (Nat.le_of_ble_eq_true rfl) ?_
      cases h
      exact x_iret (pc := 121) X hR d_Vol_file_121
    refine x_tsOut (pc := 14) (tgt := 122) X d_Vol_file_14 hz.1 (by omega) rfl ?_
    · skip
      refine x_aload_n (pc := 122) X d_Vol_file_122 0 rfl rfl ?_
      refine x_bipush (pc := 123) (v := -2) X d_Vol_file_123 rfl ?_
      obtain ⟨r3, h4, h⟩ := bnd_e h
      refine x_callV (pc := 125) (As := [.int (zi (-2))]) (rest := []) (w2 := (w_Vol cI cB a0 a1 a2 a3 a4 a5 a6 a7 a8 a9 a10 a11 a12 a13 a14 a15 a16 a17 a18 a19 a20 a21 a22 a23 a24 a25 a26 a27 a28 a29 a30 a31 a32 a33 a34 a35 a36 a37 ik now nbt nki npl nva nwr nrm nrs nrz kow kbt kki kpl kva kwr krm krs krz tow tbt tki tpl tva twr trm trs trz seed smn snu rmn rnu r3.2)) X d_Vol_file_125 lk_Vol_55 mv_Vol_refuse (c_Vol_refuse l D cI cB a0 a1 a2 a3 a4 a5 a6 a7 a8 a9 a10 a11 a12 a13 a14 a15 a16 a17 a18 a19 a20 a21 a22 a23 a24 a25 a26 a27 a28 a29 a30 a31 a32 a33 a34 a35 a36 a37 ik now nbt nki npl nva nwr nrm nrs nrz kow kbt kki kpl kva kwr krm krs krz tow tbt tki tpl tva twr trm trs trz seed smn snu rmn rnu rf (-2) h4) ⟨(Nat.le_of_ble_eq_true rfl), (Nat.le_of_ble_eq_true rfl), (Nat.le_of_ble_eq_true rfl), (Nat.le_of_ble_eq_true rfl)⟩ 0 rfl rfl [0, 1, 2, 3, 4, 5, 6, 7, 8, 9, 10, 11, 12, 13, 14, 15, 16, 17, 18, 19, 20, 21, 22, 23, 24, 25, 26, 27, 28, 29, 30, 31, 32, 33, 34, 35, 36, 37] rfl rfl rfl (Up.of [] [] rfl rfl rfl 38 rfl (by decide +kernel)) rfl rfl (Nat.le_of_ble_eq_true rfl) ?_
      cases h
      exact x_iret (pc := 128) X hR d_Vol_file_128
  · skip
    refine x_aload_n (pc := 7) X d_Vol_file_7 0 rfl rfl ?_
    refine x_iconst (pc := 8) X d_Vol_file_8  ?_
    obtain ⟨r21, h22, h⟩ := bnd_e h
    refine x_callV (pc := 9) (As := [.int (zi (-1))]) (rest := []) (w2 := (w_Vol cI cB a0 a1 a2 a3 a4 a5 a6 a7 a8 a9 a10 a11 a12 a13 a14 a15 a16 a17 a18 a19 a20 a21 a22 a23 a24 a25 a26 a27 a28 a29 a30 a31 a32 a33 a34 a35 a36 a37 ik now nbt nki npl nva nwr nrm nrs nrz kow kbt kki kpl kva kwr krm krs krz tow tbt tki tpl tva twr trm trs trz seed smn snu rmn rnu r21.2)) X d_Vol_file_9 lk_Vol_55 mv_Vol_refuse (c_Vol_refuse l D cI cB a0 a1 a2 a3 a4 a5 a6 a7 a8 a9 a10 a11 a12 a13 a14 a15 a16 a17 a18 a19 a20 a21 a22 a23 a24 a25 a26 a27 a28 a29 a30 a31 a32 a33 a34 a35 a36 a37 ik now nbt nki npl nva nwr nrm nrs nrz kow kbt kki kpl kva kwr krm krs krz tow tbt tki tpl tva twr trm trs trz seed smn snu rmn rnu rf (-1) h22) ⟨(Nat.le_of_ble_eq_true rfl), (Nat.le_of_ble_eq_true rfl), (Nat.le_of_ble_eq_true rfl), (Nat.le_of_ble_eq_true rfl)⟩ 0 rfl rfl [0, 1, 2, 3, 4, 5, 6, 7, 8, 9, 10, 11, 12, 13, 14, 15, 16, 17, 18, 19, 20, 21, 22, 23, 24, 25, 26, 27, 28, 29, 30, 31, 32, 33, 34, 35, 36, 37] rfl rfl rfl (Up.of [] [] rfl rfl rfl 38 rfl (by decide +kernel)) rfl rfl (Nat.le_of_ble_eq_true rfl) ?_
    cases h
    exact x_iret (pc := 12) X hR d_Vol_file_12
theorem d_Vol_read_0 : decode b_Vol_read 0 = .ok (.iload_n 1, 1) := by decide +kernel
theorem d_Vol_read_1 : decode b_Vol_read 1 = .ok (.invokestatic 84, 3) := by decide +kernel
theorem d_Vol_read_4 : decode b_Vol_read 4 = .ok (.ifCond .eq 10, 3) := by decide +kernel
theorem d_Vol_read_7 : decode b_Vol_read 7 = .ok (.iload_n 2, 1) := by decide +kernel
theorem d_Vol_read_8 : decode b_Vol_read 8 = .ok (.invokestatic 88, 3) := by decide +kernel
theorem d_Vol_read_11 : decode b_Vol_read 11 = .ok (.ifCond .ne 9, 3) := by decide +kernel
theorem d_Vol_read_14 : decode b_Vol_read 14 = .ok (.aload_n 0, 1) := by decide +kernel
theorem d_Vol_read_15 : decode b_Vol_read 15 = .ok (.iconst (-1), 1) := by decide +kernel
theorem d_Vol_read_16 : decode b_Vol_read 16 = .ok (.invokevirtual 55, 3) := by decide +kernel
theorem d_Vol_read_19 : decode b_Vol_read 19 = .ok (.ireturn, 1) := by decide +kernel
theorem d_Vol_read_20 : decode b_Vol_read 20 = .ok (.aload_n 0, 1) := by decide +kernel
theorem d_Vol_read_21 : decode b_Vol_read 21 = .ok (.getfield 10, 3) := by decide +kernel
theorem d_Vol_read_24 : decode b_Vol_read 24 = .ok (.iload_n 1, 1) := by decide +kernel
theorem d_Vol_read_25 : decode b_Vol_read 25 = .ok (.iload_n 2, 1) := by decide +kernel
theorem d_Vol_read_26 : decode b_Vol_read 26 = .ok (.invokevirtual 126, 3) := by decide +kernel
theorem d_Vol_read_29 : decode b_Vol_read 29 = .ok (.ireturn, 1) := by decide +kernel
def m_Vol_read (x1 : Int) (x2 : Int) (nbt : Int → Int) (npl : Int → Int) (nva : Int → Int) (nwr : Int → Int) (rf : Int → Int) : Option (Int × (Int → Int)) :=
  bnd (m_Vol_isFile x1) (fun r1 => jn (fun (c4 : Int → Int) => bnd (m_Vol_refuse (-1) c4) (fun r5 => some (r5.1, r5.2))) (fun j3 => ceq r1 0 (j3 rf) (bnd (m_Vol_isPage x2) (fun r9 => ceq r9 0 (j3 rf) (bnd (m_Disk_readAt x1 x2 nbt npl nva nwr) (fun r11 => some (r11, rf)))))))
set_option maxHeartbeats 4000000 in
set_option maxRecDepth 100000 in
theorem c_Vol_read (l : Launch) (D : va_G) (cI cB : ClassId) (a0 a1 a2 a3 a4 a5 a6 a7 a8 a9 a10 a11 a12 a13 a14 a15 a16 a17 a18 a19 a20 a21 a22 a23 a24 a25 a26 a27 a28 a29 a30 a31 a32 a33 a34 a35 a36 a37 : Nat) (ik : Int) (now : Int → Int) (nbt : Int → Int) (nki : Int → Int) (npl : Int → Int) (nva : Int → Int) (nwr : Int → Int) (nrm : Int) (nrs : Int → Int) (nrz : Int → Int) (kow : Int → Int) (kbt : Int → Int) (kki : Int → Int) (kpl : Int → Int) (kva : Int → Int) (kwr : Int → Int) (krm : Int) (krs : Int → Int) (krz : Int → Int) (tow : Int → Int) (tbt : Int → Int) (tki : Int → Int) (tpl : Int → Int) (tva : Int → Int) (twr : Int → Int) (trm : Int) (trs : Int → Int) (trz : Int → Int) (seed : Int) (smn : Int) (snu : Int → Int) (rmn : Int) (rnu : Int → Int) (rf : Int → Int) (x1 : Int) (x2 : Int) {o : Int × (Int → Int)} (h : m_Vol_read x1 x2 nbt npl nva nwr rf = some o) : Ct l D cI cB y_Vol_read b_Vol_read 3 (some .int) { frames := 2, cells := 0, slots := 0, locals := 45 } [.ref a0, .int (zi x1), .int (zi x2)] (w_Vol cI cB a0 a1 a2 a3 a4 a5 a6 a7 a8 a9 a10 a11 a12 a13 a14 a15 a16 a17 a18 a19 a20 a21 a22 a23 a24 a25 a26 a27 a28 a29 a30 a31 a32 a33 a34 a35 a36 a37 ik now nbt nki npl nva nwr nrm nrs nrz kow kbt kki kpl kva kwr krm krs krz tow tbt tki tpl tva twr trm trs trz seed smn snu rmn rnu rf) (w_Vol cI cB a0 a1 a2 a3 a4 a5 a6 a7 a8 a9 a10 a11 a12 a13 a14 a15 a16 a17 a18 a19 a20 a21 a22 a23 a24 a25 a26 a27 a28 a29 a30 a31 a32 a33 a34 a35 a36 a37 ik now nbt nki npl nva nwr nrm nrs nrz kow kbt kki kpl kva kwr krm krs krz tow tbt tki tpl tva twr trm trs trz seed smn snu rmn rnu o.2) (some (.int (zi o.1))) := by
  refine Ct.start (by decide) (Nat.le_of_ble_eq_true rfl) (fun G X hR => ?_)
  refine x_ls (ls2 := [(0, .ref a0), (1, .int (zi x1)), (2, .int (zi x2))]) [0, 1, 2] rfl ?_
  unfold m_Vol_read at h
  refine x_iload_n (pc := 0) X d_Vol_read_0 1 rfl rfl ?_
  obtain ⟨r1, h2, h⟩ := bnd_e h
  refine x_callS (pc := 1) (As := [.int (zi x1)]) (rest := []) (w2 := (w_Vol cI cB a0 a1 a2 a3 a4 a5 a6 a7 a8 a9 a10 a11 a12 a13 a14 a15 a16 a17 a18 a19 a20 a21 a22 a23 a24 a25 a26 a27 a28 a29 a30 a31 a32 a33 a34 a35 a36 a37 ik now nbt nki npl nva nwr nrm nrs nrz kow kbt kki kpl kva kwr krm krs krz tow tbt tki tpl tva twr trm trs trz seed smn snu rmn rnu rf)) X d_Vol_read_1 lk_Vol_84 mv_Vol_isFile (c_Vol_isFile l D cI cB x1 h2) ⟨(Nat.le_of_ble_eq_true rfl), (Nat.le_of_ble_eq_true rfl), (Nat.le_of_ble_eq_true rfl), (Nat.le_of_ble_eq_true rfl)⟩ [] rfl rfl rfl (Up.same rfl) rfl rfl (Nat.le_of_ble_eq_true rfl) ?_
  obtain ⟨j3, hj7, h⟩ := jn_e h
  have J8 : ∀ (c4 : Int → Int), j3 c4 = some o → Wx G 0 0 14 [(0, .ref a0)] [] (w_Vol cI cB a0 a1 a2 a3 a4 a5 a6 a7 a8 a9 a10 a11 a12 a13 a14 a15 a16 a17 a18 a19 a20 a21 a22 a23 a24 a25 a26 a27 a28 a29 a30 a31 a32 a33 a34 a35 a36 a37 ik now nbt nki npl nva nwr nrm nrs nrz kow kbt kki kpl kva kwr krm krs krz tow tbt tki tpl tva twr trm trs trz seed smn snu rmn rnu c4) := by
    intro c4 h
    rw [hj7] at h
    (try dsimp only at h)
    refine x_aload_n (pc := 14) X d_Vol_read_14 0 rfl rfl ?_
    refine x_iconst (pc := 15) X d_Vol_read_15  ?_
    obtain ⟨r5, h6, h⟩ := bnd_e h
    refine x_callV (pc := 16) (As := [.int (zi (-1))]) (rest := []) (w2 := (w_Vol cI cB a0 a1 a2 a3 a4 a5 a6 a7 a8 a9 a10 a11 a12 a13 a14 a15 a16 a17 a18 a19 a20 a21 a22 a23 a24 a25 a26 a27 a28 a29 a30 a31 a32 a33 a34 a35 a36 a37 ik now nbt nki npl nva nwr nrm nrs nrz kow kbt kki kpl kva kwr krm krs krz tow tbt tki tpl tva twr trm trs trz seed smn snu rmn rnu r5.2)) X d_Vol_read_16 lk_Vol_55 mv_Vol_refuse (c_Vol_refuse l D cI cB a0 a1 a2 a3 a4 a5 a6 a7 a8 a9 a10 a11 a12 a13 a14 a15 a16 a17 a18 a19 a20 a21 a22 a23 a24 a25 a26 a27 a28 a29 a30 a31 a32 a33 a34 a35 a36 a37 ik now nbt nki npl nva nwr nrm nrs nrz kow kbt kki kpl kva kwr krm krs krz tow tbt tki tpl tva twr trm trs trz seed smn snu rmn rnu c4 (-1) h6) ⟨(Nat.le_of_ble_eq_true rfl), (Nat.le_of_ble_eq_true rfl), (Nat.le_of_ble_eq_true rfl), (Nat.le_of_ble_eq_true rfl)⟩ 0 rfl rfl [0, 1, 2, 3, 4, 5, 6, 7, 8, 9, 10, 11, 12, 13, 14, 15, 16, 17, 18, 19, 20, 21, 22, 23, 24, 25, 26, 27, 28, 29, 30, 31, 32, 33, 34, 35, 36, 37] rfl rfl rfl (Up.of [] [] rfl rfl rfl 38 rfl (by decide +kernel)) rfl rfl (Nat.le_of_ble_eq_true rfl) ?_
    cases h
    exact x_iret (pc := 19) X hR d_Vol_read_19
  clear hj7
  refine x_ifeq (pc := 4) (tgt := 14) X d_Vol_read_4 rfl h (fun h => ?_) (fun h => ?_)
  · skip
    refine x_ls (ls2 := [(0, .ref a0)]) [0] rfl ?_
    exact J8 rf h
  · skip
    refine x_iload_n (pc := 7) X d_Vol_read_7 2 rfl rfl ?_
    obtain ⟨r9, h10, h⟩ := bnd_e h
    refine x_callS (pc := 8) (As := [.int (zi x2)]) (rest := []) (w2 := (w_Vol cI cB a0 a1 a2 a3 a4 a5 a6 a7 a8 a9 a10 a11 a12 a13 a14 a15 a16 a17 a18 a19 a20 a21 a22 a23 a24 a25 a26 a27 a28 a29 a30 a31 a32 a33 a34 a35 a36 a37 ik now nbt nki npl nva nwr nrm nrs nrz kow kbt kki kpl kva kwr krm krs krz tow tbt tki tpl tva twr trm trs trz seed smn snu rmn rnu rf)) X d_Vol_read_8 lk_Vol_88 mv_Vol_isPage (c_Vol_isPage l D cI cB x2 h10) ⟨(Nat.le_of_ble_eq_true rfl), (Nat.le_of_ble_eq_true rfl), (Nat.le_of_ble_eq_true rfl), (Nat.le_of_ble_eq_true rfl)⟩ [] rfl rfl rfl (Up.same rfl) rfl rfl (Nat.le_of_ble_eq_true rfl) ?_
    refine x_ifne (pc := 11) (tgt := 20) X d_Vol_read_11 rfl h (fun h => ?_) (fun h => ?_)
    · skip
      refine x_aload_n (pc := 20) X d_Vol_read_20 0 rfl rfl ?_
      refine x_get (pc := 21) X d_Vol_read_21 0 rfl fl_Vol_10 rfl ?_
      refine x_iload_n (pc := 24) X d_Vol_read_24 1 rfl rfl ?_
      refine x_iload_n (pc := 25) X d_Vol_read_25 2 rfl rfl ?_
      obtain ⟨r11, h12, h⟩ := bnd_e h
      refine x_callV (pc := 26) (As := [.int (zi x1), .int (zi x2)]) (rest := []) (w2 := (w_Vol cI cB a0 a1 a2 a3 a4 a5 a6 a7 a8 a9 a10 a11 a12 a13 a14 a15 a16 a17 a18 a19 a20 a21 a22 a23 a24 a25 a26 a27 a28 a29 a30 a31 a32 a33 a34 a35 a36 a37 ik now nbt nki npl nva nwr nrm nrs nrz kow kbt kki kpl kva kwr krm krs krz tow tbt tki tpl tva twr trm trs trz seed smn snu rmn rnu rf)) X d_Vol_read_26 lk_Vol_126 mv_Disk_readAt (c_Disk_readAt l D cI cB a1 a2 a3 a4 a5 a6 a7 a8 a9 a10 now nbt nki npl nva nwr nrm nrs nrz x1 x2 h12) ⟨(Nat.le_of_ble_eq_true rfl), (Nat.le_of_ble_eq_true rfl), (Nat.le_of_ble_eq_true rfl), (Nat.le_of_ble_eq_true rfl)⟩ 1 rfl rfl [1, 2, 3, 4, 5, 6, 7, 8, 9, 10] rfl rfl rfl (Up.same rfl) rfl rfl (Nat.le_of_ble_eq_true rfl) ?_
      cases h
      exact x_iret (pc := 29) X hR d_Vol_read_29
    · skip
      refine x_ls (ls2 := [(0, .ref a0)]) [0] rfl ?_
      exact J8 rf h
theorem d_Vol_says_0 : decode b_Vol_says 0 = .ok (.iload_n 1, 1) := by decide +kernel
theorem d_Vol_says_1 : decode b_Vol_says 1 = .ok (.invokestatic 84, 3) := by decide +kernel
theorem d_Vol_says_4 : decode b_Vol_says 4 = .ok (.ifCond .eq 10, 3) := by decide +kernel
theorem d_Vol_says_7 : decode b_Vol_says 7 = .ok (.iload_n 2, 1) := by decide +kernel
theorem d_Vol_says_8 : decode b_Vol_says 8 = .ok (.invokestatic 88, 3) := by decide +kernel
theorem d_Vol_says_11 : decode b_Vol_says 11 = .ok (.ifCond .ne 9, 3) := by decide +kernel
theorem d_Vol_says_14 : decode b_Vol_says 14 = .ok (.aload_n 0, 1) := by decide +kernel
theorem d_Vol_says_15 : decode b_Vol_says 15 = .ok (.iconst (-1), 1) := by decide +kernel
theorem d_Vol_says_16 : decode b_Vol_says 16 = .ok (.invokevirtual 55, 3) := by decide +kernel
theorem d_Vol_says_19 : decode b_Vol_says 19 = .ok (.ireturn, 1) := by decide +kernel
theorem d_Vol_says_20 : decode b_Vol_says 20 = .ok (.iload_n 3, 1) := by decide +kernel
theorem d_Vol_says_21 : decode b_Vol_says 21 = .ok (.ifCond .ge 10, 3) := by decide +kernel
theorem d_Vol_says_24 : decode b_Vol_says 24 = .ok (.aload_n 0, 1) := by decide +kernel
theorem d_Vol_says_25 : decode b_Vol_says 25 = .ok (.bipush (-4), 2) := by decide +kernel
theorem d_Vol_says_27 : decode b_Vol_says 27 = .ok (.invokevirtual 55, 3) := by decide +kernel
theorem d_Vol_says_30 : decode b_Vol_says 30 = .ok (.ireturn, 1) := by decide +kernel
theorem d_Vol_says_31 : decode b_Vol_says 31 = .ok (.aload_n 0, 1) := by decide +kernel
theorem d_Vol_says_32 : decode b_Vol_says 32 = .ok (.getfield 10, 3) := by decide +kernel
theorem d_Vol_says_35 : decode b_Vol_says 35 = .ok (.iload_n 1, 1) := by decide +kernel
theorem d_Vol_says_36 : decode b_Vol_says 36 = .ok (.iload_n 2, 1) := by decide +kernel
theorem d_Vol_says_37 : decode b_Vol_says 37 = .ok (.invokevirtual 126, 3) := by decide +kernel
theorem d_Vol_says_40 : decode b_Vol_says 40 = .ok (.istore 4, 2) := by decide +kernel
theorem d_Vol_says_42 : decode b_Vol_says 42 = .ok (.iload_n 3, 1) := by decide +kernel
theorem d_Vol_says_43 : decode b_Vol_says 43 = .ok (.bipush 99, 2) := by decide +kernel
theorem d_Vol_says_45 : decode b_Vol_says 45 = .ok (.if_icmp .gt 16, 3) := by decide +kernel
theorem d_Vol_says_48 : decode b_Vol_says 48 = .ok (.aload_n 0, 1) := by decide +kernel
theorem d_Vol_says_49 : decode b_Vol_says 49 = .ok (.getfield 10, 3) := by decide +kernel
theorem d_Vol_says_52 : decode b_Vol_says 52 = .ok (.iload_n 1, 1) := by decide +kernel
theorem d_Vol_says_53 : decode b_Vol_says 53 = .ok (.iload_n 2, 1) := by decide +kernel
theorem d_Vol_says_54 : decode b_Vol_says 54 = .ok (.iload_n 3, 1) := by decide +kernel
theorem d_Vol_says_55 : decode b_Vol_says 55 = .ok (.invokevirtual 129, 3) := by decide +kernel
theorem d_Vol_says_58 : decode b_Vol_says 58 = .ok (.ifCond .ne 10, 3) := by decide +kernel
theorem d_Vol_says_61 : decode b_Vol_says 61 = .ok (.aload_n 0, 1) := by decide +kernel
theorem d_Vol_says_62 : decode b_Vol_says 62 = .ok (.bipush (-6), 2) := by decide +kernel
theorem d_Vol_says_64 : decode b_Vol_says 64 = .ok (.invokevirtual 55, 3) := by decide +kernel
theorem d_Vol_says_67 : decode b_Vol_says 67 = .ok (.ireturn, 1) := by decide +kernel
theorem d_Vol_says_68 : decode b_Vol_says 68 = .ok (.iload 4, 2) := by decide +kernel
theorem d_Vol_says_70 : decode b_Vol_says 70 = .ok (.ireturn, 1) := by decide +kernel
def m_Vol_says (x1 : Int) (x2 : Int) (x3 : Int) (now : Int → Int) (nbt : Int → Int) (npl : Int → Int) (nva : Int → Int) (nwr : Int → Int) (rf : Int → Int) : Option (Int × (Int → Int) × (Int → Int)) :=
  bnd (m_Vol_isFile x1) (fun r1 => jn (fun (c4 : Int → Int) (c5 : Int → Int) => bnd (m_Vol_refuse (-1) c5) (fun r6 => some (r6.1, c4, r6.2))) (fun j3 => ceq r1 0 (j3 nva rf) (bnd (m_Vol_isPage x2) (fun r10 => ceq r10 0 (j3 nva rf) (clt x3 0 (bnd (m_Vol_refuse (-4) rf) (fun r23 => some (r23.1, nva, r23.2))) (bnd (m_Disk_readAt x1 x2 nbt npl nva nwr) (fun r12 => jn (fun (c15 : Int → Int) (c16 : Int → Int) => bnd (m_Vol_refuse (-6) c16) (fun r17 => some (r17.1, c15, r17.2))) (fun j14 => cle x3 99 (bnd (m_Disk_sayAt x1 x2 x3 now npl nva) (fun r21 => ceq r21.1 0 (j14 r21.2 rf) (some (r12, r21.2, rf)))) (j14 nva rf)))))))))
set_option maxHeartbeats 4000000 in
set_option maxRecDepth 100000 in
theorem c_Vol_says (l : Launch) (D : va_G) (cI cB : ClassId) (a0 a1 a2 a3 a4 a5 a6 a7 a8 a9 a10 a11 a12 a13 a14 a15 a16 a17 a18 a19 a20 a21 a22 a23 a24 a25 a26 a27 a28 a29 a30 a31 a32 a33 a34 a35 a36 a37 : Nat) (ik : Int) (now : Int → Int) (nbt : Int → Int) (nki : Int → Int) (npl : Int → Int) (nva : Int → Int) (nwr : Int → Int) (nrm : Int) (nrs : Int → Int) (nrz : Int → Int) (kow : Int → Int) (kbt : Int → Int) (kki : Int → Int) (kpl : Int → Int) (kva : Int → Int) (kwr : Int → Int) (krm : Int) (krs : Int → Int) (krz : Int → Int) (tow : Int → Int) (tbt : Int → Int) (tki : Int → Int) (tpl : Int → Int) (tva : Int → Int) (twr : Int → Int) (trm : Int) (trs : Int → Int) (trz : Int → Int) (seed : Int) (smn : Int) (snu : Int → Int) (rmn : Int) (rnu : Int → Int) (rf : Int → Int) (x1 : Int) (x2 : Int) (x3 : Int) {o : Int × (Int → Int) × (Int → Int)} (h : m_Vol_says x1 x2 x3 now nbt npl nva nwr rf = some o) : Ct l D cI cB y_Vol_says b_Vol_says 5 (some .int) { frames := 3, cells := 0, slots := 0, locals := 68 } [.ref a0, .int (zi x1), .int (zi x2), .int (zi x3)] (w_Vol cI cB a0 a1 a2 a3 a4 a5 a6 a7 a8 a9 a10 a11 a12 a13 a14 a15 a16 a17 a18 a19 a20 a21 a22 a23 a24 a25 a26 a27 a28 a29 a30 a31 a32 a33 a34 a35 a36 a37 ik now nbt nki npl nva nwr nrm nrs nrz kow kbt kki kpl kva kwr krm krs krz tow tbt tki tpl tva twr trm trs trz seed smn snu rmn rnu rf) (w_Vol cI cB a0 a1 a2 a3 a4 a5 a6 a7 a8 a9 a10 a11 a12 a13 a14 a15 a16 a17 a18 a19 a20 a21 a22 a23 a24 a25 a26 a27 a28 a29 a30 a31 a32 a33 a34 a35 a36 a37 ik now nbt nki npl o.2.1 nwr nrm nrs nrz kow kbt kki kpl kva kwr krm krs krz tow tbt tki tpl tva twr trm trs trz seed smn snu rmn rnu o.2.2) (some (.int (zi o.1))) := by
  refine Ct.start (by decide) (Nat.le_of_ble_eq_true rfl) (fun G X hR => ?_)
  refine x_ls (ls2 := [(0, .ref a0), (1, .int (zi x1)), (2, .int (zi x2)), (3, .int (zi x3))]) [0, 1, 2, 3] rfl ?_
  unfold m_Vol_says at h
  refine x_iload_n (pc := 0) X d_Vol_says_0 1 rfl rfl ?_
  obtain ⟨r1, h2, h⟩ := bnd_e h
  refine x_callS (pc := 1) (As := [.int (zi x1)]) (rest := []) (w2 := (w_Vol cI cB a0 a1 a2 a3 a4 a5 a6 a7 a8 a9 a10 a11 a12 a13 a14 a15 a16 a17 a18 a19 a20 a21 a22 a23 a24 a25 a26 a27 a28 a29 a30 a31 a32 a33 a34 a35 a36 a37 ik now nbt nki npl nva nwr nrm nrs nrz kow kbt kki kpl kva kwr krm krs krz tow tbt tki tpl tva twr trm trs trz seed smn snu rmn rnu rf)) X d_Vol_says_1 lk_Vol_84 mv_Vol_isFile (c_Vol_isFile l D cI cB x1 h2) ⟨(Nat.le_of_ble_eq_true rfl), (Nat.le_of_ble_eq_true rfl), (Nat.le_of_ble_eq_true rfl), (Nat.le_of_ble_eq_true rfl)⟩ [] rfl rfl rfl (Up.same rfl) rfl rfl (Nat.le_of_ble_eq_true rfl) ?_
  obtain ⟨j3, hj8, h⟩ := jn_e h
  have J9 : ∀ (c4 : Int → Int) (c5 : Int → Int), j3 c4 c5 = some o → Wx G 0 0 14 [(0, .ref a0)] [] (w_Vol cI cB a0 a1 a2 a3 a4 a5 a6 a7 a8 a9 a10 a11 a12 a13 a14 a15 a16 a17 a18 a19 a20 a21 a22 a23 a24 a25 a26 a27 a28 a29 a30 a31 a32 a33 a34 a35 a36 a37 ik now nbt nki npl c4 nwr nrm nrs nrz kow kbt kki kpl kva kwr krm krs krz tow tbt tki tpl tva twr trm trs trz seed smn snu rmn rnu c5) := by
    intro c4 c5 h
    rw [hj8] at h
    (try dsimp only at h)
    refine x_aload_n (pc := 14) X d_Vol_says_14 0 rfl rfl ?_
    refine x_iconst (pc := 15) X d_Vol_says_15  ?_
    obtain ⟨r6, h7, h⟩ := bnd_e h
    refine x_callV (pc := 16) (As := [.int (zi (-1))]) (rest := []) (w2 := (w_Vol cI cB a0 a1 a2 a3 a4 a5 a6 a7 a8 a9 a10 a11 a12 a13 a14 a15 a16 a17 a18 a19 a20 a21 a22 a23 a24 a25 a26 a27 a28 a29 a30 a31 a32 a33 a34 a35 a36 a37 ik now nbt nki npl c4 nwr nrm nrs nrz kow kbt kki kpl kva kwr krm krs krz tow tbt tki tpl tva twr trm trs trz seed smn snu rmn rnu r6.2)) X d_Vol_says_16 lk_Vol_55 mv_Vol_refuse (c_Vol_refuse l D cI cB a0 a1 a2 a3 a4 a5 a6 a7 a8 a9 a10 a11 a12 a13 a14 a15 a16 a17 a18 a19 a20 a21 a22 a23 a24 a25 a26 a27 a28 a29 a30 a31 a32 a33 a34 a35 a36 a37 ik now nbt nki npl c4 nwr nrm nrs nrz kow kbt kki kpl kva kwr krm krs krz tow tbt tki tpl tva twr trm trs trz seed smn snu rmn rnu c5 (-1) h7) ⟨(Nat.le_of_ble_eq_true rfl), (Nat.le_of_ble_eq_true rfl), (Nat.le_of_ble_eq_true rfl), (Nat.le_of_ble_eq_true rfl)⟩ 0 rfl rfl [0, 1, 2, 3, 4, 5, 6, 7, 8, 9, 10, 11, 12, 13, 14, 15, 16, 17, 18, 19, 20, 21, 22, 23, 24, 25, 26, 27, 28, 29, 30, 31, 32, 33, 34, 35, 36, 37] rfl rfl rfl (Up.of [] [] rfl rfl rfl 38 rfl (by decide +kernel)) rfl rfl (Nat.le_of_ble_eq_true rfl) ?_
    cases h
    exact x_iret (pc := 19) X hR d_Vol_says_19
  clear hj8
  refine x_ifeq (pc := 4) (tgt := 14) X d_Vol_says_4 rfl h (fun h => ?_) (fun h => ?_)
  · skip
    refine x_ls (ls2 := [(0, .ref a0)]) [0] rfl ?_
    exact J9 nva rf h
  · skip
    refine x_iload_n (pc := 7) X d_Vol_says_7 2 rfl rfl ?_
    obtain ⟨r10, h11, h⟩ := bnd_e h
    refine x_callS (pc := 8) (As := [.int (zi x2)]) (rest := []) (w2 := (w_Vol cI cB a0 a1 a2 a3 a4 a5 a6 a7 a8 a9 a10 a11 a12 a13 a14 a15 a16 a17 a18 a19 a20 a21 a22 a23 a24 a25 a26 a27 a28 a29 a30 a31 a32 a33 a34 a35 a36 a37 ik now nbt nki npl nva nwr nrm nrs nrz kow kbt kki kpl kva kwr krm krs krz tow tbt tki tpl tva twr trm trs trz seed smn snu rmn rnu rf)) X d_Vol_says_8 lk_Vol_88 mv_Vol_isPage (c_Vol_isPage l D cI cB x2 h11) ⟨(Nat.le_of_ble_eq_true rfl), (Nat.le_of_ble_eq_true rfl), (Nat.le_of_ble_eq_true rfl), (Nat.le_of_ble_eq_true rfl)⟩ [] rfl rfl rfl (Up.same rfl) rfl rfl (Nat.le_of_ble_eq_true rfl) ?_
    refine x_ifne (pc := 11) (tgt := 20) X d_Vol_says_11 rfl h (fun h => ?_) (fun h => ?_)
    · skip
      refine x_iload_n (pc := 20) X d_Vol_says_20 3 rfl rfl ?_
      refine x_ifge (pc := 21) (tgt := 31) X d_Vol_says_21 rfl h (fun h => ?_) (fun h => ?_)
      · skip
        refine x_aload_n (pc := 31) X d_Vol_says_31 0 rfl rfl ?_
        refine x_get (pc := 32) X d_Vol_says_32 0 rfl fl_Vol_10 rfl ?_
        refine x_iload_n (pc := 35) X d_Vol_says_35 1 rfl rfl ?_
        refine x_iload_n (pc := 36) X d_Vol_says_36 2 rfl rfl ?_
        obtain ⟨r12, h13, h⟩ := bnd_e h
        refine x_callV (pc := 37) (As := [.int (zi x1), .int (zi x2)]) (rest := []) (w2 := (w_Vol cI cB a0 a1 a2 a3 a4 a5 a6 a7 a8 a9 a10 a11 a12 a13 a14 a15 a16 a17 a18 a19 a20 a21 a22 a23 a24 a25 a26 a27 a28 a29 a30 a31 a32 a33 a34 a35 a36 a37 ik now nbt nki npl nva nwr nrm nrs nrz kow kbt kki kpl kva kwr krm krs krz tow tbt tki tpl tva twr trm trs trz seed smn snu rmn rnu rf)) X d_Vol_says_37 lk_Vol_126 mv_Disk_readAt (c_Disk_readAt l D cI cB a1 a2 a3 a4 a5 a6 a7 a8 a9 a10 now nbt nki npl nva nwr nrm nrs nrz x1 x2 h13) ⟨(Nat.le_of_ble_eq_true rfl), (Nat.le_of_ble_eq_true rfl), (Nat.le_of_ble_eq_true rfl), (Nat.le_of_ble_eq_true rfl)⟩ 1 rfl rfl [1, 2, 3, 4, 5, 6, 7, 8, 9, 10] rfl rfl rfl (Up.same rfl) rfl rfl (Nat.le_of_ble_eq_true rfl) ?_
        refine x_istore (pc := 40) (ls2 := [(4, .int (zi r12)), (0, .ref a0), (1, .int (zi x1)), (2, .int (zi x2)), (3, .int (zi x3))]) X d_Vol_says_40 (Nat.le_of_ble_eq_true rfl) rfl ?_
        refine x_iload_n (pc := 42) X d_Vol_says_42 4 rfl rfl ?_
        refine x_bipush (pc := 43) (v := 99) X d_Vol_says_43 rfl ?_
        obtain ⟨j14, hj19, h⟩ := jn_e h
        have J20 : ∀ (c15 : Int → Int) (c16 : Int → Int), j14 c15 c16 = some o → Wx G 0 0 61 [(0, .ref a0)] [] (w_Vol cI cB a0 a1 a2 a3 a4 a5 a6 a7 a8 a9 a10 a11 a12 a13 a14 a15 a16 a17 a18 a19 a20 a21 a22 a23 a24 a25 a26 a27 a28 a29 a30 a31 a32 a33 a34 a35 a36 a37 ik now nbt nki npl c15 nwr nrm nrs nrz kow kbt kki kpl kva kwr krm krs krz tow tbt tki tpl tva twr trm trs trz seed smn snu rmn rnu c16) := by
          intro c15 c16 h
          rw [hj19] at h
          (try dsimp only at h)
          refine x_aload_n (pc := 61) X d_Vol_says_61 0 rfl rfl ?_
          refine x_bipush (pc := 62) (v := -6) X d_Vol_says_62 rfl ?_
          obtain ⟨r17, h18, h⟩ := bnd_e h
          refine x_callV (pc := 64) (As := [.int (zi (-6))]) (rest := []) (w2 := (w_Vol cI cB a0 a1 a2 a3 a4 a5 a6 a7 a8 a9 a10 a11 a12 a13 a14 a15 a16 a17 a18 a19 a20 a21 a22 a23 a24 a25 a26 a27 a28 a29 a30 a31 a32 a33 a34 a35 a36 a37 ik now nbt nki npl c15 nwr nrm nrs nrz kow kbt kki kpl kva kwr krm krs krz tow tbt tki tpl tva twr trm trs trz seed smn snu rmn rnu r17.2)) X d_Vol_says_64 lk_Vol_55 mv_Vol_refuse (c_Vol_refuse l D cI cB a0 a1 a2 a3 a4 a5 a6 a7 a8 a9 a10 a11 a12 a13 a14 a15 a16 a17 a18 a19 a20 a21 a22 a23 a24 a25 a26 a27 a28 a29 a30 a31 a32 a33 a34 a35 a36 a37 ik now nbt nki npl c15 nwr nrm nrs nrz kow kbt kki kpl kva kwr krm krs krz tow tbt tki tpl tva twr trm trs trz seed smn snu rmn rnu c16 (-6) h18) ⟨(Nat.le_of_ble_eq_true rfl), (Nat.le_of_ble_eq_true rfl), (Nat.le_of_ble_eq_true rfl), (Nat.le_of_ble_eq_true rfl)⟩ 0 rfl rfl [0, 1, 2, 3, 4, 5, 6, 7, 8, 9, 10, 11, 12, 13, 14, 15, 16, 17, 18, 19, 20, 21, 22, 23, 24, 25, 26, 27, 28, 29, 30, 31, 32, 33, 34, 35, 36, 37] rfl rfl rfl (Up.of [] [] rfl rfl rfl 38 rfl (by decide +kernel)) rfl rfl (Nat.le_of_ble_eq_true rfl) ?_
          cases h
          exact x_iret (pc := 67) X hR d_Vol_says_67
        clear hj19
        refine x_icmpgt (pc := 45) (tgt := 61) X d_Vol_says_45 rfl h (fun h => ?_) (fun h => ?_)
        · skip
          refine x_ls (ls2 := [(0, .ref a0)]) [1] rfl ?_
          exact J20 nva rf h
        · skip
          refine x_aload_n (pc := 48) X d_Vol_says_48 1 rfl rfl ?_
          refine x_get (pc := 49) X d_Vol_says_49 0 rfl fl_Vol_10 rfl ?_
          refine x_iload_n (pc := 52) X d_Vol_says_52 2 rfl rfl ?_
          refine x_iload_n (pc := 53) X d_Vol_says_53 3 rfl rfl ?_
          refine x_iload_n (pc := 54) X d_Vol_says_54 4 rfl rfl ?_
          obtain ⟨r21, h22, h⟩ := bnd_e h
          refine x_callV (pc := 55) (As := [.int (zi x1), .int (zi x2), .int (zi x3)]) (rest := []) (w2 := (w_Vol cI cB a0 a1 a2 a3 a4 a5 a6 a7 a8 a9 a10 a11 a12 a13 a14 a15 a16 a17 a18 a19 a20 a21 a22 a23 a24 a25 a26 a27 a28 a29 a30 a31 a32 a33 a34 a35 a36 a37 ik now nbt nki npl r21.2 nwr nrm nrs nrz kow kbt kki kpl kva kwr krm krs krz tow tbt tki tpl tva twr trm trs trz seed smn snu rmn rnu rf)) X d_Vol_says_55 lk_Vol_129 mv_Disk_sayAt (c_Disk_sayAt l D cI cB a1 a2 a3 a4 a5 a6 a7 a8 a9 a10 now nbt nki npl nva nwr nrm nrs nrz x1 x2 x3 h22) ⟨(Nat.le_of_ble_eq_true rfl), (Nat.le_of_ble_eq_true rfl), (Nat.le_of_ble_eq_true rfl), (Nat.le_of_ble_eq_true rfl)⟩ 1 rfl rfl [1, 2, 3, 4, 5, 6, 7, 8, 9, 10] rfl rfl rfl (Up.of [0, 11, 12, 13, 14, 15, 16, 17, 18, 19, 20, 21, 22, 23, 24, 25, 26, 27, 28, 29, 30, 31, 32, 33, 34, 35, 36, 37] [(a0, .inr (5, [.ref a1, .ref a11, .ref a21, .ref a31, .ref a32, .ref a35, .ref a37, .int (zi ik)])), (a11, .inr (0, [.ref a12, .ref a13, .ref a14, .ref a15, .ref a16, .ref a17, .ref a18])), (a12, zA cI 64 kow), (a13, zA cI 64 kbt), (a14, zA cI 4 kki), (a15, zA cI 96 kpl), (a16, zA cI 96 kva), (a17, zA cB 96 kwr), (a18, .inr (3, [.ref a19, .ref a20, .int (zi krm)])), (a19, zA cI 32 krs), (a20, zA cI 32 krz), (a21, .inr (0, [.ref a22, .ref a23, .ref a24, .ref a25, .ref a26, .ref a27, .ref a28])), (a22, zA cI 64 tow), (a23, zA cI 64 tbt), (a24, zA cI 4 tki), (a25, zA cI 96 tpl), (a26, zA cI 96 tva), (a27, zA cB 96 twr), (a28, .inr (3, [.ref a29, .ref a30, .int (zi trm)])), (a29, zA cI 32 trs), (a30, zA cI 32 trz), (a31, .inr (1, [.ref a1, .ref a21, .int (zi seed)])), (a32, .inr (4, [.ref a33])), (a33, .inr (2, [.ref a34, .int (zi smn)])), (a34, zA cI 96 snu), (a35, .inr (2, [.ref a36, .int (zi rmn)])), (a36, zA cI 32 rnu), (a37, zA cI 7 rf)] rfl rfl rfl 38 rfl (by decide +kernel)) rfl rfl (Nat.le_of_ble_eq_true rfl) ?_
          refine x_ifne (pc := 58) (tgt := 68) X d_Vol_says_58 rfl h (fun h => ?_) (fun h => ?_)
          · skip
            refine x_iload (pc := 68) X d_Vol_says_68 0 rfl ?_
            cases h
            exact x_iret (pc := 70) X hR d_Vol_says_70
          · skip
            refine x_ls (ls2 := [(0, .ref a0)]) [1] rfl ?_
            exact J20 r21.2 rf h
      · skip
        refine x_aload_n (pc := 24) X d_Vol_says_24 0 rfl rfl ?_
        refine x_bipush (pc := 25) (v := -4) X d_Vol_says_25 rfl ?_
        obtain ⟨r23, h24, h⟩ := bnd_e h
        refine x_callV (pc := 27) (As := [.int (zi (-4))]) (rest := []) (w2 := (w_Vol cI cB a0 a1 a2 a3 a4 a5 a6 a7 a8 a9 a10 a11 a12 a13 a14 a15 a16 a17 a18 a19 a20 a21 a22 a23 a24 a25 a26 a27 a28 a29 a30 a31 a32 a33 a34 a35 a36 a37 ik now nbt nki npl nva nwr nrm nrs nrz kow kbt kki kpl kva kwr krm krs krz tow tbt tki tpl tva twr trm trs trz seed smn snu rmn rnu r23.2)) X d_Vol_says_27 lk_Vol_55 mv_Vol_refuse (c_Vol_refuse l D cI cB a0 a1 a2 a3 a4 a5 a6 a7 a8 a9 a10 a11 a12 a13 a14 a15 a16 a17 a18 a19 a20 a21 a22 a23 a24 a25 a26 a27 a28 a29 a30 a31 a32 a33 a34 a35 a36 a37 ik now nbt nki npl nva nwr nrm nrs nrz kow kbt kki kpl kva kwr krm krs krz tow tbt tki tpl tva twr trm trs trz seed smn snu rmn rnu rf (-4) h24) ⟨(Nat.le_of_ble_eq_true rfl), (Nat.le_of_ble_eq_true rfl), (Nat.le_of_ble_eq_true rfl), (Nat.le_of_ble_eq_true rfl)⟩ 0 rfl rfl [0, 1, 2, 3, 4, 5, 6, 7, 8, 9, 10, 11, 12, 13, 14, 15, 16, 17, 18, 19, 20, 21, 22, 23, 24, 25, 26, 27, 28, 29, 30, 31, 32, 33, 34, 35, 36, 37] rfl rfl rfl (Up.of [] [] rfl rfl rfl 38 rfl (by decide +kernel)) rfl rfl (Nat.le_of_ble_eq_true rfl) ?_
        cases h
        exact x_iret (pc := 30) X hR d_Vol_says_30
    · skip
      refine x_ls (ls2 := [(0, .ref a0)]) [0] rfl ?_
      exact J9 nva rf h
theorem d_Vol_ahead_0 : decode b_Vol_ahead 0 = .ok (.iload_n 1, 1) := by decide +kernel
theorem d_Vol_ahead_1 : decode b_Vol_ahead 1 = .ok (.invokestatic 84, 3) := by decide +kernel
theorem d_Vol_ahead_4 : decode b_Vol_ahead 4 = .ok (.ifCond .eq 10, 3) := by decide +kernel
theorem d_Vol_ahead_7 : decode b_Vol_ahead 7 = .ok (.iload_n 2, 1) := by decide +kernel
theorem d_Vol_ahead_8 : decode b_Vol_ahead 8 = .ok (.invokestatic 88, 3) := by decide +kernel
theorem d_Vol_ahead_11 : decode b_Vol_ahead 11 = .ok (.ifCond .ne 9, 3) := by decide +kernel
theorem d_Vol_ahead_14 : decode b_Vol_ahead 14 = .ok (.aload_n 0, 1) := by decide +kernel
theorem d_Vol_ahead_15 : decode b_Vol_ahead 15 = .ok (.iconst (-1), 1) := by decide +kernel
theorem d_Vol_ahead_16 : decode b_Vol_ahead 16 = .ok (.invokevirtual 55, 3) := by decide +kernel
theorem d_Vol_ahead_19 : decode b_Vol_ahead 19 = .ok (.ireturn, 1) := by decide +kernel
theorem d_Vol_ahead_20 : decode b_Vol_ahead 20 = .ok (.iload_n 3, 1) := by decide +kernel
theorem d_Vol_ahead_21 : decode b_Vol_ahead 21 = .ok (.iconst 1, 1) := by decide +kernel
theorem d_Vol_ahead_22 : decode b_Vol_ahead 22 = .ok (.if_icmp .ge 10, 3) := by decide +kernel
theorem d_Vol_ahead_25 : decode b_Vol_ahead 25 = .ok (.aload_n 0, 1) := by decide +kernel
theorem d_Vol_ahead_26 : decode b_Vol_ahead 26 = .ok (.bipush (-4), 2) := by decide +kernel
theorem d_Vol_ahead_28 : decode b_Vol_ahead 28 = .ok (.invokevirtual 55, 3) := by decide +kernel
theorem d_Vol_ahead_31 : decode b_Vol_ahead 31 = .ok (.ireturn, 1) := by decide +kernel
theorem d_Vol_ahead_32 : decode b_Vol_ahead 32 = .ok (.iload_n 3, 1) := by decide +kernel
theorem d_Vol_ahead_33 : decode b_Vol_ahead 33 = .ok (.bipush 24, 2) := by decide +kernel
theorem d_Vol_ahead_35 : decode b_Vol_ahead 35 = .ok (.iload_n 2, 1) := by decide +kernel
theorem d_Vol_ahead_36 : decode b_Vol_ahead 36 = .ok (.isub, 1) := by decide +kernel
theorem d_Vol_ahead_37 : decode b_Vol_ahead 37 = .ok (.if_icmp .le 7, 3) := by decide +kernel
theorem d_Vol_ahead_40 : decode b_Vol_ahead 40 = .ok (.iconst (-1), 1) := by decide +kernel
theorem d_Vol_ahead_41 : decode b_Vol_ahead 41 = .ok (.goto 13, 3) := by decide +kernel
theorem d_Vol_ahead_44 : decode b_Vol_ahead 44 = .ok (.aload_n 0, 1) := by decide +kernel
theorem d_Vol_ahead_45 : decode b_Vol_ahead 45 = .ok (.getfield 10, 3) := by decide +kernel
theorem d_Vol_ahead_48 : decode b_Vol_ahead 48 = .ok (.iload_n 1, 1) := by decide +kernel
theorem d_Vol_ahead_49 : decode b_Vol_ahead 49 = .ok (.iload_n 2, 1) := by decide +kernel
theorem d_Vol_ahead_50 : decode b_Vol_ahead 50 = .ok (.iload_n 3, 1) := by decide +kernel
theorem d_Vol_ahead_51 : decode b_Vol_ahead 51 = .ok (.invokevirtual 133, 3) := by decide +kernel
theorem d_Vol_ahead_54 : decode b_Vol_ahead 54 = .ok (.istore 4, 2) := by decide +kernel
theorem d_Vol_ahead_56 : decode b_Vol_ahead 56 = .ok (.iload 4, 2) := by decide +kernel
theorem d_Vol_ahead_58 : decode b_Vol_ahead 58 = .ok (.ifCond .ge 12, 3) := by decide +kernel
theorem d_Vol_ahead_61 : decode b_Vol_ahead 61 = .ok (.aload_n 0, 1) := by decide +kernel
theorem d_Vol_ahead_62 : decode b_Vol_ahead 62 = .ok (.bipush (-6), 2) := by decide +kernel
theorem d_Vol_ahead_64 : decode b_Vol_ahead 64 = .ok (.invokevirtual 55, 3) := by decide +kernel
theorem d_Vol_ahead_67 : decode b_Vol_ahead 67 = .ok (.goto 5, 3) := by decide +kernel
theorem d_Vol_ahead_70 : decode b_Vol_ahead 70 = .ok (.iload 4, 2) := by decide +kernel
theorem d_Vol_ahead_72 : decode b_Vol_ahead 72 = .ok (.ireturn, 1) := by decide +kernel
def m_Vol_ahead (x1 : Int) (x2 : Int) (x3 : Int) (now : Int → Int) (nki : Int → Int) (npl : Int → Int) (nva : Int → Int) (nrm : Int) (nrs : Int → Int) (nrz : Int → Int) (rf : Int → Int) : Option (Int × (Int → Int) × (Int → Int) × Int × (Int → Int) × (Int → Int) × (Int → Int)) :=
  bnd (m_Vol_isFile x1) (fun r1 => jn (fun (c4 : Int → Int) (c5 : Int → Int) (c6 : Int) (c7 : Int → Int) (c8 : Int → Int) (c9 : Int → Int) => bnd (m_Vol_refuse (-1) c9) (fun r10 => some (r10.1, c4, c5, c6, c7, c8, r10.2))) (fun j3 => ceq r1 0 (j3 now npl nrm nrs nrz rf) (bnd (m_Vol_isPage x2) (fun r14 => ceq r14 0 (j3 now npl nrm nrs nrz rf) (clt x3 1 (bnd (m_Vol_refuse (-4) rf) (fun r30 => some (r30.1, now, npl, nrm, nrs, nrz, r30.2))) (jn (fun (z17 : Int) (c18 : Int → Int) (c19 : Int → Int) (c20 : Int) (c21 : Int → Int) (c22 : Int → Int) (c23 : Int → Int) => clt z17 0 (bnd (m_Vol_refuse (-6) c23) (fun r24 => some (r24.1, c18, c19, c20, c21, c22, r24.2))) (some (z17, c18, c19, c20, c21, c22, c23))) (fun j16 => cle x3 (24 - x2) (bnd (m_Disk_putHoles x1 x2 x3 now nki npl nva nrm nrs nrz) (fun r28 => j16 r28.1 r28.2.1 r28.2.2.1 r28.2.2.2.1 r28.2.2.2.2.1 r28.2.2.2.2.2 rf)) (j16 (-1) now npl nrm nrs nrz rf))))))))
set_option maxHeartbeats 4000000 in
set_option maxRecDepth 100000 in
theorem c_Vol_ahead (l : Launch) (D : va_G) (cI cB : ClassId) (a0 a1 a2 a3 a4 a5 a6 a7 a8 a9 a10 a11 a12 a13 a14 a15 a16 a17 a18 a19 a20 a21 a22 a23 a24 a25 a26 a27 a28 a29 a30 a31 a32 a33 a34 a35 a36 a37 : Nat) (ik : Int) (now : Int → Int) (nbt : Int → Int) (nki : Int → Int) (npl : Int → Int) (nva : Int → Int) (nwr : Int → Int) (nrm : Int) (nrs : Int → Int) (nrz : Int → Int) (kow : Int → Int) (kbt : Int → Int) (kki : Int → Int) (kpl : Int → Int) (kva : Int → Int) (kwr : Int → Int) (krm : Int) (krs : Int → Int) (krz : Int → Int) (tow : Int → Int) (tbt : Int → Int) (tki : Int → Int) (tpl : Int → Int) (tva : Int → Int) (twr : Int → Int) (trm : Int) (trs : Int → Int) (trz : Int → Int) (seed : Int) (smn : Int) (snu : Int → Int) (rmn : Int) (rnu : Int → Int) (rf : Int → Int) (x1 : Int) (x2 : Int) (x3 : Int) {o : Int × (Int → Int) × (Int → Int) × Int × (Int → Int) × (Int → Int) × (Int → Int)} (h : m_Vol_ahead x1 x2 x3 now nki npl nva nrm nrs nrz rf = some o) : Ct l D cI cB y_Vol_ahead b_Vol_ahead 5 (some .int) { frames := 4, cells := 0, slots := 0, locals := 104 } [.ref a0, .int (zi x1), .int (zi x2), .int (zi x3)] (w_Vol cI cB a0 a1 a2 a3 a4 a5 a6 a7 a8 a9 a10 a11 a12 a13 a14 a15 a16 a17 a18 a19 a20 a21 a22 a23 a24 a25 a26 a27 a28 a29 a30 a31 a32 a33 a34 a35 a36 a37 ik now nbt nki npl nva nwr nrm nrs nrz kow kbt kki kpl kva kwr krm krs krz tow tbt tki tpl tva twr trm trs trz seed smn snu rmn rnu rf) (w_Vol cI cB a0 a1 a2 a3 a4 a5 a6 a7 a8 a9 a10 a11 a12 a13 a14 a15 a16 a17 a18 a19 a20 a21 a22 a23 a24 a25 a26 a27 a28 a29 a30 a31 a32 a33 a34 a35 a36 a37 ik o.2.1 nbt nki o.2.2.1 nva nwr o.2.2.2.1 o.2.2.2.2.1 o.2.2.2.2.2.1 kow kbt kki kpl kva kwr krm krs krz tow tbt tki tpl tva twr trm trs trz seed smn snu rmn rnu o.2.2.2.2.2.2) (some (.int (zi o.1))) := by
  refine Ct.start (by decide) (Nat.le_of_ble_eq_true rfl) (fun G X hR => ?_)
  refine x_ls (ls2 := [(0, .ref a0), (1, .int (zi x1)), (2, .int (zi x2)), (3, .int (zi x3))]) [0, 1, 2, 3] rfl ?_
  unfold m_Vol_ahead at h
  refine x_iload_n (pc := 0) X d_Vol_ahead_0 1 rfl rfl ?_
  obtain ⟨r1, h2, h⟩ := bnd_e h
  refine x_callS (pc := 1) (As := [.int (zi x1)]) (rest := []) (w2 := (w_Vol cI cB a0 a1 a2 a3 a4 a5 a6 a7 a8 a9 a10 a11 a12 a13 a14 a15 a16 a17 a18 a19 a20 a21 a22 a23 a24 a25 a26 a27 a28 a29 a30 a31 a32 a33 a34 a35 a36 a37 ik now nbt nki npl nva nwr nrm nrs nrz kow kbt kki kpl kva kwr krm krs krz tow tbt tki tpl tva twr trm trs trz seed smn snu rmn rnu rf)) X d_Vol_ahead_1 lk_Vol_84 mv_Vol_isFile (c_Vol_isFile l D cI cB x1 h2) ⟨(Nat.le_of_ble_eq_true rfl), (Nat.le_of_ble_eq_true rfl), (Nat.le_of_ble_eq_true rfl), (Nat.le_of_ble_eq_true rfl)⟩ [] rfl rfl rfl (Up.same rfl) rfl rfl (Nat.le_of_ble_eq_true rfl) ?_
  obtain ⟨j3, hj12, h⟩ := jn_e h
  have J13 : ∀ (c4 : Int → Int) (c5 : Int → Int) (c6 : Int) (c7 : Int → Int) (c8 : Int → Int) (c9 : Int → Int), j3 c4 c5 c6 c7 c8 c9 = some o → Wx G 0 0 14 [(0, .ref a0)] [] (w_Vol cI cB a0 a1 a2 a3 a4 a5 a6 a7 a8 a9 a10 a11 a12 a13 a14 a15 a16 a17 a18 a19 a20 a21 a22 a23 a24 a25 a26 a27 a28 a29 a30 a31 a32 a33 a34 a35 a36 a37 ik c4 nbt nki c5 nva nwr c6 c7 c8 kow kbt kki kpl kva kwr krm krs krz tow tbt tki tpl tva twr trm trs trz seed smn snu rmn rnu c9) := by
    intro c4 c5 c6 c7 c8 c9 h
    rw [hj12] at h
    (try dsimp only at h)
    refine x_aload_n (pc := 14) X d_Vol_ahead_14 0 rfl rfl ?_
    refine x_iconst (pc := 15) X d_Vol_ahead_15  ?_
    obtain ⟨r10, h11, h⟩ := bnd_e h
    refine x_callV (pc := 16) (As := [.int (zi (-1))]) (rest := []) (w2 := (w_Vol cI cB a0 a1 a2 a3 a4 a5 a6 a7 a8 a9 a10 a11 a12 a13 a14 a15 a16 a17 a18 a19 a20 a21 a22 a23 a24 a25 a26 a27 a28 a29 a30 a31 a32 a33 a34 a35 a36 a37 ik c4 nbt nki c5 nva nwr c6 c7 c8 kow kbt kki kpl kva kwr krm krs krz tow tbt tki tpl tva twr trm trs trz seed smn snu rmn rnu r10.2)) X d_Vol_ahead_16 lk_Vol_55 mv_Vol_refuse (c_Vol_refuse l D cI cB a0 a1 a2 a3 a4 a5 a6 a7 a8 a9 a10 a11 a12 a13 a14 a15 a16 a17 a18 a19 a20 a21 a22 a23 a24 a25 a26 a27 a28 a29 a30 a31 a32 a33 a34 a35 a36 a37 ik c4 nbt nki c5 nva nwr c6 c7 c8 kow kbt kki kpl kva kwr krm krs krz tow tbt tki tpl tva twr trm trs trz seed smn snu rmn rnu c9 (-1) h11) ⟨(Nat.le_of_ble_eq_true rfl), (Nat.le_of_ble_eq_true rfl), (Nat.le_of_ble_eq_true rfl), (Nat.le_of_ble_eq_true rfl)⟩ 0 rfl rfl [0, 1, 2, 3, 4, 5, 6, 7, 8, 9, 10, 11, 12, 13, 14, 15, 16, 17, 18, 19, 20, 21, 22, 23, 24, 25, 26, 27, 28, 29, 30, 31, 32, 33, 34, 35, 36, 37] rfl rfl rfl (Up.of [] [] rfl rfl rfl 38 rfl (by decide +kernel)) rfl rfl (Nat.le_of_ble_eq_true rfl) ?_
    cases h
    exact x_iret (pc := 19) X hR d_Vol_ahead_19
  clear hj12
  refine x_ifeq (pc := 4) (tgt := 14) X d_Vol_ahead_4 rfl h (fun h => ?_) (fun h => ?_)
  · skip
    refine x_ls (ls2 := [(0, .ref a0)]) [0] rfl ?_
    exact J13 now npl nrm nrs nrz rf h
  · skip
    refine x_iload_n (pc := 7) X d_Vol_ahead_7 2 rfl rfl ?_
    obtain ⟨r14, h15, h⟩ := bnd_e h
    refine x_callS (pc := 8) (As := [.int (zi x2)]) (rest := []) (w2 := (w_Vol cI cB a0 a1 a2 a3 a4 a5 a6 a7 a8 a9 a10 a11 a12 a13 a14 a15 a16 a17 a18 a19 a20 a21 a22 a23 a24 a25 a26 a27 a28 a29 a30 a31 a32 a33 a34 a35 a36 a37 ik now nbt nki npl nva nwr nrm nrs nrz kow kbt kki kpl kva kwr krm krs krz tow tbt tki tpl tva twr trm trs trz seed smn snu rmn rnu rf)) X d_Vol_ahead_8 lk_Vol_88 mv_Vol_isPage (c_Vol_isPage l D cI cB x2 h15) ⟨(Nat.le_of_ble_eq_true rfl), (Nat.le_of_ble_eq_true rfl), (Nat.le_of_ble_eq_true rfl), (Nat.le_of_ble_eq_true rfl)⟩ [] rfl rfl rfl (Up.same rfl) rfl rfl (Nat.le_of_ble_eq_true rfl) ?_
    refine x_ifne (pc := 11) (tgt := 20) X d_Vol_ahead_11 rfl h (fun h => ?_) (fun h => ?_)
    · skip
      refine x_iload_n (pc := 20) X d_Vol_ahead_20 3 rfl rfl ?_
      refine x_iconst (pc := 21) X d_Vol_ahead_21  ?_
      refine x_icmpge (pc := 22) (tgt := 32) X d_Vol_ahead_22 rfl h (fun h => ?_) (fun h => ?_)
      · skip
        refine x_iload_n (pc := 32) X d_Vol_ahead_32 3 rfl rfl ?_
        refine x_bipush (pc := 33) (v := 24) X d_Vol_ahead_33 rfl ?_
        refine x_iload_n (pc := 35) X d_Vol_ahead_35 2 rfl rfl ?_
        refine x_isub (pc := 36) X d_Vol_ahead_36  ?_
        obtain ⟨j16, hj26, h⟩ := jn_e h
        have J27 : ∀ (z17 : Int) (c18 : Int → Int) (c19 : Int → Int) (c20 : Int) (c21 : Int → Int) (c22 : Int → Int) (c23 : Int → Int), j16 z17 c18 c19 c20 c21 c22 c23 = some o → Wx G 0 0 54 [(0, .ref a0)] [.int (zi z17)] (w_Vol cI cB a0 a1 a2 a3 a4 a5 a6 a7 a8 a9 a10 a11 a12 a13 a14 a15 a16 a17 a18 a19 a20 a21 a22 a23 a24 a25 a26 a27 a28 a29 a30 a31 a32 a33 a34 a35 a36 a37 ik c18 nbt nki c19 nva nwr c20 c21 c22 kow kbt kki kpl kva kwr krm krs krz tow tbt tki tpl tva twr trm trs trz seed smn snu rmn rnu c23) := by
          intro z17 c18 c19 c20 c21 c22 c23 h
          rw [hj26] at h
          (try dsimp only at h)
          refine x_istore (pc := 54) (ls2 := [(4, .int (zi z17)), (0, .ref a0)]) X d_Vol_ahead_54 (Nat.le_of_ble_eq_true rfl) rfl ?_
          refine x_iload (pc := 56) X d_Vol_ahead_56 0 rfl ?_
          refine x_ifge (pc := 58) (tgt := 70) X d_Vol_ahead_58 rfl h (fun h => ?_) (fun h => ?_)
          · skip
            refine x_iload (pc := 70) X d_Vol_ahead_70 0 rfl ?_
            cases h
            exact x_iret (pc := 72) X hR d_Vol_ahead_72
          · skip
            refine x_aload_n (pc := 61) X d_Vol_ahead_61 1 rfl rfl ?_
            refine x_bipush (pc := 62) (v := -6) X d_Vol_ahead_62 rfl ?_
            obtain ⟨r24, h25, h⟩ := bnd_e h
            refine x_callV (pc := 64) (As := [.int (zi (-6))]) (rest := []) (w2 := (w_Vol cI cB a0 a1 a2 a3 a4 a5 a6 a7 a8 a9 a10 a11 a12 a13 a14 a15 a16 a17 a18 a19 a20 a21 a22 a23 a24 a25 a26 a27 a28 a29 a30 a31 a32 a33 a34 a35 a36 a37 ik c18 nbt nki c19 nva nwr c20 c21 c22 kow kbt kki kpl kva kwr krm krs krz tow tbt tki tpl tva twr trm trs trz seed smn snu rmn rnu r24.2)) X d_Vol_ahead_64 lk_Vol_55 mv_Vol_refuse (c_Vol_refuse l D cI cB a0 a1 a2 a3 a4 a5 a6 a7 a8 a9 a10 a11 a12 a13 a14 a15 a16 a17 a18 a19 a20 a21 a22 a23 a24 a25 a26 a27 a28 a29 a30 a31 a32 a33 a34 a35 a36 a37 ik c18 nbt nki c19 nva nwr c20 c21 c22 kow kbt kki kpl kva kwr krm krs krz tow tbt tki tpl tva twr trm trs trz seed smn snu rmn rnu c23 (-6) h25) ⟨(Nat.le_of_ble_eq_true rfl), (Nat.le_of_ble_eq_true rfl), (Nat.le_of_ble_eq_true rfl), (Nat.le_of_ble_eq_true rfl)⟩ 0 rfl rfl [0, 1, 2, 3, 4, 5, 6, 7, 8, 9, 10, 11, 12, 13, 14, 15, 16, 17, 18, 19, 20, 21, 22, 23, 24, 25, 26, 27, 28, 29, 30, 31, 32, 33, 34, 35, 36, 37] rfl rfl rfl (Up.of [] [] rfl rfl rfl 38 rfl (by decide +kernel)) rfl rfl (Nat.le_of_ble_eq_true rfl) ?_
            refine x_goto (pc := 67) (tgt := 72) X d_Vol_ahead_67 rfl ?_
            cases h
            exact x_iret (pc := 72) X hR d_Vol_ahead_72
        clear hj26
        refine x_icmple (pc := 37) (tgt := 44) X d_Vol_ahead_37 rfl h (fun h => ?_) (fun h => ?_)
        · skip
          refine x_aload_n (pc := 44) X d_Vol_ahead_44 0 rfl rfl ?_
          refine x_get (pc := 45) X d_Vol_ahead_45 0 rfl fl_Vol_10 rfl ?_
          refine x_iload_n (pc := 48) X d_Vol_ahead_48 1 rfl rfl ?_
          refine x_iload_n (pc := 49) X d_Vol_ahead_49 2 rfl rfl ?_
          refine x_iload_n (pc := 50) X d_Vol_ahead_50 3 rfl rfl ?_
          obtain ⟨r28, h29, h⟩ := bnd_e h
          refine x_callV (pc := 51) (As := [.int (zi x1), .int (zi x2), .int (zi x3)]) (rest := []) (w2 := (w_Vol cI cB a0 a1 a2 a3 a4 a5 a6 a7 a8 a9 a10 a11 a12 a13 a14 a15 a16 a17 a18 a19 a20 a21 a22 a23 a24 a25 a26 a27 a28 a29 a30 a31 a32 a33 a34 a35 a36 a37 ik r28.2.1 nbt nki r28.2.2.1 nva nwr r28.2.2.2.1 r28.2.2.2.2.1 r28.2.2.2.2.2 kow kbt kki kpl kva kwr krm krs krz tow tbt tki tpl tva twr trm trs trz seed smn snu rmn rnu rf)) X d_Vol_ahead_51 lk_Vol_133 mv_Disk_putHoles (c_Disk_putHoles l D cI cB a1 a2 a3 a4 a5 a6 a7 a8 a9 a10 now nbt nki npl nva nwr nrm nrs nrz x1 x2 x3 h29) ⟨(Nat.le_of_ble_eq_true rfl), (Nat.le_of_ble_eq_true rfl), (Nat.le_of_ble_eq_true rfl), (Nat.le_of_ble_eq_true rfl)⟩ 1 rfl rfl [1, 2, 3, 4, 5, 6, 7, 8, 9, 10] rfl rfl rfl (Up.of [0, 11, 12, 13, 14, 15, 16, 17, 18, 19, 20, 21, 22, 23, 24, 25, 26, 27, 28, 29, 30, 31, 32, 33, 34, 35, 36, 37] [(a0, .inr (5, [.ref a1, .ref a11, .ref a21, .ref a31, .ref a32, .ref a35, .ref a37, .int (zi ik)])), (a11, .inr (0, [.ref a12, .ref a13, .ref a14, .ref a15, .ref a16, .ref a17, .ref a18])), (a12, zA cI 64 kow), (a13, zA cI 64 kbt), (a14, zA cI 4 kki), (a15, zA cI 96 kpl), (a16, zA cI 96 kva), (a17, zA cB 96 kwr), (a18, .inr (3, [.ref a19, .ref a20, .int (zi krm)])), (a19, zA cI 32 krs), (a20, zA cI 32 krz), (a21, .inr (0, [.ref a22, .ref a23, .ref a24, .ref a25, .ref a26, .ref a27, .ref a28])), (a22, zA cI 64 tow), (a23, zA cI 64 tbt), (a24, zA cI 4 tki), (a25, zA cI 96 tpl), (a26, zA cI 96 tva), (a27, zA cB 96 twr), (a28, .inr (3, [.ref a29, .ref a30, .int (zi trm)])), (a29, zA cI 32 trs), (a30, zA cI 32 trz), (a31, .inr (1, [.ref a1, .ref a21, .int (zi seed)])), (a32, .inr (4, [.ref a33])), (a33, .inr (2, [.ref a34, .int (zi smn)])), (a34, zA cI 96 snu), (a35, .inr (2, [.ref a36, .int (zi rmn)])), (a36, zA cI 32 rnu), (a37, zA cI 7 rf)] rfl rfl rfl 38 rfl (by decide +kernel)) rfl rfl (Nat.le_of_ble_eq_true rfl) ?_
          refine x_ls (ls2 := [(0, .ref a0)]) [0] rfl ?_
          exact J27 r28.1 r28.2.1 r28.2.2.1 r28.2.2.2.1 r28.2.2.2.2.1 r28.2.2.2.2.2 rf h
        · skip
          refine x_iconst (pc := 40) X d_Vol_ahead_40  ?_
          refine x_goto (pc := 41) (tgt := 54) X d_Vol_ahead_41 rfl ?_
          refine x_ls (ls2 := [(0, .ref a0)]) [0] rfl ?_
          exact J27 (-1) now npl nrm nrs nrz rf h
      · skip
        refine x_aload_n (pc := 25) X d_Vol_ahead_25 0 rfl rfl ?_
        refine x_bipush (pc := 26) (v := -4) X d_Vol_ahead_26 rfl ?_
        obtain ⟨r30, h31, h⟩ := bnd_e h
        refine x_callV (pc := 28) (As := [.int (zi (-4))]) (rest := []) (w2 := (w_Vol cI cB a0 a1 a2 a3 a4 a5 a6 a7 a8 a9 a10 a11 a12 a13 a14 a15 a16 a17 a18 a19 a20 a21 a22 a23 a24 a25 a26 a27 a28 a29 a30 a31 a32 a33 a34 a35 a36 a37 ik now nbt nki npl nva nwr nrm nrs nrz kow kbt kki kpl kva kwr krm krs krz tow tbt tki tpl tva twr trm trs trz seed smn snu rmn rnu r30.2)) X d_Vol_ahead_28 lk_Vol_55 mv_Vol_refuse (c_Vol_refuse l D cI cB a0 a1 a2 a3 a4 a5 a6 a7 a8 a9 a10 a11 a12 a13 a14 a15 a16 a17 a18 a19 a20 a21 a22 a23 a24 a25 a26 a27 a28 a29 a30 a31 a32 a33 a34 a35 a36 a37 ik now nbt nki npl nva nwr nrm nrs nrz kow kbt kki kpl kva kwr krm krs krz tow tbt tki tpl tva twr trm trs trz seed smn snu rmn rnu rf (-4) h31) ⟨(Nat.le_of_ble_eq_true rfl), (Nat.le_of_ble_eq_true rfl), (Nat.le_of_ble_eq_true rfl), (Nat.le_of_ble_eq_true rfl)⟩ 0 rfl rfl [0, 1, 2, 3, 4, 5, 6, 7, 8, 9, 10, 11, 12, 13, 14, 15, 16, 17, 18, 19, 20, 21, 22, 23, 24, 25, 26, 27, 28, 29, 30, 31, 32, 33, 34, 35, 36, 37] rfl rfl rfl (Up.of [] [] rfl rfl rfl 38 rfl (by decide +kernel)) rfl rfl (Nat.le_of_ble_eq_true rfl) ?_
        cases h
        exact x_iret (pc := 31) X hR d_Vol_ahead_31
    · skip
      refine x_ls (ls2 := [(0, .ref a0)]) [0] rfl ?_
      exact J13 now npl nrm nrs nrz rf h
theorem d_Vol_punch_0 : decode b_Vol_punch 0 = .ok (.iload_n 1, 1) := by decide +kernel
theorem d_Vol_punch_1 : decode b_Vol_punch 1 = .ok (.invokestatic 84, 3) := by decide +kernel
theorem d_Vol_punch_4 : decode b_Vol_punch 4 = .ok (.ifCond .eq 10, 3) := by decide +kernel
theorem d_Vol_punch_7 : decode b_Vol_punch 7 = .ok (.iload_n 2, 1) := by decide +kernel
theorem d_Vol_punch_8 : decode b_Vol_punch 8 = .ok (.invokestatic 88, 3) := by decide +kernel
theorem d_Vol_punch_11 : decode b_Vol_punch 11 = .ok (.ifCond .ne 9, 3) := by decide +kernel
theorem d_Vol_punch_14 : decode b_Vol_punch 14 = .ok (.aload_n 0, 1) := by decide +kernel
theorem d_Vol_punch_15 : decode b_Vol_punch 15 = .ok (.iconst (-1), 1) := by decide +kernel
theorem d_Vol_punch_16 : decode b_Vol_punch 16 = .ok (.invokevirtual 55, 3) := by decide +kernel
theorem d_Vol_punch_19 : decode b_Vol_punch 19 = .ok (.ireturn, 1) := by decide +kernel
theorem d_Vol_punch_20 : decode b_Vol_punch 20 = .ok (.iload_n 3, 1) := by decide +kernel
theorem d_Vol_punch_21 : decode b_Vol_punch 21 = .ok (.iconst 1, 1) := by decide +kernel
theorem d_Vol_punch_22 : decode b_Vol_punch 22 = .ok (.if_icmp .ge 10, 3) := by decide +kernel
theorem d_Vol_punch_25 : decode b_Vol_punch 25 = .ok (.aload_n 0, 1) := by decide +kernel
theorem d_Vol_punch_26 : decode b_Vol_punch 26 = .ok (.bipush (-4), 2) := by decide +kernel
theorem d_Vol_punch_28 : decode b_Vol_punch 28 = .ok (.invokevirtual 55, 3) := by decide +kernel
theorem d_Vol_punch_31 : decode b_Vol_punch 31 = .ok (.ireturn, 1) := by decide +kernel
theorem d_Vol_punch_32 : decode b_Vol_punch 32 = .ok (.iload_n 3, 1) := by decide +kernel
theorem d_Vol_punch_33 : decode b_Vol_punch 33 = .ok (.bipush 24, 2) := by decide +kernel
theorem d_Vol_punch_35 : decode b_Vol_punch 35 = .ok (.iload_n 2, 1) := by decide +kernel
theorem d_Vol_punch_36 : decode b_Vol_punch 36 = .ok (.isub, 1) := by decide +kernel
theorem d_Vol_punch_37 : decode b_Vol_punch 37 = .ok (.if_icmp .le 10, 3) := by decide +kernel
theorem d_Vol_punch_40 : decode b_Vol_punch 40 = .ok (.aload_n 0, 1) := by decide +kernel
theorem d_Vol_punch_41 : decode b_Vol_punch 41 = .ok (.bipush (-6), 2) := by decide +kernel
theorem d_Vol_punch_43 : decode b_Vol_punch 43 = .ok (.invokevirtual 55, 3) := by decide +kernel
theorem d_Vol_punch_46 : decode b_Vol_punch 46 = .ok (.ireturn, 1) := by decide +kernel
theorem d_Vol_punch_47 : decode b_Vol_punch 47 = .ok (.aload_n 0, 1) := by decide +kernel
theorem d_Vol_punch_48 : decode b_Vol_punch 48 = .ok (.getfield 10, 3) := by decide +kernel
theorem d_Vol_punch_51 : decode b_Vol_punch 51 = .ok (.iload_n 1, 1) := by decide +kernel
theorem d_Vol_punch_52 : decode b_Vol_punch 52 = .ok (.iload_n 2, 1) := by decide +kernel
theorem d_Vol_punch_53 : decode b_Vol_punch 53 = .ok (.iload_n 3, 1) := by decide +kernel
theorem d_Vol_punch_54 : decode b_Vol_punch 54 = .ok (.invokevirtual 137, 3) := by decide +kernel
theorem d_Vol_punch_57 : decode b_Vol_punch 57 = .ok (.ireturn, 1) := by decide +kernel
def m_Vol_punch (x1 : Int) (x2 : Int) (x3 : Int) (now : Int → Int) (npl : Int → Int) (nva : Int → Int) (nwr : Int → Int) (rf : Int → Int) : Option (Int × (Int → Int) × (Int → Int) × (Int → Int) × (Int → Int) × (Int → Int)) :=
  bnd (m_Vol_isFile x1) (fun r1 => jn (fun (c4 : Int → Int) (c5 : Int → Int) (c6 : Int → Int) (c7 : Int → Int) (c8 : Int → Int) => bnd (m_Vol_refuse (-1) c8) (fun r9 => some (r9.1, c4, c5, c6, c7, r9.2))) (fun j3 => ceq r1 0 (j3 now npl nva nwr rf) (bnd (m_Vol_isPage x2) (fun r13 => ceq r13 0 (j3 now npl nva nwr rf) (clt x3 1 (bnd (m_Vol_refuse (-4) rf) (fun r19 => some (r19.1, now, npl, nva, nwr, r19.2))) (cle x3 (24 - x2) (bnd (m_Disk_punchOut x1 x2 x3 now npl nva nwr) (fun r15 => some (r15.1, r15.2.1, r15.2.2.1, r15.2.2.2.1, r15.2.2.2.2, rf))) (bnd (m_Vol_refuse (-6) rf) (fun r17 => some (r17.1, now, npl, nva, nwr, r17.2)))))))))
set_option maxHeartbeats 4000000 in
set_option maxRecDepth 100000 in
theorem c_Vol_punch (l : Launch) (D : va_G) (cI cB : ClassId) (a0 a1 a2 a3 a4 a5 a6 a7 a8 a9 a10 a11 a12 a13 a14 a15 a16 a17 a18 a19 a20 a21 a22 a23 a24 a25 a26 a27 a28 a29 a30 a31 a32 a33 a34 a35 a36 a37 : Nat) (ik : Int) (now : Int → Int) (nbt : Int → Int) (nki : Int → Int) (npl : Int → Int) (nva : Int → Int) (nwr : Int → Int) (nrm : Int) (nrs : Int → Int) (nrz : Int → Int) (kow : Int → Int) (kbt : Int → Int) (kki : Int → Int) (kpl : Int → Int) (kva : Int → Int) (kwr : Int → Int) (krm : Int) (krs : Int → Int) (krz : Int → Int) (tow : Int → Int) (tbt : Int → Int) (tki : Int → Int) (tpl : Int → Int) (tva : Int → Int) (twr : Int → Int) (trm : Int) (trs : Int → Int) (trz : Int → Int) (seed : Int) (smn : Int) (snu : Int → Int) (rmn : Int) (rnu : Int → Int) (rf : Int → Int) (x1 : Int) (x2 : Int) (x3 : Int) {o : Int × (Int → Int) × (Int → Int) × (Int → Int) × (Int → Int) × (Int → Int)} (h : m_Vol_punch x1 x2 x3 now npl nva nwr rf = some o) : Ct l D cI cB y_Vol_punch b_Vol_punch 4 (some .int) { frames := 3, cells := 0, slots := 0, locals := 71 } [.ref a0, .int (zi x1), .int (zi x2), .int (zi x3)] (w_Vol cI cB a0 a1 a2 a3 a4 a5 a6 a7 a8 a9 a10 a11 a12 a13 a14 a15 a16 a17 a18 a19 a20 a21 a22 a23 a24 a25 a26 a27 a28 a29 a30 a31 a32 a33 a34 a35 a36 a37 ik now nbt nki npl nva nwr nrm nrs nrz kow kbt kki kpl kva kwr krm krs krz tow tbt tki tpl tva twr trm trs trz seed smn snu rmn rnu rf) (w_Vol cI cB a0 a1 a2 a3 a4 a5 a6 a7 a8 a9 a10 a11 a12 a13 a14 a15 a16 a17 a18 a19 a20 a21 a22 a23 a24 a25 a26 a27 a28 a29 a30 a31 a32 a33 a34 a35 a36 a37 ik o.2.1 nbt nki o.2.2.1 o.2.2.2.1 o.2.2.2.2.1 nrm nrs nrz kow kbt kki kpl kva kwr krm krs krz tow tbt tki tpl tva twr trm trs trz seed smn snu rmn rnu o.2.2.2.2.2) (some (.int (zi o.1))) := by
  refine Ct.start (by decide) (Nat.le_of_ble_eq_true rfl) (fun G X hR => ?_)
  refine x_ls (ls2 := [(0, .ref a0), (1, .int (zi x1)), (2, .int (zi x2)), (3, .int (zi x3))]) [0, 1, 2, 3] rfl ?_
  unfold m_Vol_punch at h
  refine x_iload_n (pc := 0) X d_Vol_punch_0 1 rfl rfl ?_
  obtain ⟨r1, h2, h⟩ := bnd_e h
  refine x_callS (pc := 1) (As := [.int (zi x1)]) (rest := []) (w2 := (w_Vol cI cB a0 a1 a2 a3 a4 a5 a6 a7 a8 a9 a10 a11 a12 a13 a14 a15 a16 a17 a18 a19 a20 a21 a22 a23 a24 a25 a26 a27 a28 a29 a30 a31 a32 a33 a34 a35 a36 a37 ik now nbt nki npl nva nwr nrm nrs nrz kow kbt kki kpl kva kwr krm krs krz tow tbt tki tpl tva twr trm trs trz seed smn snu rmn rnu rf)) X d_Vol_punch_1 lk_Vol_84 mv_Vol_isFile (c_Vol_isFile l D cI cB x1 h2) ⟨(Nat.le_of_ble_eq_true rfl), (Nat.le_of_ble_eq_true rfl), (Nat.le_of_ble_eq_true rfl), (Nat.le_of_ble_eq_true rfl)⟩ [] rfl rfl rfl (Up.same rfl) rfl rfl (Nat.le_of_ble_eq_true rfl) ?_
  obtain ⟨j3, hj11, h⟩ := jn_e h
  have J12 : ∀ (c4 : Int → Int) (c5 : Int → Int) (c6 : Int → Int) (c7 : Int → Int) (c8 : Int → Int), j3 c4 c5 c6 c7 c8 = some o → Wx G 0 0 14 [(0, .ref a0)] [] (w_Vol cI cB a0 a1 a2 a3 a4 a5 a6 a7 a8 a9 a10 a11 a12 a13 a14 a15 a16 a17 a18 a19 a20 a21 a22 a23 a24 a25 a26 a27 a28 a29 a30 a31 a32 a33 a34 a35 a36 a37 ik c4 nbt nki c5 c6 c7 nrm nrs nrz kow kbt kki kpl kva kwr krm krs krz tow tbt tki tpl tva twr trm trs trz seed smn snu rmn rnu c8) := by
    intro c4 c5 c6 c7 c8 h
    rw [hj11] at h
    (try dsimp only at h)
    refine x_aload_n (pc := 14) X d_Vol_punch_14 0 rfl rfl ?_
    refine x_iconst (pc := 15) X d_Vol_punch_15  ?_
    obtain ⟨r9, h10, h⟩ := bnd_e h
    refine x_callV (pc := 16) (As := [.int (zi (-1))]) (rest := []) (w2 := (w_Vol cI cB a0 a1 a2 a3 a4 a5 a6 a7 a8 a9 a10 a11 a12 a13 a14 a15 a16 a17 a18 a19 a20 a21 a22 a23 a24 a25 a26 a27 a28 a29 a30 a31 a32 a33 a34 a35 a36 a37 ik c4 nbt nki c5 c6 c7 nrm nrs nrz kow kbt kki kpl kva kwr krm krs krz tow tbt tki tpl tva twr trm trs trz seed smn snu rmn rnu r9.2)) X d_Vol_punch_16 lk_Vol_55 mv_Vol_refuse (c_Vol_refuse l D cI cB a0 a1 a2 a3 a4 a5 a6 a7 a8 a9 a10 a11 a12 a13 a14 a15 a16 a17 a18 a19 a20 a21 a22 a23 a24 a25 a26 a27 a28 a29 a30 a31 a32 a33 a34 a35 a36 a37 ik c4 nbt nki c5 c6 c7 nrm nrs nrz kow kbt kki kpl kva kwr krm krs krz tow tbt tki tpl tva twr trm trs trz seed smn snu rmn rnu c8 (-1) h10) ⟨(Nat.le_of_ble_eq_true rfl), (Nat.le_of_ble_eq_true rfl), (Nat.le_of_ble_eq_true rfl), (Nat.le_of_ble_eq_true rfl)⟩ 0 rfl rfl [0, 1, 2, 3, 4, 5, 6, 7, 8, 9, 10, 11, 12, 13, 14, 15, 16, 17, 18, 19, 20, 21, 22, 23, 24, 25, 26, 27, 28, 29, 30, 31, 32, 33, 34, 35, 36, 37] rfl rfl rfl (Up.of [] [] rfl rfl rfl 38 rfl (by decide +kernel)) rfl rfl (Nat.le_of_ble_eq_true rfl) ?_
    cases h
    exact x_iret (pc := 19) X hR d_Vol_punch_19
  clear hj11
  refine x_ifeq (pc := 4) (tgt := 14) X d_Vol_punch_4 rfl h (fun h => ?_) (fun h => ?_)
  · skip
    refine x_ls (ls2 := [(0, .ref a0)]) [0] rfl ?_
    exact J12 now npl nva nwr rf h
  · skip
    refine x_iload_n (pc := 7) X d_Vol_punch_7 2 rfl rfl ?_
    obtain ⟨r13, h14, h⟩ := bnd_e h
    refine x_callS (pc := 8) (As := [.int (zi x2)]) (rest := []) (w2 := (w_Vol cI cB a0 a1 a2 a3 a4 a5 a6 a7 a8 a9 a10 a11 a12 a13 a14 a15 a16 a17 a18 a19 a20 a21 a22 a23 a24 a25 a26 a27 a28 a29 a30 a31 a32 a33 a34 a35 a36 a37 ik now nbt nki npl nva nwr nrm nrs nrz kow kbt kki kpl kva kwr krm krs krz tow tbt tki tpl tva twr trm trs trz seed smn snu rmn rnu rf)) X d_Vol_punch_8 lk_Vol_88 mv_Vol_isPage (c_Vol_isPage l D cI cB x2 h14) ⟨(Nat.le_of_ble_eq_true rfl), (Nat.le_of_ble_eq_true rfl), (Nat.le_of_ble_eq_true rfl), (Nat.le_of_ble_eq_true rfl)⟩ [] rfl rfl rfl (Up.same rfl) rfl rfl (Nat.le_of_ble_eq_true rfl) ?_
    refine x_ifne (pc := 11) (tgt := 20) X d_Vol_punch_11 rfl h (fun h => ?_) (fun h => ?_)
    · skip
      refine x_iload_n (pc := 20) X d_Vol_punch_20 3 rfl rfl ?_
      refine x_iconst (pc := 21) X d_Vol_punch_21  ?_
      refine x_icmpge (pc := 22) (tgt := 32) X d_Vol_punch_22 rfl h (fun h => ?_) (fun h => ?_)
      · skip
        refine x_iload_n (pc := 32) X d_Vol_punch_32 3 rfl rfl ?_
        refine x_bipush (pc := 33) (v := 24) X d_Vol_punch_33 rfl ?_
        refine x_iload_n (pc := 35) X d_Vol_punch_35 2 rfl rfl ?_
        refine x_isub (pc := 36) X d_Vol_punch_36  ?_
        refine x_icmple (pc := 37) (tgt := 47) X d_Vol_punch_37 rfl h (fun h => ?_) (fun h => ?_)
        · skip
          refine x_aload_n (pc := 47) X d_Vol_punch_47 0 rfl rfl ?_
          refine x_get (pc := 48) X d_Vol_punch_48 0 rfl fl_Vol_10 rfl ?_
          refine x_iload_n (pc := 51) X d_Vol_punch_51 1 rfl rfl ?_
          refine x_iload_n (pc := 52) X d_Vol_punch_52 2 rfl rfl ?_
          refine x_iload_n (pc := 53) X d_Vol_punch_53 3 rfl rfl ?_
          obtain ⟨r15, h16, h⟩ := bnd_e h
          refine x_callV (pc := 54) (As := [.int (zi x1), .int (zi x2), .int (zi x3)]) (rest := []) (w2 := (w_Vol cI cB a0 a1 a2 a3 a4 a5 a6 a7 a8 a9 a10 a11 a12 a13 a14 a15 a16 a17 a18 a19 a20 a21 a22 a23 a24 a25 a26 a27 a28 a29 a30 a31 a32 a33 a34 a35 a36 a37 ik r15.2.1 nbt nki r15.2.2.1 r15.2.2.2.1 r15.2.2.2.2 nrm nrs nrz kow kbt kki kpl kva kwr krm krs krz tow tbt tki tpl tva twr trm trs trz seed smn snu rmn rnu rf)) X d_Vol_punch_54 lk_Vol_137 mv_Disk_punchOut (c_Disk_punchOut l D cI cB a1 a2 a3 a4 a5 a6 a7 a8 a9 a10 now nbt nki npl nva nwr nrm nrs nrz x1 x2 x3 h16) ⟨(Nat.le_of_ble_eq_true rfl), (Nat.le_of_ble_eq_true rfl), (Nat.le_of_ble_eq_true rfl), (Nat.le_of_ble_eq_true rfl)⟩ 1 rfl rfl [1, 2, 3, 4, 5, 6, 7, 8, 9, 10] rfl rfl rfl (Up.of [0, 11, 12, 13, 14, 15, 16, 17, 18, 19, 20, 21, 22, 23, 24, 25, 26, 27, 28, 29, 30, 31, 32, 33, 34, 35, 36, 37] [(a0, .inr (5, [.ref a1, .ref a11, .ref a21, .ref a31, .ref a32, .ref a35, .ref a37, .int (zi ik)])), (a11, .inr (0, [.ref a12, .ref a13, .ref a14, .ref a15, .ref a16, .ref a17, .ref a18])), (a12, zA cI 64 kow), (a13, zA cI 64 kbt), (a14, zA cI 4 kki), (a15, zA cI 96 kpl), (a16, zA cI 96 kva), (a17, zA cB 96 kwr), (a18, .inr (3, [.ref a19, .ref a20, .int (zi krm)])), (a19, zA cI 32 krs), (a20, zA cI 32 krz), (a21, .inr (0, [.ref a22, .ref a23, .ref a24, .ref a25, .ref a26, .ref a27, .ref a28])), (a22, zA cI 64 tow), (a23, zA cI 64 tbt), (a24, zA cI 4 tki), (a25, zA cI 96 tpl), (a26, zA cI 96 tva), (a27, zA cB 96 twr), (a28, .inr (3, [.ref a29, .ref a30, .int (zi trm)])), (a29, zA cI 32 trs), (a30, zA cI 32 trz), (a31, .inr (1, [.ref a1, .ref a21, .int (zi seed)])), (a32, .inr (4, [.ref a33])), (a33, .inr (2, [.ref a34, .int (zi smn)])), (a34, zA cI 96 snu), (a35, .inr (2, [.ref a36, .int (zi rmn)])), (a36, zA cI 32 rnu), (a37, zA cI 7 rf)] rfl rfl rfl 38 rfl (by decide +kernel)) rfl rfl (Nat.le_of_ble_eq_true rfl) ?_
          cases h
          exact x_iret (pc := 57) X hR d_Vol_punch_57
        · skip
          refine x_aload_n (pc := 40) X d_Vol_punch_40 0 rfl rfl ?_
          refine x_bipush (pc := 41) (v := -6) X d_Vol_punch_41 rfl ?_
          obtain ⟨r17, h18, h⟩ := bnd_e h
          refine x_callV (pc := 43) (As := [.int (zi (-6))]) (rest := []) (w2 := (w_Vol cI cB a0 a1 a2 a3 a4 a5 a6 a7 a8 a9 a10 a11 a12 a13 a14 a15 a16 a17 a18 a19 a20 a21 a22 a23 a24 a25 a26 a27 a28 a29 a30 a31 a32 a33 a34 a35 a36 a37 ik now nbt nki npl nva nwr nrm nrs nrz kow kbt kki kpl kva kwr krm krs krz tow tbt tki tpl tva twr trm trs trz seed smn snu rmn rnu r17.2)) X d_Vol_punch_43 lk_Vol_55 mv_Vol_refuse (c_Vol_refuse l D cI cB a0 a1 a2 a3 a4 a5 a6 a7 a8 a9 a10 a11 a12 a13 a14 a15 a16 a17 a18 a19 a20 a21 a22 a23 a24 a25 a26 a27 a28 a29 a30 a31 a32 a33 a34 a35 a36 a37 ik now nbt nki npl nva nwr nrm nrs nrz kow kbt kki kpl kva kwr krm krs krz tow tbt tki tpl tva twr trm trs trz seed smn snu rmn rnu rf (-6) h18) ⟨(Nat.le_of_ble_eq_true rfl), (Nat.le_of_ble_eq_true rfl), (Nat.le_of_ble_eq_true rfl), (Nat.le_of_ble_eq_true rfl)⟩ 0 rfl rfl [0, 1, 2, 3, 4, 5, 6, 7, 8, 9, 10, 11, 12, 13, 14, 15, 16, 17, 18, 19, 20, 21, 22, 23, 24, 25, 26, 27, 28, 29, 30, 31, 32, 33, 34, 35, 36, 37] rfl rfl rfl (Up.of [] [] rfl rfl rfl 38 rfl (by decide +kernel)) rfl rfl (Nat.le_of_ble_eq_true rfl) ?_
          cases h
          exact x_iret (pc := 46) X hR d_Vol_punch_46
      · skip
        refine x_aload_n (pc := 25) X d_Vol_punch_25 0 rfl rfl ?_
        refine x_bipush (pc := 26) (v := -4) X d_Vol_punch_26 rfl ?_
        obtain ⟨r19, h20, h⟩ := bnd_e h
        refine x_callV (pc := 28) (As := [.int (zi (-4))]) (rest := []) (w2 := (w_Vol cI cB a0 a1 a2 a3 a4 a5 a6 a7 a8 a9 a10 a11 a12 a13 a14 a15 a16 a17 a18 a19 a20 a21 a22 a23 a24 a25 a26 a27 a28 a29 a30 a31 a32 a33 a34 a35 a36 a37 ik now nbt nki npl nva nwr nrm nrs nrz kow kbt kki kpl kva kwr krm krs krz tow tbt tki tpl tva twr trm trs trz seed smn snu rmn rnu r19.2)) X d_Vol_punch_28 lk_Vol_55 mv_Vol_refuse (c_Vol_refuse l D cI cB a0 a1 a2 a3 a4 a5 a6 a7 a8 a9 a10 a11 a12 a13 a14 a15 a16 a17 a18 a19 a20 a21 a22 a23 a24 a25 a26 a27 a28 a29 a30 a31 a32 a33 a34 a35 a36 a37 ik now nbt nki npl nva nwr nrm nrs nrz kow kbt kki kpl kva kwr krm krs krz tow tbt tki tpl tva twr trm trs trz seed smn snu rmn rnu rf (-4) h20) ⟨(Nat.le_of_ble_eq_true rfl), (Nat.le_of_ble_eq_true rfl), (Nat.le_of_ble_eq_true rfl), (Nat.le_of_ble_eq_true rfl)⟩ 0 rfl rfl [0, 1, 2, 3, 4, 5, 6, 7, 8, 9, 10, 11, 12, 13, 14, 15, 16, 17, 18, 19, 20, 21, 22, 23, 24, 25, 26, 27, 28, 29, 30, 31, 32, 33, 34, 35, 36, 37] rfl rfl rfl (Up.of [] [] rfl rfl rfl 38 rfl (by decide +kernel)) rfl rfl (Nat.le_of_ble_eq_true rfl) ?_
        cases h
        exact x_iret (pc := 31) X hR d_Vol_punch_31
    · skip
      refine x_ls (ls2 := [(0, .ref a0)]) [0] rfl ?_
      exact J12 now npl nva nwr rf h
theorem d_Vol_flush_0 : decode b_Vol_flush 0 = .ok (.iload_n 1, 1) := by decide +kernel
theorem d_Vol_flush_1 : decode b_Vol_flush 1 = .ok (.invokestatic 84, 3) := by decide +kernel
theorem d_Vol_flush_4 : decode b_Vol_flush 4 = .ok (.ifCond .ne 9, 3) := by decide +kernel
theorem d_Vol_flush_7 : decode b_Vol_flush 7 = .ok (.aload_n 0, 1) := by decide +kernel
theorem d_Vol_flush_8 : decode b_Vol_flush 8 = .ok (.iconst (-1), 1) := by decide +kernel
theorem d_Vol_flush_9 : decode b_Vol_flush 9 = .ok (.invokevirtual 55, 3) := by decide +kernel
theorem d_Vol_flush_12 : decode b_Vol_flush 12 = .ok (.ireturn, 1) := by decide +kernel
theorem d_Vol_flush_13 : decode b_Vol_flush 13 = .ok (.aload_n 0, 1) := by decide +kernel
theorem d_Vol_flush_14 : decode b_Vol_flush 14 = .ok (.getfield 10, 3) := by decide +kernel
theorem d_Vol_flush_17 : decode b_Vol_flush 17 = .ok (.iload_n 1, 1) := by decide +kernel
theorem d_Vol_flush_18 : decode b_Vol_flush 18 = .ok (.sipush 1000, 3) := by decide +kernel
theorem d_Vol_flush_21 : decode b_Vol_flush 21 = .ok (.invokevirtual 140, 3) := by decide +kernel
theorem d_Vol_flush_24 : decode b_Vol_flush 24 = .ok (.ireturn, 1) := by decide +kernel
def m_Vol_flush (x1 : Int) (now : Int → Int) (nbt : Int → Int) (nki : Int → Int) (npl : Int → Int) (nva : Int → Int) (nwr : Int → Int) (nrm : Int) (nrs : Int → Int) (nrz : Int → Int) (rf : Int → Int) : Option (Int × (Int → Int) × (Int → Int) × (Int → Int) × (Int → Int) × (Int → Int) × Int × (Int → Int) × (Int → Int) × (Int → Int)) :=
  bnd (m_Vol_isFile x1) (fun r1 => ceq r1 0 (bnd (m_Vol_refuse (-1) rf) (fun r5 => some (r5.1, now, nbt, npl, nva, nwr, nrm, nrs, nrz, r5.2))) (bnd (m_Disk_flushUpTo x1 1000 now nbt nki npl nva nwr nrm nrs nrz) (fun r3 => some (r3.1, r3.2.1, r3.2.2.1, r3.2.2.2.1, r3.2.2.2.2.1, r3.2.2.2.2.2.1, r3.2.2.2.2.2.2.1, r3.2.2.2.2.2.2.2.1, r3.2.2.2.2.2.2.2.2, rf))))
set_option maxHeartbeats 4000000 in
set_option maxRecDepth 100000 in
theorem c_Vol_flush (l : Launch) (D : va_G) (cI cB : ClassId) (a0 a1 a2 a3 a4 a5 a6 a7 a8 a9 a10 a11 a12 a13 a14 a15 a16 a17 a18 a19 a20 a21 a22 a23 a24 a25 a26 a27 a28 a29 a30 a31 a32 a33 a34 a35 a36 a37 : Nat) (ik : Int) (now : Int → Int) (nbt : Int → Int) (nki : Int → Int) (npl : Int → Int) (nva : Int → Int) (nwr : Int → Int) (nrm : Int) (nrs : Int → Int) (nrz : Int → Int) (kow : Int → Int) (kbt : Int → Int) (kki : Int → Int) (kpl : Int → Int) (kva : Int → Int) (kwr : Int → Int) (krm : Int) (krs : Int → Int) (krz : Int → Int) (tow : Int → Int) (tbt : Int → Int) (tki : Int → Int) (tpl : Int → Int) (tva : Int → Int) (twr : Int → Int) (trm : Int) (trs : Int → Int) (trz : Int → Int) (seed : Int) (smn : Int) (snu : Int → Int) (rmn : Int) (rnu : Int → Int) (rf : Int → Int) (x1 : Int) {o : Int × (Int → Int) × (Int → Int) × (Int → Int) × (Int → Int) × (Int → Int) × Int × (Int → Int) × (Int → Int) × (Int → Int)} (h : m_Vol_flush x1 now nbt nki npl nva nwr nrm nrs nrz rf = some o) : Ct l D cI cB y_Vol_flush b_Vol_flush 2 (some .int) { frames := 4, cells := 0, slots := 0, locals := 103 } [.ref a0, .int (zi x1)] (w_Vol cI cB a0 a1 a2 a3 a4 a5 a6 a7 a8 a9 a10 a11 a12 a13 a14 a15 a16 a17 a18 a19 a20 a21 a22 a23 a24 a25 a26 a27 a28 a29 a30 a31 a32 a33 a34 a35 a36 a37 ik now nbt nki npl nva nwr nrm nrs nrz kow kbt kki kpl kva kwr krm krs krz tow tbt tki tpl tva twr trm trs trz seed smn snu rmn rnu rf) (w_Vol cI cB a0 a1 a2 a3 a4 a5 a6 a7 a8 a9 a10 a11 a12 a13 a14 a15 a16 a17 a18 a19 a20 a21 a22 a23 a24 a25 a26 a27 a28 a29 a30 a31 a32 a33 a34 a35 a36 a37 ik o.2.1 o.2.2.1 nki o.2.2.2.1 o.2.2.2.2.1 o.2.2.2.2.2.1 o.2.2.2.2.2.2.1 o.2.2.2.2.2.2.2.1 o.2.2.2.2.2.2.2.2.1 kow kbt kki kpl kva kwr krm krs krz tow tbt tki tpl tva twr trm trs trz seed smn snu rmn rnu o.2.2.2.2.2.2.2.2.2) (some (.int (zi o.1))) := by
  refine Ct.start (by decide) (Nat.le_of_ble_eq_true rfl) (fun G X hR => ?_)
  refine x_ls (ls2 := [(0, .ref a0), (1, .int (zi x1))]) [0, 1] rfl ?_
  unfold m_Vol_flush at h
  refine x_iload_n (pc := 0) X d_Vol_flush_0 1 rfl rfl ?_
  obtain ⟨r1, h2, h⟩ := bnd_e h
  refine x_callS (pc := 1) (As := [.int (zi x1)]) (rest := []) (w2 := (w_Vol cI cB a0 a1 a2 a3 a4 a5 a6 a7 a8 a9 a10 a11 a12 a13 a14 a15 a16 a17 a18 a19 a20 a21 a22 a23 a24 a25 a26 a27 a28 a29 a30 a31 a32 a33 a34 a35 a36 a37 ik now nbt nki npl nva nwr nrm nrs nrz kow kbt kki kpl kva kwr krm krs krz tow tbt tki tpl tva twr trm trs trz seed smn snu rmn rnu rf)) X d_Vol_flush_1 lk_Vol_84 mv_Vol_isFile (c_Vol_isFile l D cI cB x1 h2) ⟨(Nat.le_of_ble_eq_true rfl), (Nat.le_of_ble_eq_true rfl), (Nat.le_of_ble_eq_true rfl), (Nat.le_of_ble_eq_true rfl)⟩ [] rfl rfl rfl (Up.same rfl) rfl rfl (Nat.le_of_ble_eq_true rfl) ?_
  refine x_ifne (pc := 4) (tgt := 13) X d_Vol_flush_4 rfl h (fun h => ?_) (fun h => ?_)
  · skip
    refine x_aload_n (pc := 13) X d_Vol_flush_13 0 rfl rfl ?_
    refine x_get (pc := 14) X d_Vol_flush_14 0 rfl fl_Vol_10 rfl ?_
    refine x_iload_n (pc := 17) X d_Vol_flush_17 1 rfl rfl ?_
    refine x_sipush (pc := 18) (v := 1000) X d_Vol_flush_18 (by decide +kernel) ?_
    obtain ⟨r3, h4, h⟩ := bnd_e h
    refine x_callV (pc := 21) (As := [.int (zi x1), .int (zi 1000)]) (rest := []) (w2 := (w_Vol cI cB a0 a1 a2 a3 a4 a5 a6 a7 a8 a9 a10 a11 a12 a13 a14 a15 a16 a17 a18 a19 a20 a21 a22 a23 a24 a25 a26 a27 a28 a29 a30 a31 a32 a33 a34 a35 a36 a37 ik r3.2.1 r3.2.2.1 nki r3.2.2.2.1 r3.2.2.2.2.1 r3.2.2.2.2.2.1 r3.2.2.2.2.2.2.1 r3.2.2.2.2.2.2.2.1 r3.2.2.2.2.2.2.2.2 kow kbt kki kpl kva kwr krm krs krz tow tbt tki tpl tva twr trm trs trz seed smn snu rmn rnu rf)) X d_Vol_flush_21 lk_Vol_140 mv_Disk_flushUpTo (c_Disk_flushUpTo l D cI cB a1 a2 a3 a4 a5 a6 a7 a8 a9 a10 now nbt nki npl nva nwr nrm nrs nrz x1 1000 h4) ⟨(Nat.le_of_ble_eq_true rfl), (Nat.le_of_ble_eq_true rfl), (Nat.le_of_ble_eq_true rfl), (Nat.le_of_ble_eq_true rfl)⟩ 1 rfl rfl [1, 2, 3, 4, 5, 6, 7, 8, 9, 10] rfl rfl rfl (Up.of [0, 11, 12, 13, 14, 15, 16, 17, 18, 19, 20, 21, 22, 23, 24, 25, 26, 27, 28, 29, 30, 31, 32, 33, 34, 35, 36, 37] [(a0, .inr (5, [.ref a1, .ref a11, .ref a21, .ref a31, .ref a32, .ref a35, .ref a37, .int (zi ik)])), (a11, .inr (0, [.ref a12, .ref a13, .ref a14, .ref a15, .ref a16, .ref a17, .ref a18])), (a12, zA cI 64 kow), (a13, zA cI 64 kbt), (a14, zA cI 4 kki), (a15, zA cI 96 kpl), (a16, zA cI 96 kva), (a17, zA cB 96 kwr), (a18, .inr (3, [.ref a19, .ref a20, .int (zi krm)])), (a19, zA cI 32 krs), (a20, zA cI 32 krz), (a21, .inr (0, [.ref a22, .ref a23, .ref a24, .ref a25, .ref a26, .ref a27, .ref a28])), (a22, zA cI 64 tow), (a23, zA cI 64 tbt), (a24, zA cI 4 tki), (a25, zA cI 96 tpl), (a26, zA cI 96 tva), (a27, zA cB 96 twr), (a28, .inr (3, [.ref a29, .ref a30, .int (zi trm)])), (a29, zA cI 32 trs), (a30, zA cI 32 trz), (a31, .inr (1, [.ref a1, .ref a21, .int (zi seed)])), (a32, .inr (4, [.ref a33])), (a33, .inr (2, [.ref a34, .int (zi smn)])), (a34, zA cI 96 snu), (a35, .inr (2, [.ref a36, .int (zi rmn)])), (a36, zA cI 32 rnu), (a37, zA cI 7 rf)] rfl rfl rfl 38 rfl (by decide +kernel)) rfl rfl (Nat.le_of_ble_eq_true rfl) ?_
    cases h
    exact x_iret (pc := 24) X hR d_Vol_flush_24
  · skip
    refine x_aload_n (pc := 7) X d_Vol_flush_7 0 rfl rfl ?_
    refine x_iconst (pc := 8) X d_Vol_flush_8  ?_
    obtain ⟨r5, h6, h⟩ := bnd_e h
    refine x_callV (pc := 9) (As := [.int (zi (-1))]) (rest := []) (w2 := (w_Vol cI cB a0 a1 a2 a3 a4 a5 a6 a7 a8 a9 a10 a11 a12 a13 a14 a15 a16 a17 a18 a19 a20 a21 a22 a23 a24 a25 a26 a27 a28 a29 a30 a31 a32 a33 a34 a35 a36 a37 ik now nbt nki npl nva nwr nrm nrs nrz kow kbt kki kpl kva kwr krm krs krz tow tbt tki tpl tva twr trm trs trz seed smn snu rmn rnu r5.2)) X d_Vol_flush_9 lk_Vol_55 mv_Vol_refuse (c_Vol_refuse l D cI cB a0 a1 a2 a3 a4 a5 a6 a7 a8 a9 a10 a11 a12 a13 a14 a15 a16 a17 a18 a19 a20 a21 a22 a23 a24 a25 a26 a27 a28 a29 a30 a31 a32 a33 a34 a35 a36 a37 ik now nbt nki npl nva nwr nrm nrs nrz kow kbt kki kpl kva kwr krm krs krz tow tbt tki tpl tva twr trm trs trz seed smn snu rmn rnu rf (-1) h6) ⟨(Nat.le_of_ble_eq_true rfl), (Nat.le_of_ble_eq_true rfl), (Nat.le_of_ble_eq_true rfl), (Nat.le_of_ble_eq_true rfl)⟩ 0 rfl rfl [0, 1, 2, 3, 4, 5, 6, 7, 8, 9, 10, 11, 12, 13, 14, 15, 16, 17, 18, 19, 20, 21, 22, 23, 24, 25, 26, 27, 28, 29, 30, 31, 32, 33, 34, 35, 36, 37] rfl rfl rfl (Up.of [] [] rfl rfl rfl 38 rfl (by decide +kernel)) rfl rfl (Nat.le_of_ble_eq_true rfl) ?_
    cases h
    exact x_iret (pc := 12) X hR d_Vol_flush_12
theorem d_Vol_settle_0 : decode b_Vol_settle 0 = .ok (.iload_n 1, 1) := by decide +kernel
theorem d_Vol_settle_1 : decode b_Vol_settle 1 = .ok (.invokestatic 84, 3) := by decide +kernel
theorem d_Vol_settle_4 : decode b_Vol_settle 4 = .ok (.ifCond .ne 9, 3) := by decide +kernel
theorem d_Vol_settle_7 : decode b_Vol_settle 7 = .ok (.aload_n 0, 1) := by decide +kernel
theorem d_Vol_settle_8 : decode b_Vol_settle 8 = .ok (.iconst (-1), 1) := by decide +kernel
theorem d_Vol_settle_9 : decode b_Vol_settle 9 = .ok (.invokevirtual 55, 3) := by decide +kernel
theorem d_Vol_settle_12 : decode b_Vol_settle 12 = .ok (.ireturn, 1) := by decide +kernel
theorem d_Vol_settle_13 : decode b_Vol_settle 13 = .ok (.aload_n 0, 1) := by decide +kernel
theorem d_Vol_settle_14 : decode b_Vol_settle 14 = .ok (.getfield 10, 3) := by decide +kernel
theorem d_Vol_settle_17 : decode b_Vol_settle 17 = .ok (.iload_n 1, 1) := by decide +kernel
theorem d_Vol_settle_18 : decode b_Vol_settle 18 = .ok (.invokevirtual 143, 3) := by decide +kernel
theorem d_Vol_settle_21 : decode b_Vol_settle 21 = .ok (.istore_n 2, 1) := by decide +kernel
theorem d_Vol_settle_22 : decode b_Vol_settle 22 = .ok (.iload_n 2, 1) := by decide +kernel
theorem d_Vol_settle_23 : decode b_Vol_settle 23 = .ok (.ifCond .ge 12, 3) := by decide +kernel
theorem d_Vol_settle_26 : decode b_Vol_settle 26 = .ok (.aload_n 0, 1) := by decide +kernel
theorem d_Vol_settle_27 : decode b_Vol_settle 27 = .ok (.bipush (-3), 2) := by decide +kernel
theorem d_Vol_settle_29 : decode b_Vol_settle 29 = .ok (.invokevirtual 55, 3) := by decide +kernel
theorem d_Vol_settle_32 : decode b_Vol_settle 32 = .ok (.goto 4, 3) := by decide +kernel
theorem d_Vol_settle_35 : decode b_Vol_settle 35 = .ok (.iload_n 2, 1) := by decide +kernel
theorem d_Vol_settle_36 : decode b_Vol_settle 36 = .ok (.ireturn, 1) := by decide +kernel
def m_Vol_settle (x1 : Int) (now : Int → Int) (nbt : Int → Int) (npl : Int → Int) (nrm : Int) (nrs : Int → Int) (nrz : Int → Int) (rf : Int → Int) : Option (Int × (Int → Int) × (Int → Int) × (Int → Int) × Int × (Int → Int) × (Int → Int) × (Int → Int)) :=
  bnd (m_Vol_isFile x1) (fun r1 => ceq r1 0 (bnd (m_Vol_refuse (-1) rf) (fun r7 => some (r7.1, now, nbt, npl, nrm, nrs, nrz, r7.2))) (bnd (m_Disk_settleDown x1 now nbt npl nrm nrs nrz) (fun r3 => clt r3.1 0 (bnd (m_Vol_refuse (-3) rf) (fun r5 => some (r5.1, r3.2.1, r3.2.2.1, r3.2.2.2.1, r3.2.2.2.2.1, r3.2.2.2.2.2.1, r3.2.2.2.2.2.2, r5.2))) (some (r3.1, r3.2.1, r3.2.2.1, r3.2.2.2.1, r3.2.2.2.2.1, r3.2.2.2.2.2.1, r3.2.2.2.2.2.2, rf)))))
set_option maxHeartbeats 4000000 in
set_option maxRecDepth 100000 in
theorem c_Vol_settle (l : Launch) (D : va_G) (cI cB : ClassId) (a0 a1 a2 a3 a4 a5 a6 a7 a8 a9 a10 a11 a12 a13 a14 a15 a16 a17 a18 a19 a20 a21 a22 a23 a24 a25 a26 a27 a28 a29 a30 a31 a32 a33 a34 a35 a36 a37 : Nat) (ik : Int) (now : Int → Int) (nbt : Int → Int) (nki : Int → Int) (npl : Int → Int) (nva : Int → Int) (nwr : Int → Int) (nrm : Int) (nrs : Int → Int) (nrz : Int → Int) (kow : Int → Int) (kbt : Int → Int) (kki : Int → Int) (kpl : Int → Int) (kva : Int → Int) (kwr : Int → Int) (krm : Int) (krs : Int → Int) (krz : Int → Int) (tow : Int → Int) (tbt : Int → Int) (tki : Int → Int) (tpl : Int → Int) (tva : Int → Int) (twr : Int → Int) (trm : Int) (trs : Int → Int) (trz : Int → Int) (seed : Int) (smn : Int) (snu : Int → Int) (rmn : Int) (rnu : Int → Int) (rf : Int → Int) (x1 : Int) {o : Int × (Int → Int) × (Int → Int) × (Int → Int) × Int × (Int → Int) × (Int → Int) × (Int → Int)} (h : m_Vol_settle x1 now nbt npl nrm nrs nrz rf = some o) : Ct l D cI cB y_Vol_settle b_Vol_settle 3 (some .int) { frames := 4, cells := 0, slots := 0, locals := 92 } [.ref a0, .int (zi x1)] (w_Vol cI cB a0 a1 a2 a3 a4 a5 a6 a7 a8 a9 a10 a11 a12 a13 a14 a15 a16 a17 a18 a19 a20 a21 a22 a23 a24 a25 a26 a27 a28 a29 a30 a31 a32 a33 a34 a35 a36 a37 ik now nbt nki npl nva nwr nrm nrs nrz kow kbt kki kpl kva kwr krm krs krz tow tbt tki tpl tva twr trm trs trz seed smn snu rmn rnu rf) (w_Vol cI cB a0 a1 a2 a3 a4 a5 a6 a7 a8 a9 a10 a11 a12 a13 a14 a15 a16 a17 a18 a19 a20 a21 a22 a23 a24 a25 a26 a27 a28 a29 a30 a31 a32 a33 a34 a35 a36 a37 ik o.2.1 o.2.2.1 nki o.2.2.2.1 nva nwr o.2.2.2.2.1 o.2.2.2.2.2.1 o.2.2.2.2.2.2.1 kow kbt kki kpl kva kwr krm krs krz tow tbt tki tpl tva twr trm trs trz seed smn snu rmn rnu o.2.2.2.2.2.2.2) (some (.int (zi o.1))) := by
  refine Ct.start (by decide) (Nat.le_of_ble_eq_true rfl) (fun G X hR => ?_)
  refine x_ls (ls2 := [(0, .ref a0), (1, .int (zi x1))]) [0, 1] rfl ?_
  unfold m_Vol_settle at h
  refine x_iload_n (pc := 0) X d_Vol_settle_0 1 rfl rfl ?_
  obtain ⟨r1, h2, h⟩ := bnd_e h
  refine x_callS (pc := 1) (As := [.int (zi x1)]) (rest := []) (w2 := (w_Vol cI cB a0 a1 a2 a3 a4 a5 a6 a7 a8 a9 a10 a11 a12 a13 a14 a15 a16 a17 a18 a19 a20 a21 a22 a23 a24 a25 a26 a27 a28 a29 a30 a31 a32 a33 a34 a35 a36 a37 ik now nbt nki npl nva nwr nrm nrs nrz kow kbt kki kpl kva kwr krm krs krz tow tbt tki tpl tva twr trm trs trz seed smn snu rmn rnu rf)) X d_Vol_settle_1 lk_Vol_84 mv_Vol_isFile (c_Vol_isFile l D cI cB x1 h2) ⟨(Nat.le_of_ble_eq_true rfl), (Nat.le_of_ble_eq_true rfl), (Nat.le_of_ble_eq_true rfl), (Nat.le_of_ble_eq_true rfl)⟩ [] rfl rfl rfl (Up.same rfl) rfl rfl (Nat.le_of_ble_eq_true rfl) ?_
  refine x_ifne (pc := 4) (tgt := 13) X d_Vol_settle_4 rfl h (fun h => ?_) (fun h => ?_)
  · skip
    refine x_aload_n (pc := 13) X d_Vol_settle_13 0 rfl rfl ?_
    refine x_get (pc := 14) X d_Vol_settle_14 0 rfl fl_Vol_10 rfl ?_
    refine x_iload_n (pc := 17) X d_Vol_settle_17 1 rfl rfl ?_
    obtain ⟨r3, h4, h⟩ := bnd_e h
    refine x_callV (pc := 18) (As := [.int (zi x1)]) (rest := []) (w2 := (w_Vol cI cB a0 a1 a2 a3 a4 a5 a6 a7 a8 a9 a10 a11 a12 a13 a14 a15 a16 a17 a18 a19 a20 a21 a22 a23 a24 a25 a26 a27 a28 a29 a30 a31 a32 a33 a34 a35 a36 a37 ik r3.2.1 r3.2.2.1 nki r3.2.2.2.1 nva nwr r3.2.2.2.2.1 r3.2.2.2.2.2.1 r3.2.2.2.2.2.2 kow kbt kki kpl kva kwr krm krs krz tow tbt tki tpl tva twr trm trs trz seed smn snu rmn rnu rf)) X d_Vol_settle_18 lk_Vol_143 mv_Disk_settleDown (c_Disk_settleDown l D cI cB a1 a2 a3 a4 a5 a6 a7 a8 a9 a10 now nbt nki npl nva nwr nrm nrs nrz x1 h4) ⟨(Nat.le_of_ble_eq_true rfl), (Nat.le_of_ble_eq_true rfl), (Nat.le_of_ble_eq_true rfl), (Nat.le_of_ble_eq_true rfl)⟩ 1 rfl rfl [1, 2, 3, 4, 5, 6, 7, 8, 9, 10] rfl rfl rfl (Up.of [0, 11, 12, 13, 14, 15, 16, 17, 18, 19, 20, 21, 22, 23, 24, 25, 26, 27, 28, 29, 30, 31, 32, 33, 34, 35, 36, 37] [(a0, .inr (5, [.ref a1, .ref a11, .ref a21, .ref a31, .ref a32, .ref a35, .ref a37, .int (zi ik)])), (a11, .inr (0, [.ref a12, .ref a13, .ref a14, .ref a15, .ref a16, .ref a17, .ref a18])), (a12, zA cI 64 kow), (a13, zA cI 64 kbt), (a14, zA cI 4 kki), (a15, zA cI 96 kpl), (a16, zA cI 96 kva), (a17, zA cB 96 kwr), (a18, .inr (3, [.ref a19, .ref a20, .int (zi krm)])), (a19, zA cI 32 krs), (a20, zA cI 32 krz), (a21, .inr (0, [.ref a22, .ref a23, .ref a24, .ref a25, .ref a26, .ref a27, .ref a28])), (a22, zA cI 64 tow), (a23, zA cI 64 tbt), (a24, zA cI 4 tki), (a25, zA cI 96 tpl), (a26, zA cI 96 tva), (a27, zA cB 96 twr), (a28, .inr (3, [.ref a29, .ref a30, .int (zi trm)])), (a29, zA cI 32 trs), (a30, zA cI 32 trz), (a31, .inr (1, [.ref a1, .ref a21, .int (zi seed)])), (a32, .inr (4, [.ref a33])), (a33, .inr (2, [.ref a34, .int (zi smn)])), (a34, zA cI 96 snu), (a35, .inr (2, [.ref a36, .int (zi rmn)])), (a36, zA cI 32 rnu), (a37, zA cI 7 rf)] rfl rfl rfl 38 rfl (by decide +kernel)) rfl rfl (Nat.le_of_ble_eq_true rfl) ?_
    refine x_istore_n (pc := 21) (ls2 := [(2, .int (zi r3.1)), (0, .ref a0), (1, .int (zi x1))]) X d_Vol_settle_21 rfl (Nat.le_of_ble_eq_true rfl) rfl ?_
    refine x_iload_n (pc := 22) X d_Vol_settle_22 0 rfl rfl ?_
    refine x_ifge (pc := 23) (tgt := 35) X d_Vol_settle_23 rfl h (fun h => ?_) (fun h => ?_)
    · skip
      refine x_iload_n (pc := 35) X d_Vol_settle_35 0 rfl rfl ?_
      cases h
      exact x_iret (pc := 36) X hR d_Vol_settle_36
    · skip
      refine x_aload_n (pc := 26) X d_Vol_settle_26 1 rfl rfl ?_
      refine x_bipush (pc := 27) (v := -3) X d_Vol_settle_27 rfl ?_
      obtain ⟨r5, h6, h⟩ := bnd_e h
      refine x_callV (pc := 29) (As := [.int (zi (-3))]) (rest := []) (w2 := (w_Vol cI cB a0 a1 a2 a3 a4 a5 a6 a7 a8 a9 a10 a11 a12 a13 a14 a15 a16 a17 a18 a19 a20 a21 a22 a23 a24 a25 a26 a27 a28 a29 a30 a31 a32 a33 a34 a35 a36 a37 ik r3.2.1 r3.2.2.1 nki r3.2.2.2.1 nva nwr r3.2.2.2.2.1 r3.2.2.2.2.2.1 r3.2.2.2.2.2.2 kow kbt kki kpl kva kwr krm krs krz tow tbt tki tpl tva twr trm trs trz seed smn snu rmn rnu r5.2)) X d_Vol_settle_29 lk_Vol_55 mv_Vol_refuse (c_Vol_refuse l D cI cB a0 a1 a2 a3 a4 a5 a6 a7 a8 a9 a10 a11 a12 a13 a14 a15 a16 a17 a18 a19 a20 a21 a22 a23 a24 a25 a26 a27 a28 a29 a30 a31 a32 a33 a34 a35 a36 a37 ik r3.2.1 r3.2.2.1 nki r3.2.2.2.1 nva nwr r3.2.2.2.2.1 r3.2.2.2.2.2.1 r3.2.2.2.2.2.2 kow kbt kki kpl kva kwr krm krs krz tow tbt tki tpl tva twr trm trs trz seed smn snu rmn rnu rf (-3) h6) ⟨(Nat.le_of_ble_eq_true rfl), (Nat.le_of_ble_eq_true rfl), (Nat.le_of_ble_eq_true rfl), (Nat.le_of_ble_eq_true rfl)⟩ 0 rfl rfl [0, 1, 2, 3, 4, 5, 6, 7, 8, 9, 10, 11, 12, 13, 14, 15, 16, 17, 18, 19, 20, 21, 22, 23, 24, 25, 26, 27, 28, 29, 30, 31, 32, 33, 34, 35, 36, 37] rfl rfl rfl (Up.of [] [] rfl rfl rfl 38 rfl (by decide +kernel)) rfl rfl (Nat.le_of_ble_eq_true rfl) ?_
      refine x_goto (pc := 32) (tgt := 36) X d_Vol_settle_32 rfl ?_
      cases h
      exact x_iret (pc := 36) X hR d_Vol_settle_36
  · skip
    refine x_aload_n (pc := 7) X d_Vol_settle_7 0 rfl rfl ?_
    refine x_iconst (pc := 8) X d_Vol_settle_8  ?_
    obtain ⟨r7, h8, h⟩ := bnd_e h
    refine x_callV (pc := 9) (As := [.int (zi (-1))]) (rest := []) (w2 := (w_Vol cI cB a0 a1 a2 a3 a4 a5 a6 a7 a8 a9 a10 a11 a12 a13 a14 a15 a16 a17 a18 a19 a20 a21 a22 a23 a24 a25 a26 a27 a28 a29 a30 a31 a32 a33 a34 a35 a36 a37 ik now nbt nki npl nva nwr nrm nrs nrz kow kbt kki kpl kva kwr krm krs krz tow tbt tki tpl tva twr trm trs trz seed smn snu rmn rnu r7.2)) X d_Vol_settle_9 lk_Vol_55 mv_Vol_refuse (c_Vol_refuse l D cI cB a0 a1 a2 a3 a4 a5 a6 a7 a8 a9 a10 a11 a12 a13 a14 a15 a16 a17 a18 a19 a20 a21 a22 a23 a24 a25 a26 a27 a28 a29 a30 a31 a32 a33 a34 a35 a36 a37 ik now nbt nki npl nva nwr nrm nrs nrz kow kbt kki kpl kva kwr krm krs krz tow tbt tki tpl tva twr trm trs trz seed smn snu rmn rnu rf (-1) h8) ⟨(Nat.le_of_ble_eq_true rfl), (Nat.le_of_ble_eq_true rfl), (Nat.le_of_ble_eq_true rfl), (Nat.le_of_ble_eq_true rfl)⟩ 0 rfl rfl [0, 1, 2, 3, 4, 5, 6, 7, 8, 9, 10, 11, 12, 13, 14, 15, 16, 17, 18, 19, 20, 21, 22, 23, 24, 25, 26, 27, 28, 29, 30, 31, 32, 33, 34, 35, 36, 37] rfl rfl rfl (Up.of [] [] rfl rfl rfl 38 rfl (by decide +kernel)) rfl rfl (Nat.le_of_ble_eq_true rfl) ?_
    cases h
    exact x_iret (pc := 12) X hR d_Vol_settle_12
theorem d_Vol_crash_0 : decode b_Vol_crash 0 = .ok (.iload_n 1, 1) := by decide +kernel
theorem d_Vol_crash_1 : decode b_Vol_crash 1 = .ok (.invokestatic 84, 3) := by decide +kernel
theorem d_Vol_crash_4 : decode b_Vol_crash 4 = .ok (.ifCond .ne 9, 3) := by decide +kernel
theorem d_Vol_crash_7 : decode b_Vol_crash 7 = .ok (.aload_n 0, 1) := by decide +kernel
theorem d_Vol_crash_8 : decode b_Vol_crash 8 = .ok (.iconst (-1), 1) := by decide +kernel
theorem d_Vol_crash_9 : decode b_Vol_crash 9 = .ok (.invokevirtual 55, 3) := by decide +kernel
theorem d_Vol_crash_12 : decode b_Vol_crash 12 = .ok (.ireturn, 1) := by decide +kernel
theorem d_Vol_crash_13 : decode b_Vol_crash 13 = .ok (.iload_n 2, 1) := by decide +kernel
theorem d_Vol_crash_14 : decode b_Vol_crash 14 = .ok (.ifCond .ge 10, 3) := by decide +kernel
theorem d_Vol_crash_17 : decode b_Vol_crash 17 = .ok (.aload_n 0, 1) := by decide +kernel
theorem d_Vol_crash_18 : decode b_Vol_crash 18 = .ok (.bipush (-4), 2) := by decide +kernel
theorem d_Vol_crash_20 : decode b_Vol_crash 20 = .ok (.invokevirtual 55, 3) := by decide +kernel
theorem d_Vol_crash_23 : decode b_Vol_crash 23 = .ok (.ireturn, 1) := by decide +kernel
theorem d_Vol_crash_24 : decode b_Vol_crash 24 = .ok (.iload_n 2, 1) := by decide +kernel
theorem d_Vol_crash_25 : decode b_Vol_crash 25 = .ok (.bipush 99, 2) := by decide +kernel
theorem d_Vol_crash_27 : decode b_Vol_crash 27 = .ok (.if_icmp .le 10, 3) := by decide +kernel
theorem d_Vol_crash_30 : decode b_Vol_crash 30 = .ok (.aload_n 0, 1) := by decide +kernel
theorem d_Vol_crash_31 : decode b_Vol_crash 31 = .ok (.bipush (-6), 2) := by decide +kernel
theorem d_Vol_crash_33 : decode b_Vol_crash 33 = .ok (.invokevirtual 55, 3) := by decide +kernel
theorem d_Vol_crash_36 : decode b_Vol_crash 36 = .ok (.ireturn, 1) := by decide +kernel
theorem d_Vol_crash_37 : decode b_Vol_crash 37 = .ok (.aload_n 0, 1) := by decide +kernel
theorem d_Vol_crash_38 : decode b_Vol_crash 38 = .ok (.getfield 10, 3) := by decide +kernel
theorem d_Vol_crash_41 : decode b_Vol_crash 41 = .ok (.iload_n 1, 1) := by decide +kernel
theorem d_Vol_crash_42 : decode b_Vol_crash 42 = .ok (.iload_n 2, 1) := by decide +kernel
theorem d_Vol_crash_43 : decode b_Vol_crash 43 = .ok (.invokevirtual 140, 3) := by decide +kernel
theorem d_Vol_crash_46 : decode b_Vol_crash 46 = .ok (.pop, 1) := by decide +kernel
theorem d_Vol_crash_47 : decode b_Vol_crash 47 = .ok (.aload_n 0, 1) := by decide +kernel
theorem d_Vol_crash_48 : decode b_Vol_crash 48 = .ok (.getfield 10, 3) := by decide +kernel
theorem d_Vol_crash_51 : decode b_Vol_crash 51 = .ok (.invokevirtual 146, 3) := by decide +kernel
theorem d_Vol_crash_54 : decode b_Vol_crash 54 = .ok (.ireturn, 1) := by decide +kernel
def m_Vol_crash (x1 : Int) (x2 : Int) (now : Int → Int) (nbt : Int → Int) (nki : Int → Int) (npl : Int → Int) (nva : Int → Int) (nwr : Int → Int) (nrm : Int) (nrs : Int → Int) (nrz : Int → Int) (rf : Int → Int) : Option (Int × (Int → Int) × (Int → Int) × (Int → Int) × (Int → Int) × (Int → Int) × Int × (Int → Int) × (Int → Int) × (Int → Int)) :=
  bnd (m_Vol_isFile x1) (fun r1 => ceq r1 0 (bnd (m_Vol_refuse (-1) rf) (fun r11 => some (r11.1, now, nbt, npl, nva, nwr, nrm, nrs, nrz, r11.2))) (clt x2 0 (bnd (m_Vol_refuse (-4) rf) (fun r9 => some (r9.1, now, nbt, npl, nva, nwr, nrm, nrs, nrz, r9.2))) (cle x2 99 (bnd (m_Disk_flushUpTo x1 x2 now nbt nki npl nva nwr nrm nrs nrz) (fun r3 => bnd (m_Disk_dropWaiting r3.2.2.2.2.1) (fun r5 => some (r5.1, r3.2.1, r3.2.2.1, r3.2.2.2.1, r5.2, r3.2.2.2.2.2.1, r3.2.2.2.2.2.2.1, r3.2.2.2.2.2.2.2.1, r3.2.2.2.2.2.2.2.2, rf)))) (bnd (m_Vol_refuse (-6) rf) (fun r7 => some (r7.1, now, nbt, npl, nva, nwr, nrm, nrs, nrz, r7.2))))))
set_option maxHeartbeats 4000000 in
set_option maxRecDepth 100000 in
theorem c_Vol_crash (l : Launch) (D : va_G) (cI cB : ClassId) (a0 a1 a2 a3 a4 a5 a6 a7 a8 a9 a10 a11 a12 a13 a14 a15 a16 a17 a18 a19 a20 a21 a22 a23 a24 a25 a26 a27 a28 a29 a30 a31 a32 a33 a34 a35 a36 a37 : Nat) (ik : Int) (now : Int → Int) (nbt : Int → Int) (nki : Int → Int) (npl : Int → Int) (nva : Int → Int) (nwr : Int → Int) (nrm : Int) (nrs : Int → Int) (nrz : Int → Int) (kow : Int → Int) (kbt : Int → Int) (kki : Int → Int) (kpl : Int → Int) (kva : Int → Int) (kwr : Int → Int) (krm : Int) (krs : Int → Int) (krz : Int → Int) (tow : Int → Int) (tbt : Int → Int) (tki : Int → Int) (tpl : Int → Int) (tva : Int → Int) (twr : Int → Int) (trm : Int) (trs : Int → Int) (trz : Int → Int) (seed : Int) (smn : Int) (snu : Int → Int) (rmn : Int) (rnu : Int → Int) (rf : Int → Int) (x1 : Int) (x2 : Int) {o : Int × (Int → Int) × (Int → Int) × (Int → Int) × (Int → Int) × (Int → Int) × Int × (Int → Int) × (Int → Int) × (Int → Int)} (h : m_Vol_crash x1 x2 now nbt nki npl nva nwr nrm nrs nrz rf = some o) : Ct l D cI cB y_Vol_crash b_Vol_crash 3 (some .int) { frames := 4, cells := 0, slots := 0, locals := 103 } [.ref a0, .int (zi x1), .int (zi x2)] (w_Vol cI cB a0 a1 a2 a3 a4 a5 a6 a7 a8 a9 a10 a11 a12 a13 a14 a15 a16 a17 a18 a19 a20 a21 a22 a23 a24 a25 a26 a27 a28 a29 a30 a31 a32 a33 a34 a35 a36 a37 ik now nbt nki npl nva nwr nrm nrs nrz kow kbt kki kpl kva kwr krm krs krz tow tbt tki tpl tva twr trm trs trz seed smn snu rmn rnu rf) (w_Vol cI cB a0 a1 a2 a3 a4 a5 a6 a7 a8 a9 a10 a11 a12 a13 a14 a15 a16 a17 a18 a19 a20 a21 a22 a23 a24 a25 a26 a27 a28 a29 a30 a31 a32 a33 a34 a35 a36 a37 ik o.2.1 o.2.2.1 nki o.2.2.2.1 o.2.2.2.2.1 o.2.2.2.2.2.1 o.2.2.2.2.2.2.1 o.2.2.2.2.2.2.2.1 o.2.2.2.2.2.2.2.2.1 kow kbt kki kpl kva kwr krm krs krz tow tbt tki tpl tva twr trm trs trz seed smn snu rmn rnu o.2.2.2.2.2.2.2.2.2) (some (.int (zi o.1))) := by
  refine Ct.start (by decide) (Nat.le_of_ble_eq_true rfl) (fun G X hR => ?_)
  refine x_ls (ls2 := [(0, .ref a0), (1, .int (zi x1)), (2, .int (zi x2))]) [0, 1, 2] rfl ?_
  unfold m_Vol_crash at h
  refine x_iload_n (pc := 0) X d_Vol_crash_0 1 rfl rfl ?_
  obtain ⟨r1, h2, h⟩ := bnd_e h
  refine x_callS (pc := 1) (As := [.int (zi x1)]) (rest := []) (w2 := (w_Vol cI cB a0 a1 a2 a3 a4 a5 a6 a7 a8 a9 a10 a11 a12 a13 a14 a15 a16 a17 a18 a19 a20 a21 a22 a23 a24 a25 a26 a27 a28 a29 a30 a31 a32 a33 a34 a35 a36 a37 ik now nbt nki npl nva nwr nrm nrs nrz kow kbt kki kpl kva kwr krm krs krz tow tbt tki tpl tva twr trm trs trz seed smn snu rmn rnu rf)) X d_Vol_crash_1 lk_Vol_84 mv_Vol_isFile (c_Vol_isFile l D cI cB x1 h2) ⟨(Nat.le_of_ble_eq_true rfl), (Nat.le_of_ble_eq_true rfl), (Nat.le_of_ble_eq_true rfl), (Nat.le_of_ble_eq_true rfl)⟩ [] rfl rfl rfl (Up.same rfl) rfl rfl (Nat.le_of_ble_eq_true rfl) ?_
  refine x_ifne (pc := 4) (tgt := 13) X d_Vol_crash_4 rfl h (fun h => ?_) (fun h => ?_)
  · skip
    refine x_iload_n (pc := 13) X d_Vol_crash_13 2 rfl rfl ?_
    refine x_ifge (pc := 14) (tgt := 24) X d_Vol_crash_14 rfl h (fun h => ?_) (fun h => ?_)
    · skip
      refine x_iload_n (pc := 24) X d_Vol_crash_24 2 rfl rfl ?_
      refine x_bipush (pc := 25) (v := 99) X d_Vol_crash_25 rfl ?_
      refine x_icmple (pc := 27) (tgt := 37) X d_Vol_crash_27 rfl h (fun h => ?_) (fun h => ?_)
      · skip
        refine x_aload_n (pc := 37) X d_Vol_crash_37 0 rfl rfl ?_
        refine x_get (pc := 38) X d_Vol_crash_38 0 rfl fl_Vol_10 rfl ?_
        refine x_iload_n (pc := 41) X d_Vol_crash_41 1 rfl rfl ?_
        refine x_iload_n (pc := 42) X d_Vol_crash_42 2 rfl rfl ?_
        obtain ⟨r3, h4, h⟩ := bnd_e h
        refine x_callV (pc := 43) (As := [.int (zi x1), .int (zi x2)]) (rest := []) (w2 := (w_Vol cI cB a0 a1 a2 a3 a4 a5 a6 a7 a8 a9 a10 a11 a12 a13 a14 a15 a16 a17 a18 a19 a20 a21 a22 a23 a24 a25 a26 a27 a28 a29 a30 a31 a32 a33 a34 a35 a36 a37 ik r3.2.1 r3.2.2.1 nki r3.2.2.2.1 r3.2.2.2.2.1 r3.2.2.2.2.2.1 r3.2.2.2.2.2.2.1 r3.2.2.2.2.2.2.2.1 r3.2.2.2.2.2.2.2.2 kow kbt kki kpl kva kwr krm krs krz tow tbt tki tpl tva twr trm trs trz seed smn snu rmn rnu rf)) X d_Vol_crash_43 lk_Vol_140 mv_Disk_flushUpTo (c_Disk_flushUpTo l D cI cB a1 a2 a3 a4 a5 a6 a7 a8 a9 a10 now nbt nki npl nva nwr nrm nrs nrz x1 x2 h4) ⟨(Nat.le_of_ble_eq_true rfl), (Nat.le_of_ble_eq_true rfl), (Nat.le_of_ble_eq_true rfl), (Nat.le_of_ble_eq_true rfl)⟩ 1 rfl rfl [1, 2, 3, 4, 5, 6, 7, 8, 9, 10] rfl rfl rfl (Up.of [0, 11, 12, 13, 14, 15, 16, 17, 18, 19, 20, 21, 22, 23, 24, 25, 26, 27, 28, 29, 30, 31, 32, 33, 34, 35, 36, 37] [(a0, .inr (5, [.ref a1, .ref a11, .ref a21, .ref a31, .ref a32, .ref a35, .ref a37, .int (zi ik)])), (a11, .inr (0, [.ref a12, .ref a13, .ref a14, .ref a15, .ref a16, .ref a17, .ref a18])), (a12, zA cI 64 kow), (a13, zA cI 64 kbt), (a14, zA cI 4 kki), (a15, zA cI 96 kpl), (a16, zA cI 96 kva), (a17, zA cB 96 kwr), (a18, .inr (3, [.ref a19, .ref a20, .int (zi krm)])), (a19, zA cI 32 krs), (a20, zA cI 32 krz), (a21, .inr (0, [.ref a22, .ref a23, .ref a24, .ref a25, .ref a26, .ref a27, .ref a28])), (a22, zA cI 64 tow), (a23, zA cI 64 tbt), (a24, zA cI 4 tki), (a25, zA cI 96 tpl), (a26, zA cI 96 tva), (a27, zA cB 96 twr), (a28, .inr (3, [.ref a29, .ref a30, .int (zi trm)])), (a29, zA cI 32 trs), (a30, zA cI 32 trz), (a31, .inr (1, [.ref a1, .ref a21, .int (zi seed)])), (a32, .inr (4, [.ref a33])), (a33, .inr (2, [.ref a34, .int (zi smn)])), (a34, zA cI 96 snu), (a35, .inr (2, [.ref a36, .int (zi rmn)])), (a36, zA cI 32 rnu), (a37, zA cI 7 rf)] rfl rfl rfl 38 rfl (by decide +kernel)) rfl rfl (Nat.le_of_ble_eq_true rfl) ?_
        refine x_pop (pc := 46) X d_Vol_crash_46 rfl ?_
        refine x_aload_n (pc := 47) X d_Vol_crash_47 0 rfl rfl ?_
        refine x_get (pc := 48) X d_Vol_crash_48 0 rfl fl_Vol_10 rfl ?_
        obtain ⟨r5, h6, h⟩ := bnd_e h
        refine x_callV (pc := 51) (As := []) (rest := []) (w2 := (w_Vol cI cB a0 a1 a2 a3 a4 a5 a6 a7 a8 a9 a10 a11 a12 a13 a14 a15 a16 a17 a18 a19 a20 a21 a22 a23 a24 a25 a26 a27 a28 a29 a30 a31 a32 a33 a34 a35 a36 a37 ik r3.2.1 r3.2.2.1 nki r3.2.2.2.1 r5.2 r3.2.2.2.2.2.1 r3.2.2.2.2.2.2.1 r3.2.2.2.2.2.2.2.1 r3.2.2.2.2.2.2.2.2 kow kbt kki kpl kva kwr krm krs krz tow tbt tki tpl tva twr trm trs trz seed smn snu rmn rnu rf)) X d_Vol_crash_51 lk_Vol_146 mv_Disk_dropWaiting (c_Disk_dropWaiting l D cI cB a1 a2 a3 a4 a5 a6 a7 a8 a9 a10 r3.2.1 r3.2.2.1 nki r3.2.2.2.1 r3.2.2.2.2.1 r3.2.2.2.2.2.1 r3.2.2.2.2.2.2.1 r3.2.2.2.2.2.2.2.1 r3.2.2.2.2.2.2.2.2 h6) ⟨(Nat.le_of_ble_eq_true rfl), (Nat.le_of_ble_eq_true rfl), (Nat.le_of_ble_eq_true rfl), (Nat.le_of_ble_eq_true rfl)⟩ 1 rfl rfl [1, 2, 3, 4, 5, 6, 7, 8, 9, 10] rfl rfl rfl (Up.of [0, 11, 12, 13, 14, 15, 16, 17, 18, 19, 20, 21, 22, 23, 24, 25, 26, 27, 28, 29, 30, 31, 32, 33, 34, 35, 36, 37] [(a0, .inr (5, [.ref a1, .ref a11, .ref a21, .ref a31, .ref a32, .ref a35, .ref a37, .int (zi ik)])), (a11, .inr (0, [.ref a12, .ref a13, .ref a14, .ref a15, .ref a16, .ref a17, .ref a18])), (a12, zA cI 64 kow), (a13, zA cI 64 kbt), (a14, zA cI 4 kki), (a15, zA cI 96 kpl), (a16, zA cI 96 kva), (a17, zA cB 96 kwr), (a18, .inr (3, [.ref a19, .ref a20, .int (zi krm)])), (a19, zA cI 32 krs), (a20, zA cI 32 krz), (a21, .inr (0, [.ref a22, .ref a23, .ref a24, .ref a25, .ref a26, .ref a27, .ref a28])), (a22, zA cI 64 tow), (a23, zA cI 64 tbt), (a24, zA cI 4 tki), (a25, zA cI 96 tpl), (a26, zA cI 96 tva), (a27, zA cB 96 twr), (a28, .inr (3, [.ref a29, .ref a30, .int (zi trm)])), (a29, zA cI 32 trs), (a30, zA cI 32 trz), (a31, .inr (1, [.ref a1, .ref a21, .int (zi seed)])), (a32, .inr (4, [.ref a33])), (a33, .inr (2, [.ref a34, .int (zi smn)])), (a34, zA cI 96 snu), (a35, .inr (2, [.ref a36, .int (zi rmn)])), (a36, zA cI 32 rnu), (a37, zA cI 7 rf)] rfl rfl rfl 38 rfl (by decide +kernel)) rfl rfl (Nat.le_of_ble_eq_true rfl) ?_
        cases h
        exact x_iret (pc := 54) X hR d_Vol_crash_54
      · skip
        refine x_aload_n (pc := 30) X d_Vol_crash_30 0 rfl rfl ?_
        refine x_bipush (pc := 31) (v := -6) X d_Vol_crash_31 rfl ?_
        obtain ⟨r7, h8, h⟩ := bnd_e h
        refine x_callV (pc := 33) (As := [.int (zi (-6))]) (rest := []) (w2 := (w_Vol cI cB a0 a1 a2 a3 a4 a5 a6 a7 a8 a9 a10 a11 a12 a13 a14 a15 a16 a17 a18 a19 a20 a21 a22 a23 a24 a25 a26 a27 a28 a29 a30 a31 a32 a33 a34 a35 a36 a37 ik now nbt nki npl nva nwr nrm nrs nrz kow kbt kki kpl kva kwr krm krs krz tow tbt tki tpl tva twr trm trs trz seed smn snu rmn rnu r7.2)) X d_Vol_crash_33 lk_Vol_55 mv_Vol_refuse (c_Vol_refuse l D cI cB a0 a1 a2 a3 a4 a5 a6 a7 a8 a9 a10 a11 a12 a13 a14 a15 a16 a17 a18 a19 a20 a21 a22 a23 a24 a25 a26 a27 a28 a29 a30 a31 a32 a33 a34 a35 a36 a37 ik now nbt nki npl nva nwr nrm nrs nrz kow kbt kki kpl kva kwr krm krs krz tow tbt tki tpl tva twr trm trs trz seed smn snu rmn rnu rf (-6) h8) ⟨(Nat.le_of_ble_eq_true rfl), (Nat.le_of_ble_eq_true rfl), (Nat.le_of_ble_eq_true rfl), (Nat.le_of_ble_eq_true rfl)⟩ 0 rfl rfl [0, 1, 2, 3, 4, 5, 6, 7, 8, 9, 10, 11, 12, 13, 14, 15, 16, 17, 18, 19, 20, 21, 22, 23, 24, 25, 26, 27, 28, 29, 30, 31, 32, 33, 34, 35, 36, 37] rfl rfl rfl (Up.of [] [] rfl rfl rfl 38 rfl (by decide +kernel)) rfl rfl (Nat.le_of_ble_eq_true rfl) ?_
        cases h
        exact x_iret (pc := 36) X hR d_Vol_crash_36
    · skip
      refine x_aload_n (pc := 17) X d_Vol_crash_17 0 rfl rfl ?_
      refine x_bipush (pc := 18) (v := -4) X d_Vol_crash_18 rfl ?_
      obtain ⟨r9, h10, h⟩ := bnd_e h
      refine x_callV (pc := 20) (As := [.int (zi (-4))]) (rest := []) (w2 := (w_Vol cI cB a0 a1 a2 a3 a4 a5 a6 a7 a8 a9 a10 a11 a12 a13 a14 a15 a16 a17 a18 a19 a20 a21 a22 a23 a24 a25 a26 a27 a28 a29 a30 a31 a32 a33 a34 a35 a36 a37 ik now nbt nki npl nva nwr nrm nrs nrz kow kbt kki kpl kva kwr krm krs krz tow tbt tki tpl tva twr trm trs trz seed smn snu rmn rnu r9.2)) X d_Vol_crash_20 lk_Vol_55 mv_Vol_refuse (c_Vol_refuse l D cI cB a0 a1 a2 a3 a4 a5 a6 a7 a8 a9 a10 a11 a12 a13 a14 a15 a16 a17 a18 a19 a20 a21 a22 a23 a24 a25 a26 a27 a28 a29 a30 a31 a32 a33 a34 a35 a36 a37 ik now nbt nki npl nva nwr nrm nrs nrz kow kbt kki kpl kva kwr krm krs krz tow tbt tki tpl tva twr trm trs trz seed smn snu rmn rnu rf (-4) h10) ⟨(Nat.le_of_ble_eq_true rfl), (Nat.le_of_ble_eq_true rfl), (Nat.le_of_ble_eq_true rfl), (Nat.le_of_ble_eq_true rfl)⟩ 0 rfl rfl [0, 1, 2, 3, 4, 5, 6, 7, 8, 9, 10, 11, 12, 13, 14, 15, 16, 17, 18, 19, 20, 21, 22, 23, 24, 25, 26, 27, 28, 29, 30, 31, 32, 33, 34, 35, 36, 37] rfl rfl rfl (Up.of [] [] rfl rfl rfl 38 rfl (by decide +kernel)) rfl rfl (Nat.le_of_ble_eq_true rfl) ?_
      cases h
      exact x_iret (pc := 23) X hR d_Vol_crash_23
  · skip
    refine x_aload_n (pc := 7) X d_Vol_crash_7 0 rfl rfl ?_
    refine x_iconst (pc := 8) X d_Vol_crash_8  ?_
    obtain ⟨r11, h12, h⟩ := bnd_e h
    refine x_callV (pc := 9) (As := [.int (zi (-1))]) (rest := []) (w2 := (w_Vol cI cB a0 a1 a2 a3 a4 a5 a6 a7 a8 a9 a10 a11 a12 a13 a14 a15 a16 a17 a18 a19 a20 a21 a22 a23 a24 a25 a26 a27 a28 a29 a30 a31 a32 a33 a34 a35 a36 a37 ik now nbt nki npl nva nwr nrm nrs nrz kow kbt kki kpl kva kwr krm krs krz tow tbt tki tpl tva twr trm trs trz seed smn snu rmn rnu r11.2)) X d_Vol_crash_9 lk_Vol_55 mv_Vol_refuse (c_Vol_refuse l D cI cB a0 a1 a2 a3 a4 a5 a6 a7 a8 a9 a10 a11 a12 a13 a14 a15 a16 a17 a18 a19 a20 a21 a22 a23 a24 a25 a26 a27 a28 a29 a30 a31 a32 a33 a34 a35 a36 a37 ik now nbt nki npl nva nwr nrm nrs nrz kow kbt kki kpl kva kwr krm krs krz tow tbt tki tpl tva twr trm trs trz seed smn snu rmn rnu rf (-1) h12) ⟨(Nat.le_of_ble_eq_true rfl), (Nat.le_of_ble_eq_true rfl), (Nat.le_of_ble_eq_true rfl), (Nat.le_of_ble_eq_true rfl)⟩ 0 rfl rfl [0, 1, 2, 3, 4, 5, 6, 7, 8, 9, 10, 11, 12, 13, 14, 15, 16, 17, 18, 19, 20, 21, 22, 23, 24, 25, 26, 27, 28, 29, 30, 31, 32, 33, 34, 35, 36, 37] rfl rfl rfl (Up.of [] [] rfl rfl rfl 38 rfl (by decide +kernel)) rfl rfl (Nat.le_of_ble_eq_true rfl) ?_
    cases h
    exact x_iret (pc := 12) X hR d_Vol_crash_12
theorem d_Vol_kind_0 : decode b_Vol_kind 0 = .ok (.iload_n 1, 1) := by decide +kernel
theorem d_Vol_kind_1 : decode b_Vol_kind 1 = .ok (.invokestatic 84, 3) := by decide +kernel
theorem d_Vol_kind_4 : decode b_Vol_kind 4 = .ok (.ifCond .ne 9, 3) := by decide +kernel
theorem d_Vol_kind_7 : decode b_Vol_kind 7 = .ok (.aload_n 0, 1) := by decide +kernel
theorem d_Vol_kind_8 : decode b_Vol_kind 8 = .ok (.iconst (-1), 1) := by decide +kernel
theorem d_Vol_kind_9 : decode b_Vol_kind 9 = .ok (.invokevirtual 55, 3) := by decide +kernel
theorem d_Vol_kind_12 : decode b_Vol_kind 12 = .ok (.ireturn, 1) := by decide +kernel
theorem d_Vol_kind_13 : decode b_Vol_kind 13 = .ok (.iload_n 2, 1) := by decide +kernel
theorem d_Vol_kind_14 : decode b_Vol_kind 14 = .ok (.ifCond .lt 9, 3) := by decide +kernel
theorem d_Vol_kind_17 : decode b_Vol_kind 17 = .ok (.iload_n 2, 1) := by decide +kernel
theorem d_Vol_kind_18 : decode b_Vol_kind 18 = .ok (.bipush 6, 2) := by decide +kernel
theorem d_Vol_kind_20 : decode b_Vol_kind 20 = .ok (.if_icmp .lt 10, 3) := by decide +kernel
theorem d_Vol_kind_23 : decode b_Vol_kind 23 = .ok (.aload_n 0, 1) := by decide +kernel
theorem d_Vol_kind_24 : decode b_Vol_kind 24 = .ok (.bipush (-2), 2) := by decide +kernel
theorem d_Vol_kind_26 : decode b_Vol_kind 26 = .ok (.invokevirtual 55, 3) := by decide +kernel
theorem d_Vol_kind_29 : decode b_Vol_kind 29 = .ok (.ireturn, 1) := by decide +kernel
theorem d_Vol_kind_30 : decode b_Vol_kind 30 = .ok (.aload_n 0, 1) := by decide +kernel
theorem d_Vol_kind_31 : decode b_Vol_kind 31 = .ok (.getfield 10, 3) := by decide +kernel
theorem d_Vol_kind_34 : decode b_Vol_kind 34 = .ok (.iload_n 1, 1) := by decide +kernel
theorem d_Vol_kind_35 : decode b_Vol_kind 35 = .ok (.invokevirtual 105, 3) := by decide +kernel
theorem d_Vol_kind_38 : decode b_Vol_kind 38 = .ok (.istore_n 3, 1) := by decide +kernel
theorem d_Vol_kind_39 : decode b_Vol_kind 39 = .ok (.aload_n 0, 1) := by decide +kernel
theorem d_Vol_kind_40 : decode b_Vol_kind 40 = .ok (.getfield 10, 3) := by decide +kernel
theorem d_Vol_kind_43 : decode b_Vol_kind 43 = .ok (.iload_n 1, 1) := by decide +kernel
theorem d_Vol_kind_44 : decode b_Vol_kind 44 = .ok (.iload_n 2, 1) := by decide +kernel
theorem d_Vol_kind_45 : decode b_Vol_kind 45 = .ok (.invokevirtual 149, 3) := by decide +kernel
theorem d_Vol_kind_48 : decode b_Vol_kind 48 = .ok (.iload_n 3, 1) := by decide +kernel
theorem d_Vol_kind_49 : decode b_Vol_kind 49 = .ok (.ireturn, 1) := by decide +kernel
def m_Vol_kind (x1 : Int) (x2 : Int) (nki : Int → Int) (rf : Int → Int) : Option (Int × (Int → Int) × (Int → Int)) :=
  bnd (m_Vol_isFile x1) (fun r1 => ceq r1 0 (bnd (m_Vol_refuse (-1) rf) (fun r14 => some (r14.1, nki, r14.2))) (jn (fun (c4 : Int → Int) (c5 : Int → Int) => bnd (m_Vol_refuse (-2) c5) (fun r6 => some (r6.1, c4, r6.2))) (fun j3 => clt x2 0 (j3 nki rf) (clt x2 6 (bnd (m_Disk_kindAt x1 nki) (fun r10 => bnd (m_Disk_turnKind x1 x2 nki) (fun r12 => some (r10, r12, rf)))) (j3 nki rf)))))
set_option maxHeartbeats 4000000 in
set_option maxRecDepth 100000 in
theorem c_Vol_kind (l : Launch) (D : va_G) (cI cB : ClassId) (a0 a1 a2 a3 a4 a5 a6 a7 a8 a9 a10 a11 a12 a13 a14 a15 a16 a17 a18 a19 a20 a21 a22 a23 a24 a25 a26 a27 a28 a29 a30 a31 a32 a33 a34 a35 a36 a37 : Nat) (ik : Int) (now : Int → Int) (nbt : Int → Int) (nki : Int → Int) (npl : Int → Int) (nva : Int → Int) (nwr : Int → Int) (nrm : Int) (nrs : Int → Int) (nrz : Int → Int) (kow : Int → Int) (kbt : Int → Int) (kki : Int → Int) (kpl : Int → Int) (kva : Int → Int) (kwr : Int → Int) (krm : Int) (krs : Int → Int) (krz : Int → Int) (tow : Int → Int) (tbt : Int → Int) (tki : Int → Int) (tpl : Int → Int) (tva : Int → Int) (twr : Int → Int) (trm : Int) (trs : Int → Int) (trz : Int → Int) (seed : Int) (smn : Int) (snu : Int → Int) (rmn : Int) (rnu : Int → Int) (rf : Int → Int) (x1 : Int) (x2 : Int) {o : Int × (Int → Int) × (Int → Int)} (h : m_Vol_kind x1 x2 nki rf = some o) : Ct l D cI cB y_Vol_kind b_Vol_kind 4 (some .int) { frames := 2, cells := 0, slots := 0, locals := 42 } [.ref a0, .int (zi x1), .int (zi x2)] (w_Vol cI cB a0 a1 a2 a3 a4 a5 a6 a7 a8 a9 a10 a11 a12 a13 a14 a15 a16 a17 a18 a19 a20 a21 a22 a23 a24 a25 a26 a27 a28 a29 a30 a31 a32 a33 a34 a35 a36 a37 ik now nbt nki npl nva nwr nrm nrs nrz kow kbt kki kpl kva kwr krm krs krz tow tbt tki tpl tva twr trm trs trz seed smn snu rmn rnu rf) (w_Vol cI cB a0 a1 a2 a3 a4 a5 a6 a7 a8 a9 a10 a11 a12 a13 a14 a15 a16 a17 a18 a19 a20 a21 a22 a23 a24 a25 a26 a27 a28 a29 a30 a31 a32 a33 a34 a35 a36 a37 ik now nbt o.2.1 npl nva nwr nrm nrs nrz kow kbt kki kpl kva kwr krm krs krz tow tbt tki tpl tva twr trm trs trz seed smn snu rmn rnu o.2.2) (some (.int (zi o.1))) := by
  refine Ct.start (by decide) (Nat.le_of_ble_eq_true rfl) (fun G X hR => ?_)
  refine x_ls (ls2 := [(0, .ref a0), (1, .int (zi x1)), (2, .int (zi x2))]) [0, 1, 2] rfl ?_
  unfold m_Vol_kind at h
  refine x_iload_n (pc := 0) X d_Vol_kind_0 1 rfl rfl ?_
  obtain ⟨r1, h2, h⟩ := bnd_e h
  refine x_callS (pc := 1) (As := [.int (zi x1)]) (rest := []) (w2 := (w_Vol cI cB a0 a1 a2 a3 a4 a5 a6 a7 a8 a9 a10 a11 a12 a13 a14 a15 a16 a17 a18 a19 a20 a21 a22 a23 a24 a25 a26 a27 a28 a29 a30 a31 a32 a33 a34 a35 a36 a37 ik now nbt nki npl nva nwr nrm nrs nrz kow kbt kki kpl kva kwr krm krs krz tow tbt tki tpl tva twr trm trs trz seed smn snu rmn rnu rf)) X d_Vol_kind_1 lk_Vol_84 mv_Vol_isFile (c_Vol_isFile l D cI cB x1 h2) ⟨(Nat.le_of_ble_eq_true rfl), (Nat.le_of_ble_eq_true rfl), (Nat.le_of_ble_eq_true rfl), (Nat.le_of_ble_eq_true rfl)⟩ [] rfl rfl rfl (Up.same rfl) rfl rfl (Nat.le_of_ble_eq_true rfl) ?_
  refine x_ifne (pc := 4) (tgt := 13) X d_Vol_kind_4 rfl h (fun h => ?_) (fun h => ?_)
  · skip
    refine x_iload_n (pc := 13) X d_Vol_kind_13 2 rfl rfl ?_
    obtain ⟨j3, hj8, h⟩ := jn_e h
    have J9 : ∀ (c4 : Int → Int) (c5 : Int → Int), j3 c4 c5 = some o → Wx G 0 0 23 [(0, .ref a0)] [] (w_Vol cI cB a0 a1 a2 a3 a4 a5 a6 a7 a8 a9 a10 a11 a12 a13 a14 a15 a16 a17 a18 a19 a20 a21 a22 a23 a24 a25 a26 a27 a28 a29 a30 a31 a32 a33 a34 a35 a36 a37 ik now nbt c4 npl nva nwr nrm nrs nrz kow kbt kki kpl kva kwr krm krs krz tow tbt tki tpl tva twr trm trs trz seed smn snu rmn rnu c5) := by
      intro c4 c5 h
      rw [hj8] at h
      (try dsimp only at h)
      refine x_aload_n (pc := 23) X d_Vol_kind_23 0 rfl rfl ?_
      refine x_bipush (pc := 24) (v := -2) X d_Vol_kind_24 rfl ?_
      obtain ⟨r6, h7, h⟩ := bnd_e h
      refine x_callV (pc := 26) (As := [.int (zi (-2))]) (rest := []) (w2 := (w_Vol cI cB a0 a1 a2 a3 a4 a5 a6 a7 a8 a9 a10 a11 a12 a13 a14 a15 a16 a17 a18 a19 a20 a21 a22 a23 a24 a25 a26 a27 a28 a29 a30 a31 a32 a33 a34 a35 a36 a37 ik now nbt c4 npl nva nwr nrm nrs nrz kow kbt kki kpl kva kwr krm krs krz tow tbt tki tpl tva twr trm trs trz seed smn snu rmn rnu r6.2)) X d_Vol_kind_26 lk_Vol_55 mv_Vol_refuse (c_Vol_refuse l D cI cB a0 a1 a2 a3 a4 a5 a6 a7 a8 a9 a10 a11 a12 a13 a14 a15 a16 a17 a18 a19 a20 a21 a22 a23 a24 a25 a26 a27 a28 a29 a30 a31 a32 a33 a34 a35 a36 a37 ik now nbt c4 npl nva nwr nrm nrs nrz kow kbt kki kpl kva kwr krm krs krz tow tbt tki tpl tva twr trm trs trz seed smn snu rmn rnu c5 (-2) h7) ⟨(Nat.le_of_ble_eq_true rfl), (Nat.le_of_ble_eq_true rfl), (Nat.le_of_ble_eq_true rfl), (Nat.le_of_ble_eq_true rfl)⟩ 0 rfl rfl [0, 1, 2, 3, 4, 5, 6, 7, 8, 9, 10, 11, 12, 13, 14, 15, 16, 17, 18, 19, 20, 21, 22, 23, 24, 25, 26, 27, 28, 29, 30, 31, 32, 33, 34, 35, 36, 37] rfl rfl rfl (Up.of [] [] rfl rfl rfl 38 rfl (by decide +kernel)) rfl rfl (Nat.le_of_ble_eq_true rfl) ?_
      cases h
      exact x_iret (pc := 29) X hR d_Vol_kind_29
    clear hj8
    refine x_iflt (pc := 14) (tgt := 23) X d_Vol_kind_14 rfl h (fun h => ?_) (fun h => ?_)
    · skip
      refine x_ls (ls2 := [(0, .ref a0)]) [0] rfl ?_
      exact J9 nki rf h
    · skip
      refine x_iload_n (pc := 17) X d_Vol_kind_17 2 rfl rfl ?_
      refine x_bipush (pc := 18) (v := 6) X d_Vol_kind_18 rfl ?_
      refine x_icmplt (pc := 20) (tgt := 30) X d_Vol_kind_20 rfl h (fun h => ?_) (fun h => ?_)
      · skip
        refine x_aload_n (pc := 30) X d_Vol_kind_30 0 rfl rfl ?_
        refine x_get (pc := 31) X d_Vol_kind_31 0 rfl fl_Vol_10 rfl ?_
        refine x_iload_n (pc := 34) X d_Vol_kind_34 1 rfl rfl ?_
        obtain ⟨r10, h11, h⟩ := bnd_e h
        refine x_callV (pc := 35) (As := [.int (zi x1)]) (rest := []) (w2 := (w_Vol cI cB a0 a1 a2 a3 a4 a5 a6 a7 a8 a9 a10 a11 a12 a13 a14 a15 a16 a17 a18 a19 a20 a21 a22 a23 a24 a25 a26 a27 a28 a29 a30 a31 a32 a33 a34 a35 a36 a37 ik now nbt nki npl nva nwr nrm nrs nrz kow kbt kki kpl kva kwr krm krs krz tow tbt tki tpl tva twr trm trs trz seed smn snu rmn rnu rf)) X d_Vol_kind_35 lk_Vol_105 mv_Disk_kindAt (c_Disk_kindAt l D cI cB a1 a2 a3 a4 a5 a6 a7 a8 a9 a10 now nbt nki npl nva nwr nrm nrs nrz x1 h11) ⟨(Nat.le_of_ble_eq_true rfl), (Nat.le_of_ble_eq_true rfl), (Nat.le_of_ble_eq_true rfl), (Nat.le_of_ble_eq_true rfl)⟩ 1 rfl rfl [1, 2, 3, 4, 5, 6, 7, 8, 9, 10] rfl rfl rfl (Up.same rfl) rfl rfl (Nat.le_of_ble_eq_true rfl) ?_
        refine x_istore_n (pc := 38) (ls2 := [(3, .int (zi r10)), (0, .ref a0), (1, .int (zi x1)), (2, .int (zi x2))]) X d_Vol_kind_38 rfl (Nat.le_of_ble_eq_true rfl) rfl ?_
        refine x_aload_n (pc := 39) X d_Vol_kind_39 1 rfl rfl ?_
        refine x_get (pc := 40) X d_Vol_kind_40 0 rfl fl_Vol_10 rfl ?_
        refine x_iload_n (pc := 43) X d_Vol_kind_43 2 rfl rfl ?_
        refine x_iload_n (pc := 44) X d_Vol_kind_44 3 rfl rfl ?_
        obtain ⟨r12, h13, h⟩ := bnd_e h
        refine x_callV (pc := 45) (As := [.int (zi x1), .int (zi x2)]) (rest := []) (w2 := (w_Vol cI cB a0 a1 a2 a3 a4 a5 a6 a7 a8 a9 a10 a11 a12 a13 a14 a15 a16 a17 a18 a19 a20 a21 a22 a23 a24 a25 a26 a27 a28 a29 a30 a31 a32 a33 a34 a35 a36 a37 ik now nbt r12 npl nva nwr nrm nrs nrz kow kbt kki kpl kva kwr krm krs krz tow tbt tki tpl tva twr trm trs trz seed smn snu rmn rnu rf)) X d_Vol_kind_45 lk_Vol_149 mv_Disk_turnKind (c_Disk_turnKind l D cI cB a1 a2 a3 a4 a5 a6 a7 a8 a9 a10 now nbt nki npl nva nwr nrm nrs nrz x1 x2 h13) ⟨(Nat.le_of_ble_eq_true rfl), (Nat.le_of_ble_eq_true rfl), (Nat.le_of_ble_eq_true rfl), (Nat.le_of_ble_eq_true rfl)⟩ 1 rfl rfl [1, 2, 3, 4, 5, 6, 7, 8, 9, 10] rfl rfl rfl (Up.of [0, 11, 12, 13, 14, 15, 16, 17, 18, 19, 20, 21, 22, 23, 24, 25, 26, 27, 28, 29, 30, 31, 32, 33, 34, 35, 36, 37] [(a0, .inr (5, [.ref a1, .ref a11, .ref a21, .ref a31, .ref a32, .ref a35, .ref a37, .int (zi ik)])), (a11, .inr (0, [.ref a12, .ref a13, .ref a14, .ref a15, .ref a16, .ref a17, .ref a18])), (a12, zA cI 64 kow), (a13, zA cI 64 kbt), (a14, zA cI 4 kki), (a15, zA cI 96 kpl), (a16, zA cI 96 kva), (a17, zA cB 96 kwr), (a18, .inr (3, [.ref a19, .ref a20, .int (zi krm)])), (a19, zA cI 32 krs), (a20, zA cI 32 krz), (a21, .inr (0, [.ref a22, .ref a23, .ref a24, .ref a25, .ref a26, .ref a27, .ref a28])), (a22, zA cI 64 tow), (a23, zA cI 64 tbt), (a24, zA cI 4 tki), (a25, zA cI 96 tpl), (a26, zA cI 96 tva), (a27, zA cB 96 twr), (a28, .inr (3, [.ref a29, .ref a30, .int (zi trm)])), (a29, zA cI 32 trs), (a30, zA cI 32 trz), (a31, .inr (1, [.ref a1, .ref a21, .int (zi seed)])), (a32, .inr (4, [.ref a33])), (a33, .inr (2, [.ref a34, .int (zi smn)])), (a34, zA cI 96 snu), (a35, .inr (2, [.ref a36, .int (zi rmn)])), (a36, zA cI 32 rnu), (a37, zA cI 7 rf)] rfl rfl rfl 38 rfl (by decide +kernel)) rfl rfl (Nat.le_of_ble_eq_true rfl) ?_
        refine x_iload_n (pc := 48) X d_Vol_kind_48 0 rfl rfl ?_
        cases h
        exact x_iret (pc := 49) X hR d_Vol_kind_49
      · skip
        refine x_ls (ls2 := [(0, .ref a0)]) [0] rfl ?_
        exact J9 nki rf h
  · skip
    refine x_aload_n (pc := 7) X d_Vol_kind_7 0 rfl rfl ?_
    refine x_iconst (pc := 8) X d_Vol_kind_8  ?_
    obtain ⟨r14, h15, h⟩ := bnd_e h
    refine x_callV (pc := 9) (As := [.int (zi (-1))]) (rest := []) (w2 := (w_Vol cI cB a0 a1 a2 a3 a4 a5 a6 a7 a8 a9 a10 a11 a12 a13 a14 a15 a16 a17 a18 a19 a20 a21 a22 a23 a24 a25 a26 a27 a28 a29 a30 a31 a32 a33 a34 a35 a36 a37 ik now nbt nki npl nva nwr nrm nrs nrz kow kbt kki kpl kva kwr krm krs krz tow tbt tki tpl tva twr trm trs trz seed smn snu rmn rnu r14.2)) X d_Vol_kind_9 lk_Vol_55 mv_Vol_refuse (c_Vol_refuse l D cI cB a0 a1 a2 a3 a4 a5 a6 a7 a8 a9 a10 a11 a12 a13 a14 a15 a16 a17 a18 a19 a20 a21 a22 a23 a24 a25 a26 a27 a28 a29 a30 a31 a32 a33 a34 a35 a36 a37 ik now nbt nki npl nva nwr nrm nrs nrz kow kbt kki kpl kva kwr krm krs krz tow tbt tki tpl tva twr trm trs trz seed smn snu rmn rnu rf (-1) h15) ⟨(Nat.le_of_ble_eq_true rfl), (Nat.le_of_ble_eq_true rfl), (Nat.le_of_ble_eq_true rfl), (Nat.le_of_ble_eq_true rfl)⟩ 0 rfl rfl [0, 1, 2, 3, 4, 5, 6, 7, 8, 9, 10, 11, 12, 13, 14, 15, 16, 17, 18, 19, 20, 21, 22, 23, 24, 25, 26, 27, 28, 29, 30, 31, 32, 33, 34, 35, 36, 37] rfl rfl rfl (Up.of [] [] rfl rfl rfl 38 rfl (by decide +kernel)) rfl rfl (Nat.le_of_ble_eq_true rfl) ?_
    cases h
    exact x_iret (pc := 12) X hR d_Vol_kind_12
theorem d_Vol_byPlace_0 : decode b_Vol_byPlace 0 = .ok (.iload_n 2, 1) := by decide +kernel
theorem d_Vol_byPlace_1 : decode b_Vol_byPlace 1 = .ok (.invokestatic 153, 3) := by decide +kernel
theorem d_Vol_byPlace_4 : decode b_Vol_byPlace 4 = .ok (.ifCond .ne 10, 3) := by decide +kernel
theorem d_Vol_byPlace_7 : decode b_Vol_byPlace 7 = .ok (.aload_n 0, 1) := by decide +kernel
theorem d_Vol_byPlace_8 : decode b_Vol_byPlace 8 = .ok (.bipush (-2), 2) := by decide +kernel
theorem d_Vol_byPlace_10 : decode b_Vol_byPlace 10 = .ok (.invokevirtual 55, 3) := by decide +kernel
theorem d_Vol_byPlace_13 : decode b_Vol_byPlace 13 = .ok (.ireturn, 1) := by decide +kernel
theorem d_Vol_byPlace_14 : decode b_Vol_byPlace 14 = .ok (.aload_n 0, 1) := by decide +kernel
theorem d_Vol_byPlace_15 : decode b_Vol_byPlace 15 = .ok (.getfield 10, 3) := by decide +kernel
theorem d_Vol_byPlace_18 : decode b_Vol_byPlace 18 = .ok (.invokevirtual 156, 3) := by decide +kernel
theorem d_Vol_byPlace_21 : decode b_Vol_byPlace 21 = .ok (.astore_n 3, 1) := by decide +kernel
theorem d_Vol_byPlace_22 : decode b_Vol_byPlace 22 = .ok (.iload_n 1, 1) := by decide +kernel
theorem d_Vol_byPlace_23 : decode b_Vol_byPlace 23 = .ok (.ifCond .lt 11, 3) := by decide +kernel
theorem d_Vol_byPlace_26 : decode b_Vol_byPlace 26 = .ok (.iload_n 1, 1) := by decide +kernel
theorem d_Vol_byPlace_27 : decode b_Vol_byPlace 27 = .ok (.aload_n 3, 1) := by decide +kernel
theorem d_Vol_byPlace_28 : decode b_Vol_byPlace 28 = .ok (.getfield 160, 3) := by decide +kernel
theorem d_Vol_byPlace_31 : decode b_Vol_byPlace 31 = .ok (.if_icmp .lt 9, 3) := by decide +kernel
theorem d_Vol_byPlace_34 : decode b_Vol_byPlace 34 = .ok (.aload_n 0, 1) := by decide +kernel
theorem d_Vol_byPlace_35 : decode b_Vol_byPlace 35 = .ok (.iconst (-1), 1) := by decide +kernel
theorem d_Vol_byPlace_36 : decode b_Vol_byPlace 36 = .ok (.invokevirtual 55, 3) := by decide +kernel
theorem d_Vol_byPlace_39 : decode b_Vol_byPlace 39 = .ok (.ireturn, 1) := by decide +kernel
theorem d_Vol_byPlace_40 : decode b_Vol_byPlace 40 = .ok (.iload_n 2, 1) := by decide +kernel
theorem d_Vol_byPlace_41 : decode b_Vol_byPlace 41 = .ok (.ifCond .ne 7, 3) := by decide +kernel
theorem d_Vol_byPlace_44 : decode b_Vol_byPlace 44 = .ok (.iload_n 1, 1) := by decide +kernel
theorem d_Vol_byPlace_45 : decode b_Vol_byPlace 45 = .ok (.goto 8, 3) := by decide +kernel
theorem d_Vol_byPlace_48 : decode b_Vol_byPlace 48 = .ok (.aload_n 3, 1) := by decide +kernel
theorem d_Vol_byPlace_49 : decode b_Vol_byPlace 49 = .ok (.iload_n 1, 1) := by decide +kernel
theorem d_Vol_byPlace_50 : decode b_Vol_byPlace 50 = .ok (.invokevirtual 166, 3) := by decide +kernel
theorem d_Vol_byPlace_53 : decode b_Vol_byPlace 53 = .ok (.istore 4, 2) := by decide +kernel
theorem d_Vol_byPlace_55 : decode b_Vol_byPlace 55 = .ok (.bipush 100, 2) := by decide +kernel
theorem d_Vol_byPlace_57 : decode b_Vol_byPlace 57 = .ok (.aload_n 3, 1) := by decide +kernel
theorem d_Vol_byPlace_58 : decode b_Vol_byPlace 58 = .ok (.iload 4, 2) := by decide +kernel
theorem d_Vol_byPlace_60 : decode b_Vol_byPlace 60 = .ok (.invokevirtual 169, 3) := by decide +kernel
theorem d_Vol_byPlace_63 : decode b_Vol_byPlace 63 = .ok (.imul, 1) := by decide +kernel
theorem d_Vol_byPlace_64 : decode b_Vol_byPlace 64 = .ok (.aload_n 3, 1) := by decide +kernel
theorem d_Vol_byPlace_65 : decode b_Vol_byPlace 65 = .ok (.iload 4, 2) := by decide +kernel
theorem d_Vol_byPlace_67 : decode b_Vol_byPlace 67 = .ok (.invokevirtual 172, 3) := by decide +kernel
theorem d_Vol_byPlace_70 : decode b_Vol_byPlace 70 = .ok (.iadd, 1) := by decide +kernel
theorem d_Vol_byPlace_71 : decode b_Vol_byPlace 71 = .ok (.ireturn, 1) := by decide +kernel
def m_Vol_byPlace (x1 : Int) (x2 : Int) (now : Int → Int) (nrm : Int) (nrs : Int → Int) (nrz : Int → Int) (rf : Int → Int) : Option (Int × Int × (Int → Int) × (Int → Int) × (Int → Int)) :=
  bnd (m_Vol_isEither x2) (fun r1 => ceq r1 0 (bnd (m_Vol_refuse (-2) rf) (fun r28 => some (r28.1, nrm, nrs, nrz, r28.2))) (bnd (m_Disk_lookedAtRuns now nrm nrs nrz) (fun r3 => jn (fun (c6 : Int) (c7 : Int → Int) (c8 : Int → Int) (c9 : Int → Int) => bnd (m_Vol_refuse (-1) c9) (fun r10 => some (r10.1, c6, c7, c8, r10.2))) (fun j5 => clt x1 0 (j5 r3.1 r3.2.1 r3.2.2 rf) (clt x1 r3.1 (jn (fun (z15 : Int) (c16 : Int) (c17 : Int → Int) (c18 : Int → Int) (c19 : Int → Int) => bnd (m_Runs_startAt z15 c16 c17) (fun r20 => bnd (m_Runs_sizeAt z15 c16 c18) (fun r22 => some (((100 * r20) + r22), c16, c17, c18, c19)))) (fun j14 => ceq x2 0 (j14 x1 r3.1 r3.2.1 r3.2.2 rf) (bnd (m_Runs_atRankOfSize x1 r3.1 r3.2.2) (fun r26 => j14 r26 r3.1 r3.2.1 r3.2.2 rf)))) (j5 r3.1 r3.2.1 r3.2.2 rf))))))
set_option maxHeartbeats 4000000 in
set_option maxRecDepth 100000 in
theorem c_Vol_byPlace (l : Launch) (D : va_G) (cI cB : ClassId) (a0 a1 a2 a3 a4 a5 a6 a7 a8 a9 a10 a11 a12 a13 a14 a15 a16 a17 a18 a19 a20 a21 a22 a23 a24 a25 a26 a27 a28 a29 a30 a31 a32 a33 a34 a35 a36 a37 : Nat) (ik : Int) (now : Int → Int) (nbt : Int → Int) (nki : Int → Int) (npl : Int → Int) (nva : Int → Int) (nwr : Int → Int) (nrm : Int) (nrs : Int → Int) (nrz : Int → Int) (kow : Int → Int) (kbt : Int → Int) (kki : Int → Int) (kpl : Int → Int) (kva : Int → Int) (kwr : Int → Int) (krm : Int) (krs : Int → Int) (krz : Int → Int) (tow : Int → Int) (tbt : Int → Int) (tki : Int → Int) (tpl : Int → Int) (tva : Int → Int) (twr : Int → Int) (trm : Int) (trs : Int → Int) (trz : Int → Int) (seed : Int) (smn : Int) (snu : Int → Int) (rmn : Int) (rnu : Int → Int) (rf : Int → Int) (x1 : Int) (x2 : Int) {o : Int × Int × (Int → Int) × (Int → Int) × (Int → Int)} (h : m_Vol_byPlace x1 x2 now nrm nrs nrz rf = some o) : Ct l D cI cB y_Vol_byPlace b_Vol_byPlace 5 (some .int) { frames := 3, cells := 0, slots := 0, locals := 66 } [.ref a0, .int (zi x1), .int (zi x2)] (w_Vol cI cB a0 a1 a2 a3 a4 a5 a6 a7 a8 a9 a10 a11 a12 a13 a14 a15 a16 a17 a18 a19 a20 a21 a22 a23 a24 a25 a26 a27 a28 a29 a30 a31 a32 a33 a34 a35 a36 a37 ik now nbt nki npl nva nwr nrm nrs nrz kow kbt kki kpl kva kwr krm krs krz tow tbt tki tpl tva twr trm trs trz seed smn snu rmn rnu rf) (w_Vol cI cB a0 a1 a2 a3 a4 a5 a6 a7 a8 a9 a10 a11 a12 a13 a14 a15 a16 a17 a18 a19 a20 a21 a22 a23 a24 a25 a26 a27 a28 a29 a30 a31 a32 a33 a34 a35 a36 a37 ik now nbt nki npl nva nwr o.2.1 o.2.2.1 o.2.2.2.1 kow kbt kki kpl kva kwr krm krs krz tow tbt tki tpl tva twr trm trs trz seed smn snu rmn rnu o.2.2.2.2) (some (.int (zi o.1))) := by
  refine Ct.start (by decide) (Nat.le_of_ble_eq_true rfl) (fun G X hR => ?_)
  refine x_ls (ls2 := [(0, .ref a0), (1, .int (zi x1)), (2, .int (zi x2))]) [0, 1, 2] rfl ?_
  unfold m_Vol_byPlace at h
  refine x_iload_n (pc := 0) X d_Vol_byPlace_0 2 rfl rfl ?_
  obtain ⟨r1, h2, h⟩ := bnd_e h
  refine x_callS (pc := 1) (As := [.int (zi x2)]) (rest := []) (w2 := (w_Vol cI cB a0 a1 a2 a3 a4 a5 a6 a7 a8 a9 a10 a11 a12 a13 a14 a15 a16 a17 a18 a19 a20 a21 a22 a23 a24 a25 a26 a27 a28 a29 a30 a31 a32 a33 a34 a35 a36 a37 ik now nbt nki npl nva nwr nrm nrs nrz kow kbt kki kpl kva kwr krm krs krz tow tbt tki tpl tva twr trm trs trz seed smn snu rmn rnu rf)) X d_Vol_byPlace_1 lk_Vol_153 mv_Vol_isEither (c_Vol_isEither l D cI cB x2 h2) ⟨(Nat.le_of_ble_eq_true rfl), (Nat.le_of_ble_eq_true rfl), (Nat.le_of_ble_eq_true rfl), (Nat.le_of_ble_eq_true rfl)⟩ [] rfl rfl rfl (Up.same rfl) rfl rfl (Nat.le_of_ble_eq_true rfl) ?_
  refine x_ifne (pc := 4) (tgt := 14) X d_Vol_byPlace_4 rfl h (fun h => ?_) (fun h => ?_)
  · skip
    refine x_aload_n (pc := 14) X d_Vol_byPlace_14 0 rfl rfl ?_
    refine x_get (pc := 15) X d_Vol_byPlace_15 0 rfl fl_Vol_10 rfl ?_
    obtain ⟨r3, h4, h⟩ := bnd_e h
    refine x_callV (pc := 18) (As := []) (rest := []) (w2 := (w_Vol cI cB a0 a1 a2 a3 a4 a5 a6 a7 a8 a9 a10 a11 a12 a13 a14 a15 a16 a17 a18 a19 a20 a21 a22 a23 a24 a25 a26 a27 a28 a29 a30 a31 a32 a33 a34 a35 a36 a37 ik now nbt nki npl nva nwr r3.1 r3.2.1 r3.2.2 kow kbt kki kpl kva kwr krm krs krz tow tbt tki tpl tva twr trm trs trz seed smn snu rmn rnu rf)) X d_Vol_byPlace_18 lk_Vol_156 mv_Disk_lookedAtRuns (c_Disk_lookedAtRuns l D cI cB a1 a2 a3 a4 a5 a6 a7 a8 a9 a10 now nbt nki npl nva nwr nrm nrs nrz h4) ⟨(Nat.le_of_ble_eq_true rfl), (Nat.le_of_ble_eq_true rfl), (Nat.le_of_ble_eq_true rfl), (Nat.le_of_ble_eq_true rfl)⟩ 1 rfl rfl [1, 2, 3, 4, 5, 6, 7, 8, 9, 10] rfl rfl rfl (Up.of [0, 11, 12, 13, 14, 15, 16, 17, 18, 19, 20, 21, 22, 23, 24, 25, 26, 27, 28, 29, 30, 31, 32, 33, 34, 35, 36, 37] [(a0, .inr (5, [.ref a1, .ref a11, .ref a21, .ref a31, .ref a32, .ref a35, .ref a37, .int (zi ik)])), (a11, .inr (0, [.ref a12, .ref a13, .ref a14, .ref a15, .ref a16, .ref a17, .ref a18])), (a12, zA cI 64 kow), (a13, zA cI 64 kbt), (a14, zA cI 4 kki), (a15, zA cI 96 kpl), (a16, zA cI 96 kva), (a17, zA cB 96 kwr), (a18, .inr (3, [.ref a19, .ref a20, .int (zi krm)])), (a19, zA cI 32 krs), (a20, zA cI 32 krz), (a21, .inr (0, [.ref a22, .ref a23, .ref a24, .ref a25, .ref a26, .ref a27, .ref a28])), (a22, zA cI 64 tow), (a23, zA cI 64 tbt), (a24, zA cI 4 tki), (a25, zA cI 96 tpl), (a26, zA cI 96 tva), (a27, zA cB 96 twr), (a28, .inr (3, [.ref a29, .ref a30, .int (zi trm)])), (a29, zA cI 32 trs), (a30, zA cI 32 trz), (a31, .inr (1, [.ref a1, .ref a21, .int (zi seed)])), (a32, .inr (4, [.ref a33])), (a33, .inr (2, [.ref a34, .int (zi smn)])), (a34, zA cI 96 snu), (a35, .inr (2, [.ref a36, .int (zi rmn)])), (a36, zA cI 32 rnu), (a37, zA cI 7 rf)] rfl rfl rfl 38 rfl (by decide +kernel)) rfl rfl (Nat.le_of_ble_eq_true rfl) ?_
    refine x_astore_n (pc := 21) (ls2 := [(3, .ref a8), (0, .ref a0), (1, .int (zi x1)), (2, .int (zi x2))]) X d_Vol_byPlace_21 rfl (Nat.le_of_ble_eq_true rfl) rfl ?_
    refine x_iload_n (pc := 22) X d_Vol_byPlace_22 2 rfl rfl ?_
    obtain ⟨j5, hj12, h⟩ := jn_e h
    have J13 : ∀ (c6 : Int) (c7 : Int → Int) (c8 : Int → Int) (c9 : Int → Int), j5 c6 c7 c8 c9 = some o → Wx G 0 0 34 [(0, .ref a0)] [] (w_Vol cI cB a0 a1 a2 a3 a4 a5 a6 a7 a8 a9 a10 a11 a12 a13 a14 a15 a16 a17 a18 a19 a20 a21 a22 a23 a24 a25 a26 a27 a28 a29 a30 a31 a32 a33 a34 a35 a36 a37 ik now nbt nki npl nva nwr c6 c7 c8 kow kbt kki kpl kva kwr krm krs krz tow tbt tki tpl tva twr trm trs trz seed smn snu rmn rnu c9) := by
      intro c6 c7 c8 c9 h
      rw [hj12] at h
      (try dsimp only at h)
      refine x_aload_n (pc := 34) X d_Vol_byPlace_34 0 rfl rfl ?_
      refine x_iconst (pc := 35) X d_Vol_byPlace_35  ?_
      obtain ⟨r10, h11, h⟩ := bnd_e h
      refine x_callV (pc := 36) (As := [.int (zi (-1))]) (rest := []) (w2 := (w_Vol cI cB a0 a1 a2 a3 a4 a5 a6 a7 a8 a9 a10 a11 a12 a13 a14 a15 a16 a17 a18 a19 a20 a21 a22 a23 a24 a25 a26 a27 a28 a29 a30 a31 a32 a33 a34 a35 a36 a37 ik now nbt nki npl nva nwr c6 c7 c8 kow kbt kki kpl kva kwr krm krs krz tow tbt tki tpl tva twr trm trs trz seed smn snu rmn rnu r10.2)) X d_Vol_byPlace_36 lk_Vol_55 mv_Vol_refuse (c_Vol_refuse l D cI cB a0 a1 a2 a3 a4 a5 a6 a7 a8 a9 a10 a11 a12 a13 a14 a15 a16 a17 a18 a19 a20 a21 a22 a23 a24 a25 a26 a27 a28 a29 a30 a31 a32 a33 a34 a35 a36 a37 ik now nbt nki npl nva nwr c6 c7 c8 kow kbt kki kpl kva kwr krm krs krz tow tbt tki tpl tva twr trm trs trz seed smn snu rmn rnu c9 (-1) h11) ⟨(Nat.le_of_ble_eq_true rfl), (Nat.le_of_ble_eq_true rfl), (Nat.le_of_ble_eq_true rfl), (Nat.le_of_ble_eq_true rfl)⟩ 0 rfl rfl [0, 1, 2, 3, 4, 5, 6, 7, 8, 9, 10, 11, 12, 13, 14, 15, 16, 17, 18, 19, 20, 21, 22, 23, 24, 25, 26, 27, 28, 29, 30, 31, 32, 33, 34, 35, 36, 37] rfl rfl rfl (Up.of [] [] rfl rfl rfl 38 rfl (by decide +kernel)) rfl rfl (Nat.le_of_ble_eq_true rfl) ?_
      cases h
      exact x_iret (pc := 39) X hR d_Vol_byPlace_39
    clear hj12
    refine x_iflt (pc := 23) (tgt := 34) X d_Vol_byPlace_23 rfl h (fun h => ?_) (fun h => ?_)
    · skip
      refine x_ls (ls2 := [(0, .ref a0)]) [1] rfl ?_
      exact J13 r3.1 r3.2.1 r3.2.2 rf h
    · skip
      refine x_iload_n (pc := 26) X d_Vol_byPlace_26 2 rfl rfl ?_
      refine x_aload_n (pc := 27) X d_Vol_byPlace_27 0 rfl rfl ?_
      refine x_get (pc := 28) X d_Vol_byPlace_28 8 rfl fl_Vol_160 rfl ?_
      refine x_icmplt (pc := 31) (tgt := 40) X d_Vol_byPlace_31 rfl h (fun h => ?_) (fun h => ?_)
      · skip
        refine x_iload_n (pc := 40) X d_Vol_byPlace_40 3 rfl rfl ?_
        obtain ⟨j14, hj24, h⟩ := jn_e h
        have J25 : ∀ (z15 : Int) (c16 : Int) (c17 : Int → Int) (c18 : Int → Int) (c19 : Int → Int), j14 z15 c16 c17 c18 c19 = some o → Wx G 0 0 53 [(3, .ref a8)] [.int (zi z15)] (w_Vol cI cB a0 a1 a2 a3 a4 a5 a6 a7 a8 a9 a10 a11 a12 a13 a14 a15 a16 a17 a18 a19 a20 a21 a22 a23 a24 a25 a26 a27 a28 a29 a30 a31 a32 a33 a34 a35 a36 a37 ik now nbt nki npl nva nwr c16 c17 c18 kow kbt kki kpl kva kwr krm krs krz tow tbt tki tpl tva twr trm trs trz seed smn snu rmn rnu c19) := by
          intro z15 c16 c17 c18 c19 h
          rw [hj24] at h
          (try dsimp only at h)
          refine x_istore (pc := 53) (ls2 := [(4, .int (zi z15)), (3, .ref a8)]) X d_Vol_byPlace_53 (Nat.le_of_ble_eq_true rfl) rfl ?_
          refine x_bipush (pc := 55) (v := 100) X d_Vol_byPlace_55 rfl ?_
          refine x_aload_n (pc := 57) X d_Vol_byPlace_57 1 rfl rfl ?_
          refine x_iload (pc := 58) X d_Vol_byPlace_58 0 rfl ?_
          obtain ⟨r20, h21, h⟩ := bnd_e h
          refine x_callV (pc := 60) (As := [.int (zi z15)]) (rest := [.int (zi 100)]) (w2 := (w_Vol cI cB a0 a1 a2 a3 a4 a5 a6 a7 a8 a9 a10 a11 a12 a13 a14 a15 a16 a17 a18 a19 a20 a21 a22 a23 a24 a25 a26 a27 a28 a29 a30 a31 a32 a33 a34 a35 a36 a37 ik now nbt nki npl nva nwr c16 c17 c18 kow kbt kki kpl kva kwr krm krs krz tow tbt tki tpl tva twr trm trs trz seed smn snu rmn rnu c19)) X d_Vol_byPlace_60 lk_Vol_169 mv_Runs_startAt (c_Runs_startAt l D cI cB a8 a9 a10 c16 c17 c18 z15 h21) ⟨(Nat.le_of_ble_eq_true rfl), (Nat.le_of_ble_eq_true rfl), (Nat.le_of_ble_eq_true rfl), (Nat.le_of_ble_eq_true rfl)⟩ 8 rfl rfl [8, 9, 10] rfl rfl rfl (Up.same rfl) rfl rfl (Nat.le_of_ble_eq_true rfl) ?_
          refine x_imul (pc := 63) X d_Vol_byPlace_63  ?_
          refine x_aload_n (pc := 64) X d_Vol_byPlace_64 1 rfl rfl ?_
          refine x_iload (pc := 65) X d_Vol_byPlace_65 0 rfl ?_
          obtain ⟨r22, h23, h⟩ := bnd_e h
          refine x_callV (pc := 67) (As := [.int (zi z15)]) (rest := [.int (zi (100 * r20))]) (w2 := (w_Vol cI cB a0 a1 a2 a3 a4 a5 a6 a7 a8 a9 a10 a11 a12 a13 a14 a15 a16 a17 a18 a19 a20 a21 a22 a23 a24 a25 a26 a27 a28 a29 a30 a31 a32 a33 a34 a35 a36 a37 ik now nbt nki npl nva nwr c16 c17 c18 kow kbt kki kpl kva kwr krm krs krz tow tbt tki tpl tva twr trm trs trz seed smn snu rmn rnu c19)) X d_Vol_byPlace_67 lk_Vol_172 mv_Runs_sizeAt (c_Runs_sizeAt l D cI cB a8 a9 a10 c16 c17 c18 z15 h23) ⟨(Nat.le_of_ble_eq_true rfl), (Nat.le_of_ble_eq_true rfl), (Nat.le_of_ble_eq_true rfl), (Nat.le_of_ble_eq_true rfl)⟩ 8 rfl rfl [8, 9, 10] rfl rfl rfl (Up.same rfl) rfl rfl (Nat.le_of_ble_eq_true rfl) ?_
          refine x_iadd (pc := 70) X d_Vol_byPlace_70  ?_
          cases h
          exact x_iret (pc := 71) X hR d_Vol_byPlace_71
        clear hj24
        refine x_ifne (pc := 41) (tgt := 48) X d_Vol_byPlace_41 rfl h (fun h => ?_) (fun h => ?_)
        · skip
          refine x_aload_n (pc := 48) X d_Vol_byPlace_48 0 rfl rfl ?_
          refine x_iload_n (pc := 49) X d_Vol_byPlace_49 2 rfl rfl ?_
          obtain ⟨r26, h27, h⟩ := bnd_e h
          refine x_callV (pc := 50) (As := [.int (zi x1)]) (rest := []) (w2 := (w_Vol cI cB a0 a1 a2 a3 a4 a5 a6 a7 a8 a9 a10 a11 a12 a13 a14 a15 a16 a17 a18 a19 a20 a21 a22 a23 a24 a25 a26 a27 a28 a29 a30 a31 a32 a33 a34 a35 a36 a37 ik now nbt nki npl nva nwr r3.1 r3.2.1 r3.2.2 kow kbt kki kpl kva kwr krm krs krz tow tbt tki tpl tva twr trm trs trz seed smn snu rmn rnu rf)) X d_Vol_byPlace_50 lk_Vol_166 mv_Runs_atRankOfSize (c_Runs_atRankOfSize l D cI cB a8 a9 a10 r3.1 r3.2.1 r3.2.2 x1 h27) ⟨(Nat.le_of_ble_eq_true rfl), (Nat.le_of_ble_eq_true rfl), (Nat.le_of_ble_eq_true rfl), (Nat.le_of_ble_eq_true rfl)⟩ 8 rfl rfl [8, 9, 10] rfl rfl rfl (Up.same rfl) rfl rfl (Nat.le_of_ble_eq_true rfl) ?_
          refine x_ls (ls2 := [(3, .ref a8)]) [0] rfl ?_
          exact J25 r26 r3.1 r3.2.1 r3.2.2 rf h
        · skip
          refine x_iload_n (pc := 44) X d_Vol_byPlace_44 2 rfl rfl ?_
          refine x_goto (pc := 45) (tgt := 53) X d_Vol_byPlace_45 rfl ?_
          refine x_ls (ls2 := [(3, .ref a8)]) [0] rfl ?_
          exact J25 x1 r3.1 r3.2.1 r3.2.2 rf h
      · skip
        refine x_ls (ls2 := [(0, .ref a0)]) [1] rfl ?_
        exact J13 r3.1 r3.2.1 r3.2.2 rf h
  · skip
    refine x_aload_n (pc := 7) X d_Vol_byPlace_7 0 rfl rfl ?_
    refine x_bipush (pc := 8) (v := -2) X d_Vol_byPlace_8 rfl ?_
    obtain ⟨r28, h29, h⟩ := bnd_e h
    refine x_callV (pc := 10) (As := [.int (zi (-2))]) (rest := []) (w2 := (w_Vol cI cB a0 a1 a2 a3 a4 a5 a6 a7 a8 a9 a10 a11 a12 a13 a14 a15 a16 a17 a18 a19 a20 a21 a22 a23 a24 a25 a26 a27 a28 a29 a30 a31 a32 a33 a34 a35 a36 a37 ik now nbt nki npl nva nwr nrm nrs nrz kow kbt kki kpl kva kwr krm krs krz tow tbt tki tpl tva twr trm trs trz seed smn snu rmn rnu r28.2)) X d_Vol_byPlace_10 lk_Vol_55 mv_Vol_refuse (c_Vol_refuse l D cI cB a0 a1 a2 a3 a4 a5 a6 a7 a8 a9 a10 a11 a12 a13 a14 a15 a16 a17 a18 a19 a20 a21 a22 a23 a24 a25 a26 a27 a28 a29 a30 a31 a32 a33 a34 a35 a36 a37 ik now nbt nki npl nva nwr nrm nrs nrz kow kbt kki kpl kva kwr krm krs krz tow tbt tki tpl tva twr trm trs trz seed smn snu rmn rnu rf (-2) h29) ⟨(Nat.le_of_ble_eq_true rfl), (Nat.le_of_ble_eq_true rfl), (Nat.le_of_ble_eq_true rfl), (Nat.le_of_ble_eq_true rfl)⟩ 0 rfl rfl [0, 1, 2, 3, 4, 5, 6, 7, 8, 9, 10, 11, 12, 13, 14, 15, 16, 17, 18, 19, 20, 21, 22, 23, 24, 25, 26, 27, 28, 29, 30, 31, 32, 33, 34, 35, 36, 37] rfl rfl rfl (Up.of [] [] rfl rfl rfl 38 rfl (by decide +kernel)) rfl rfl (Nat.le_of_ble_eq_true rfl) ?_
    cases h
    exact x_iret (pc := 13) X hR d_Vol_byPlace_13
theorem d_Vol_fit_0 : decode b_Vol_fit 0 = .ok (.iload_n 1, 1) := by decide +kernel
theorem d_Vol_fit_1 : decode b_Vol_fit 1 = .ok (.invokestatic 175, 3) := by decide +kernel
theorem d_Vol_fit_4 : decode b_Vol_fit 4 = .ok (.istore_n 2, 1) := by decide +kernel
theorem d_Vol_fit_5 : decode b_Vol_fit 5 = .ok (.iload_n 2, 1) := by decide +kernel
theorem d_Vol_fit_6 : decode b_Vol_fit 6 = .ok (.ifCond .ge 9, 3) := by decide +kernel
theorem d_Vol_fit_9 : decode b_Vol_fit 9 = .ok (.aload_n 0, 1) := by decide +kernel
theorem d_Vol_fit_10 : decode b_Vol_fit 10 = .ok (.iload_n 2, 1) := by decide +kernel
theorem d_Vol_fit_11 : decode b_Vol_fit 11 = .ok (.invokevirtual 55, 3) := by decide +kernel
theorem d_Vol_fit_14 : decode b_Vol_fit 14 = .ok (.ireturn, 1) := by decide +kernel
theorem d_Vol_fit_15 : decode b_Vol_fit 15 = .ok (.aload_n 0, 1) := by decide +kernel
theorem d_Vol_fit_16 : decode b_Vol_fit 16 = .ok (.getfield 10, 3) := by decide +kernel
theorem d_Vol_fit_19 : decode b_Vol_fit 19 = .ok (.invokevirtual 156, 3) := by decide +kernel
theorem d_Vol_fit_22 : decode b_Vol_fit 22 = .ok (.astore_n 3, 1) := by decide +kernel
theorem d_Vol_fit_23 : decode b_Vol_fit 23 = .ok (.aload_n 3, 1) := by decide +kernel
theorem d_Vol_fit_24 : decode b_Vol_fit 24 = .ok (.aload_n 3, 1) := by decide +kernel
theorem d_Vol_fit_25 : decode b_Vol_fit 25 = .ok (.iload_n 1, 1) := by decide +kernel
theorem d_Vol_fit_26 : decode b_Vol_fit 26 = .ok (.invokevirtual 178, 3) := by decide +kernel
theorem d_Vol_fit_29 : decode b_Vol_fit 29 = .ok (.invokevirtual 169, 3) := by decide +kernel
theorem d_Vol_fit_32 : decode b_Vol_fit 32 = .ok (.invokestatic 95, 3) := by decide +kernel
theorem d_Vol_fit_35 : decode b_Vol_fit 35 = .ok (.ireturn, 1) := by decide +kernel
def m_Vol_fit (x1 : Int) (now : Int → Int) (nrm : Int) (nrs : Int → Int) (nrz : Int → Int) (rf : Int → Int) : Option (Int × Int × (Int → Int) × (Int → Int) × (Int → Int)) :=
  bnd (m_Vol_refusalOfSize x1) (fun r1 => clt r1 0 (bnd (m_Vol_refuse r1 rf) (fun r11 => some (r11.1, nrm, nrs, nrz, r11.2))) (bnd (m_Disk_lookedAtRuns now nrm nrs nrz) (fun r3 => bnd (m_Runs_leastFor x1 r3.1 r3.2.2) (fun r5 => bnd (m_Runs_startAt r5 r3.1 r3.2.1) (fun r7 => bnd (m_Vol_orNothing r7) (fun r9 => some (r9, r3.1, r3.2.1, r3.2.2, rf)))))))
set_option maxHeartbeats 4000000 in
set_option maxRecDepth 100000 in
theorem c_Vol_fit (l : Launch) (D : va_G) (cI cB : ClassId) (a0 a1 a2 a3 a4 a5 a6 a7 a8 a9 a10 a11 a12 a13 a14 a15 a16 a17 a18 a19 a20 a21 a22 a23 a24 a25 a26 a27 a28 a29 a30 a31 a32 a33 a34 a35 a36 a37 : Nat) (ik : Int) (now : Int → Int) (nbt : Int → Int) (nki : Int → Int) (npl : Int → Int) (nva : Int → Int) (nwr : Int → Int) (nrm : Int) (nrs : Int → Int) (nrz : Int → Int) (kow : Int → Int) (kbt : Int → Int) (kki : Int → Int) (kpl : Int → Int) (kva : Int → Int) (kwr : Int → Int) (krm : Int) (krs : Int → Int) (krz : Int → Int) (tow : Int → Int) (tbt : Int → Int) (tki : Int → Int) (tpl : Int → Int) (tva : Int → Int) (twr : Int → Int) (trm : Int) (trs : Int → Int) (trz : Int → Int) (seed : Int) (smn : Int) (snu : Int → Int) (rmn : Int) (rnu : Int → Int) (rf : Int → Int) (x1 : Int) {o : Int × Int × (Int → Int) × (Int → Int) × (Int → Int)} (h : m_Vol_fit x1 now nrm nrs nrz rf = some o) : Ct l D cI cB y_Vol_fit b_Vol_fit 4 (some .int) { frames := 3, cells := 0, slots := 0, locals := 65 } [.ref a0, .int (zi x1)] (w_Vol cI cB a0 a1 a2 a3 a4 a5 a6 a7 a8 a9 a10 a11 a12 a13 a14 a15 a16 a17 a18 a19 a20 a21 a22 a23 a24 a25 a26 a27 a28 a29 a30 a31 a32 a33 a34 a35 a36 a37 ik now nbt nki npl nva nwr nrm nrs nrz kow kbt kki kpl kva kwr krm krs krz tow tbt tki tpl tva twr trm trs trz seed smn snu rmn rnu rf) (w_Vol cI cB a0 a1 a2 a3 a4 a5 a6 a7 a8 a9 a10 a11 a12 a13 a14 a15 a16 a17 a18 a19 a20 a21 a22 a23 a24 a25 a26 a27 a28 a29 a30 a31 a32 a33 a34 a35 a36 a37 ik now nbt nki npl nva nwr o.2.1 o.2.2.1 o.2.2.2.1 kow kbt kki kpl kva kwr krm krs krz tow tbt tki tpl tva twr trm trs trz seed smn snu rmn rnu o.2.2.2.2) (some (.int (zi o.1))) := by
  refine Ct.start (by decide) (Nat.le_of_ble_eq_true rfl) (fun G X hR => ?_)
  refine x_ls (ls2 := [(0, .ref a0), (1, .int (zi x1))]) [0, 1] rfl ?_
  unfold m_Vol_fit at h
  refine x_iload_n (pc := 0) X d_Vol_fit_0 1 rfl rfl ?_
  obtain ⟨r1, h2, h⟩ := bnd_e h
  refine x_callS (pc := 1) (As := [.int (zi x1)]) (rest := []) (w2 := (w_Vol cI cB a0 a1 a2 a3 a4 a5 a6 a7 a8 a9 a10 a11 a12 a13 a14 a15 a16 a17 a18 a19 a20 a21 a22 a23 a24 a25 a26 a27 a28 a29 a30 a31 a32 a33 a34 a35 a36 a37 ik now nbt nki npl nva nwr nrm nrs nrz kow kbt kki kpl kva kwr krm krs krz tow tbt tki tpl tva twr trm trs trz seed smn snu rmn rnu rf)) X d_Vol_fit_1 lk_Vol_175 mv_Vol_refusalOfSize (c_Vol_refusalOfSize l D cI cB x1 h2) ⟨(Nat.le_of_ble_eq_true rfl), (Nat.le_of_ble_eq_true rfl), (Nat.le_of_ble_eq_true rfl), (Nat.le_of_ble_eq_true rfl)⟩ [] rfl rfl rfl (Up.same rfl) rfl rfl (Nat.le_of_ble_eq_true rfl) ?_
  refine x_istore_n (pc := 4) (ls2 := [(2, .int (zi r1)), (0, .ref a0), (1, .int (zi x1))]) X d_Vol_fit_4 rfl (Nat.le_of_ble_eq_true rfl) rfl ?_
  refine x_iload_n (pc := 5) X d_Vol_fit_5 0 rfl rfl ?_
  refine x_ifge (pc := 6) (tgt := 15) X d_Vol_fit_6 rfl h (fun h => ?_) (fun h => ?_)
  · skip
    refine x_aload_n (pc := 15) X d_Vol_fit_15 1 rfl rfl ?_
    refine x_get (pc := 16) X d_Vol_fit_16 0 rfl fl_Vol_10 rfl ?_
    obtain ⟨r3, h4, h⟩ := bnd_e h
    refine x_callV (pc := 19) (As := []) (rest := []) (w2 := (w_Vol cI cB a0 a1 a2 a3 a4 a5 a6 a7 a8 a9 a10 a11 a12 a13 a14 a15 a16 a17 a18 a19 a20 a21 a22 a23 a24 a25 a26 a27 a28 a29 a30 a31 a32 a33 a34 a35 a36 a37 ik now nbt nki npl nva nwr r3.1 r3.2.1 r3.2.2 kow kbt kki kpl kva kwr krm krs krz tow tbt tki tpl tva twr trm trs trz seed smn snu rmn rnu rf)) X d_Vol_fit_19 lk_Vol_156 mv_Disk_lookedAtRuns (c_Disk_lookedAtRuns l D cI cB a1 a2 a3 a4 a5 a6 a7 a8 a9 a10 now nbt nki npl nva nwr nrm nrs nrz h4) ⟨(Nat.le_of_ble_eq_true rfl), (Nat.le_of_ble_eq_true rfl), (Nat.le_of_ble_eq_true rfl), (Nat.le_of_ble_eq_true rfl)⟩ 1 rfl rfl [1, 2, 3, 4, 5, 6, 7, 8, 9, 10] rfl rfl rfl (Up.of [0, 11, 12, 13, 14, 15, 16, 17, 18, 19, 20, 21, 22, 23, 24, 25, 26, 27, 28, 29, 30, 31, 32, 33, 34, 35, 36, 37] [(a0, .inr (5, [.ref a1, .ref a11, .ref a21, .ref a31, .ref a32, .ref a35, .ref a37, .int (zi ik)])), (a11, .inr (0, [.ref a12, .ref a13, .ref a14, .ref a15, .ref a16, .ref a17, .ref a18])), (a12, zA cI 64 kow), (a13, zA cI 64 kbt), (a14, zA cI 4 kki), (a15, zA cI 96 kpl), (a16, zA cI 96 kva), (a17, zA cB 96 kwr), (a18, .inr (3, [.ref a19, .ref a20, .int (zi krm)])), (a19, zA cI 32 krs), (a20, zA cI 32 krz), (a21, .inr (0, [.ref a22, .ref a23, .ref a24, .ref a25, .ref a26, .ref a27, .ref a28])), (a22, zA cI 64 tow), (a23, zA cI 64 tbt), (a24, zA cI 4 tki), (a25, zA cI 96 tpl), (a26, zA cI 96 tva), (a27, zA cB 96 twr), (a28, .inr (3, [.ref a29, .ref a30, .int (zi trm)])), (a29, zA cI 32 trs), (a30, zA cI 32 trz), (a31, .inr (1, [.ref a1, .ref a21, .int (zi seed)])), (a32, .inr (4, [.ref a33])), (a33, .inr (2, [.ref a34, .int (zi smn)])), (a34, zA cI 96 snu), (a35, .inr (2, [.ref a36, .int (zi rmn)])), (a36, zA cI 32 rnu), (a37, zA cI 7 rf)] rfl rfl rfl 38 rfl (by decide +kernel)) rfl rfl (Nat.le_of_ble_eq_true rfl) ?_
    refine x_astore_n (pc := 22) (ls2 := [(3, .ref a8), (2, .int (zi r1)), (0, .ref a0), (1, .int (zi x1))]) X d_Vol_fit_22 rfl (Nat.le_of_ble_eq_true rfl) rfl ?_
    refine x_aload_n (pc := 23) X d_Vol_fit_23 0 rfl rfl ?_
    refine x_aload_n (pc := 24) X d_Vol_fit_24 0 rfl rfl ?_
    refine x_iload_n (pc := 25) X d_Vol_fit_25 3 rfl rfl ?_
    obtain ⟨r5, h6, h⟩ := bnd_e h
    refine x_callV (pc := 26) (As := [.int (zi x1)]) (rest := [.ref a8]) (w2 := (w_Vol cI cB a0 a1 a2 a3 a4 a5 a6 a7 a8 a9 a10 a11 a12 a13 a14 a15 a16 a17 a18 a19 a20 a21 a22 a23 a24 a25 a26 a27 a28 a29 a30 a31 a32 a33 a34 a35 a36 a37 ik now nbt nki npl nva nwr r3.1 r3.2.1 r3.2.2 kow kbt kki kpl kva kwr krm krs krz tow tbt tki tpl tva twr trm trs trz seed smn snu rmn rnu rf)) X d_Vol_fit_26 lk_Vol_178 mv_Runs_leastFor (c_Runs_leastFor l D cI cB a8 a9 a10 r3.1 r3.2.1 r3.2.2 x1 h6) ⟨(Nat.le_of_ble_eq_true rfl), (Nat.le_of_ble_eq_true rfl), (Nat.le_of_ble_eq_true rfl), (Nat.le_of_ble_eq_true rfl)⟩ 8 rfl rfl [8, 9, 10] rfl rfl rfl (Up.same rfl) rfl rfl (Nat.le_of_ble_eq_true rfl) ?_
    obtain ⟨r7, h8, h⟩ := bnd_e h
    refine x_callV (pc := 29) (As := [.int (zi r5)]) (rest := []) (w2 := (w_Vol cI cB a0 a1 a2 a3 a4 a5 a6 a7 a8 a9 a10 a11 a12 a13 a14 a15 a16 a17 a18 a19 a20 a21 a22 a23 a24 a25 a26 a27 a28 a29 a30 a31 a32 a33 a34 a35 a36 a37 ik now nbt nki npl nva nwr r3.1 r3.2.1 r3.2.2 kow kbt kki kpl kva kwr krm krs krz tow tbt tki tpl tva twr trm trs trz seed smn snu rmn rnu rf)) X d_Vol_fit_29 lk_Vol_169 mv_Runs_startAt (c_Runs_startAt l D cI cB a8 a9 a10 r3.1 r3.2.1 r3.2.2 r5 h8) ⟨(Nat.le_of_ble_eq_true rfl), (Nat.le_of_ble_eq_true rfl), (Nat.le_of_ble_eq_true rfl), (Nat.le_of_ble_eq_true rfl)⟩ 8 rfl rfl [8, 9, 10] rfl rfl rfl (Up.same rfl) rfl rfl (Nat.le_of_ble_eq_true rfl) ?_
    obtain ⟨r9, h10, h⟩ := bnd_e h
    refine x_callS (pc := 32) (As := [.int (zi r7)]) (rest := []) (w2 := (w_Vol cI cB a0 a1 a2 a3 a4 a5 a6 a7 a8 a9 a10 a11 a12 a13 a14 a15 a16 a17 a18 a19 a20 a21 a22 a23 a24 a25 a26 a27 a28 a29 a30 a31 a32 a33 a34 a35 a36 a37 ik now nbt nki npl nva nwr r3.1 r3.2.1 r3.2.2 kow kbt kki kpl kva kwr krm krs krz tow tbt tki tpl tva twr trm trs trz seed smn snu rmn rnu rf)) X d_Vol_fit_32 lk_Vol_95 mv_Vol_orNothing (c_Vol_orNothing l D cI cB r7 h10) ⟨(Nat.le_of_ble_eq_true rfl), (Nat.le_of_ble_eq_true rfl), (Nat.le_of_ble_eq_true rfl), (Nat.le_of_ble_eq_true rfl)⟩ [] rfl rfl rfl (Up.same rfl) rfl rfl (Nat.le_of_ble_eq_true rfl) ?_
    cases h
    exact x_iret (pc := 35) X hR d_Vol_fit_35
  · skip
    refine x_aload_n (pc := 9) X d_Vol_fit_9 1 rfl rfl ?_
    refine x_iload_n (pc := 10) X d_Vol_fit_10 0 rfl rfl ?_
    obtain ⟨r11, h12, h⟩ := bnd_e h
    refine x_callV (pc := 11) (As := [.int (zi r1)]) (rest := []) (w2 := (w_Vol cI cB a0 a1 a2 a3 a4 a5 a6 a7 a8 a9 a10 a11 a12 a13 a14 a15 a16 a17 a18 a19 a20 a21 a22 a23 a24 a25 a26 a27 a28 a29 a30 a31 a32 a33 a34 a35 a36 a37 ik now nbt nki npl nva nwr nrm nrs nrz kow kbt kki kpl kva kwr krm krs krz tow tbt tki tpl tva twr trm trs trz seed smn snu rmn rnu r11.2)) X d_Vol_fit_11 lk_Vol_55 mv_Vol_refuse (c_Vol_refuse l D cI cB a0 a1 a2 a3 a4 a5 a6 a7 a8 a9 a10 a11 a12 a13 a14 a15 a16 a17 a18 a19 a20 a21 a22 a23 a24 a25 a26 a27 a28 a29 a30 a31 a32 a33 a34 a35 a36 a37 ik now nbt nki npl nva nwr nrm nrs nrz kow kbt kki kpl kva kwr krm krs krz tow tbt tki tpl tva twr trm trs trz seed smn snu rmn rnu rf r1 h12) ⟨(Nat.le_of_ble_eq_true rfl), (Nat.le_of_ble_eq_true rfl), (Nat.le_of_ble_eq_true rfl), (Nat.le_of_ble_eq_true rfl)⟩ 0 rfl rfl [0, 1, 2, 3, 4, 5, 6, 7, 8, 9, 10, 11, 12, 13, 14, 15, 16, 17, 18, 19, 20, 21, 22, 23, 24, 25, 26, 27, 28, 29, 30, 31, 32, 33, 34, 35, 36, 37] rfl rfl rfl (Up.of [] [] rfl rfl rfl 38 rfl (by decide +kernel)) rfl rfl (Nat.le_of_ble_eq_true rfl) ?_
    cases h
    exact x_iret (pc := 14) X hR d_Vol_fit_14
theorem d_Vol_nearest_0 : decode b_Vol_nearest 0 = .ok (.iload_n 1, 1) := by decide +kernel
theorem d_Vol_nearest_1 : decode b_Vol_nearest 1 = .ok (.invokestatic 181, 3) := by decide +kernel
theorem d_Vol_nearest_4 : decode b_Vol_nearest 4 = .ok (.ifCond .ne 9, 3) := by decide +kernel
theorem d_Vol_nearest_7 : decode b_Vol_nearest 7 = .ok (.aload_n 0, 1) := by decide +kernel
theorem d_Vol_nearest_8 : decode b_Vol_nearest 8 = .ok (.iconst (-1), 1) := by decide +kernel
theorem d_Vol_nearest_9 : decode b_Vol_nearest 9 = .ok (.invokevirtual 55, 3) := by decide +kernel
theorem d_Vol_nearest_12 : decode b_Vol_nearest 12 = .ok (.ireturn, 1) := by decide +kernel
theorem d_Vol_nearest_13 : decode b_Vol_nearest 13 = .ok (.iload_n 2, 1) := by decide +kernel
theorem d_Vol_nearest_14 : decode b_Vol_nearest 14 = .ok (.invokestatic 175, 3) := by decide +kernel
theorem d_Vol_nearest_17 : decode b_Vol_nearest 17 = .ok (.istore_n 3, 1) := by decide +kernel
theorem d_Vol_nearest_18 : decode b_Vol_nearest 18 = .ok (.iload_n 3, 1) := by decide +kernel
theorem d_Vol_nearest_19 : decode b_Vol_nearest 19 = .ok (.ifCond .ge 9, 3) := by decide +kernel
theorem d_Vol_nearest_22 : decode b_Vol_nearest 22 = .ok (.aload_n 0, 1) := by decide +kernel
theorem d_Vol_nearest_23 : decode b_Vol_nearest 23 = .ok (.iload_n 3, 1) := by decide +kernel
theorem d_Vol_nearest_24 : decode b_Vol_nearest 24 = .ok (.invokevirtual 55, 3) := by decide +kernel
theorem d_Vol_nearest_27 : decode b_Vol_nearest 27 = .ok (.ireturn, 1) := by decide +kernel
theorem d_Vol_nearest_28 : decode b_Vol_nearest 28 = .ok (.aload_n 0, 1) := by decide +kernel
theorem d_Vol_nearest_29 : decode b_Vol_nearest 29 = .ok (.getfield 10, 3) := by decide +kernel
theorem d_Vol_nearest_32 : decode b_Vol_nearest 32 = .ok (.invokevirtual 156, 3) := by decide +kernel
theorem d_Vol_nearest_35 : decode b_Vol_nearest 35 = .ok (.astore 4, 2) := by decide +kernel
theorem d_Vol_nearest_37 : decode b_Vol_nearest 37 = .ok (.aload 4, 2) := by decide +kernel
theorem d_Vol_nearest_39 : decode b_Vol_nearest 39 = .ok (.aload 4, 2) := by decide +kernel
theorem d_Vol_nearest_41 : decode b_Vol_nearest 41 = .ok (.iload_n 1, 1) := by decide +kernel
theorem d_Vol_nearest_42 : decode b_Vol_nearest 42 = .ok (.iload_n 2, 1) := by decide +kernel
theorem d_Vol_nearest_43 : decode b_Vol_nearest 43 = .ok (.invokevirtual 184, 3) := by decide +kernel
theorem d_Vol_nearest_46 : decode b_Vol_nearest 46 = .ok (.invokevirtual 169, 3) := by decide +kernel
theorem d_Vol_nearest_49 : decode b_Vol_nearest 49 = .ok (.invokestatic 95, 3) := by decide +kernel
theorem d_Vol_nearest_52 : decode b_Vol_nearest 52 = .ok (.ireturn, 1) := by decide +kernel
def m_Vol_nearest (x1 : Int) (x2 : Int) (now : Int → Int) (nrm : Int) (nrs : Int → Int) (nrz : Int → Int) (rf : Int → Int) : Option (Int × Int × (Int → Int) × (Int → Int) × (Int → Int)) :=
  bnd (m_Vol_isBlock x1) (fun r1 => ceq r1 0 (bnd (m_Vol_refuse (-1) rf) (fun r15 => some (r15.1, nrm, nrs, nrz, r15.2))) (bnd (m_Vol_refusalOfSize x2) (fun r3 => clt r3 0 (bnd (m_Vol_refuse r3 rf) (fun r13 => some (r13.1, nrm, nrs, nrz, r13.2))) (bnd (m_Disk_lookedAtRuns now nrm nrs nrz) (fun r5 => bnd (m_Runs_closestTo x1 x2 r5.1 r5.2.1 r5.2.2) (fun r7 => bnd (m_Runs_startAt r7 r5.1 r5.2.1) (fun r9 => bnd (m_Vol_orNothing r9) (fun r11 => some (r11, r5.1, r5.2.1, r5.2.2, rf)))))))))
set_option maxHeartbeats 4000000 in
set_option maxRecDepth 100000 in
theorem c_Vol_nearest (l : Launch) (D : va_G) (cI cB : ClassId) (a0 a1 a2 a3 a4 a5 a6 a7 a8 a9 a10 a11 a12 a13 a14 a15 a16 a17 a18 a19 a20 a21 a22 a23 a24 a25 a26 a27 a28 a29 a30 a31 a32 a33 a34 a35 a36 a37 : Nat) (ik : Int) (now : Int → Int) (nbt : Int → Int) (nki : Int → Int) (npl : Int → Int) (nva : Int → Int) (nwr : Int → Int) (nrm : Int) (nrs : Int → Int) (nrz : Int → Int) (kow : Int → Int) (kbt : Int → Int) (kki : Int → Int) (kpl : Int → Int) (kva : Int → Int) (kwr : Int → Int) (krm : Int) (krs : Int → Int) (krz : Int → Int) (tow : Int → Int) (tbt : Int → Int) (tki : Int → Int) (tpl : Int → Int) (tva : Int → Int) (twr : Int → Int) (trm : Int) (trs : Int → Int) (trz : Int → Int) (seed : Int) (smn : Int) (snu : Int → Int) (rmn : Int) (rnu : Int → Int) (rf : Int → Int) (x1 : Int) (x2 : Int) {o : Int × Int × (Int → Int) × (Int → Int) × (Int → Int)} (h : m_Vol_nearest x1 x2 now nrm nrs nrz rf = some o) : Ct l D cI cB y_Vol_nearest b_Vol_nearest 5 (some .int) { frames := 3, cells := 0, slots := 0, locals := 65 } [.ref a0, .int (zi x1), .int (zi x2)] (w_Vol cI cB a0 a1 a2 a3 a4 a5 a6 a7 a8 a9 a10 a11 a12 a13 a14 a15 a16 a17 a18 a19 a20 a21 a22 a23 a24 a25 a26 a27 a28 a29 a30 a31 a32 a33 a34 a35 a36 a37 ik now nbt nki npl nva nwr nrm nrs nrz kow kbt kki kpl kva kwr krm krs krz tow tbt tki tpl tva twr trm trs trz seed smn snu rmn rnu rf) (w_Vol cI cB a0 a1 a2 a3 a4 a5 a6 a7 a8 a9 a10 a11 a12 a13 a14 a15 a16 a17 a18 a19 a20 a21 a22 a23 a24 a25 a26 a27 a28 a29 a30 a31 a32 a33 a34 a35 a36 a37 ik now nbt nki npl nva nwr o.2.1 o.2.2.1 o.2.2.2.1 kow kbt kki kpl kva kwr krm krs krz tow tbt tki tpl tva twr trm trs trz seed smn snu rmn rnu o.2.2.2.2) (some (.int (zi o.1))) := by
  refine Ct.start (by decide) (Nat.le_of_ble_eq_true rfl) (fun G X hR => ?_)
  refine x_ls (ls2 := [(0, .ref a0), (1, .int (zi x1)), (2, .int (zi x2))]) [0, 1, 2] rfl ?_
  unfold m_Vol_nearest at h
  refine x_iload_n (pc := 0) X d_Vol_nearest_0 1 rfl rfl ?_
  obtain ⟨r1, h2, h⟩ := bnd_e h
  refine x_callS (pc := 1) (As := [.int (zi x1)]) (rest := []) (w2 := (w_Vol cI cB a0 a1 a2 a3 a4 a5 a6 a7 a8 a9 a10 a11 a12 a13 a14 a15 a16 a17 a18 a19 a20 a21 a22 a23 a24 a25 a26 a27 a28 a29 a30 a31 a32 a33 a34 a35 a36 a37 ik now nbt nki npl nva nwr nrm nrs nrz kow kbt kki kpl kva kwr krm krs krz tow tbt tki tpl tva twr trm trs trz seed smn snu rmn rnu rf)) X d_Vol_nearest_1 lk_Vol_181 mv_Vol_isBlock (c_Vol_isBlock l D cI cB x1 h2) ⟨(Nat.le_of_ble_eq_true rfl), (Nat.le_of_ble_eq_true rfl), (Nat.le_of_ble_eq_true rfl), (Nat.le_of_ble_eq_true rfl)⟩ [] rfl rfl rfl (Up.same rfl) rfl rfl (Nat.le_of_ble_eq_true rfl) ?_
  refine x_ifne (pc := 4) (tgt := 13) X d_Vol_nearest_4 rfl h (fun h => ?_) (fun h => ?_)
  · skip
    refine x_iload_n (pc := 13) X d_Vol_nearest_13 2 rfl rfl ?_
    obtain ⟨r3, h4, h⟩ := bnd_e h
    refine x_callS (pc := 14) (As := [.int (zi x2)]) (rest := []) (w2 := (w_Vol cI cB a0 a1 a2 a3 a4 a5 a6 a7 a8 a9 a10 a11 a12 a13 a14 a15 a16 a17 a18 a19 a20 a21 a22 a23 a24 a25 a26 a27 a28 a29 a30 a31 a32 a33 a34 a35 a36 a37 ik now nbt nki npl nva nwr nrm nrs nrz kow kbt kki kpl kva kwr krm krs krz tow tbt tki tpl tva twr trm trs trz seed smn snu rmn rnu rf)) X d_Vol_nearest_14 lk_Vol_175 mv_Vol_refusalOfSize (c_Vol_refusalOfSize l D cI cB x2 h4) ⟨(Nat.le_of_ble_eq_true rfl), (Nat.le_of_ble_eq_true rfl), (Nat.le_of_ble_eq_true rfl), (Nat.le_of_ble_eq_true rfl)⟩ [] rfl rfl rfl (Up.same rfl) rfl rfl (Nat.le_of_ble_eq_true rfl) ?_
    refine x_istore_n (pc := 17) (ls2 := [(3, .int (zi r3)), (0, .ref a0), (1, .int (zi x1)), (2, .int (zi x2))]) X d_Vol_nearest_17 rfl (Nat.le_of_ble_eq_true rfl) rfl ?_
    refine x_iload_n (pc := 18) X d_Vol_nearest_18 0 rfl rfl ?_
    refine x_ifge (pc := 19) (tgt := 28) X d_Vol_nearest_19 rfl h (fun h => ?_) (fun h => ?_)
    · skip
      refine x_aload_n (pc := 28) X d_Vol_nearest_28 1 rfl rfl ?_
      refine x_get (pc := 29) X d_Vol_nearest_29 0 rfl fl_Vol_10 rfl ?_
      obtain ⟨r5, h6, h⟩ := bnd_e h
      refine x_callV (pc := 32) (As := []) (rest := []) (w2 := (w_Vol cI cB a0 a1 a2 a3 a4 a5 a6 a7 a8 a9 a10 a11 a12 a13 a14 a15 a16 a17 a18 a19 a20 a21 a22 a23 a24 a25 a26 a27 a28 a29 a30 a31 a32 a33 a34 a35 a36 a37 ik now nbt nki npl nva nwr r5.1 r5.2.1 r5.2.2 kow kbt kki kpl kva kwr krm krs krz tow tbt tki tpl tva twr trm trs trz seed smn snu rmn rnu rf)) X d_Vol_nearest_32 lk_Vol_156 mv_Disk_lookedAtRuns (c_Disk_lookedAtRuns l D cI cB a1 a2 a3 a4 a5 a6 a7 a8 a9 a10 now nbt nki npl nva nwr nrm nrs nrz h6) ⟨(Nat.le_of_ble_eq_true rfl), (Nat.le_of_ble_eq_true rfl), (Nat.le_of_ble_eq_true rfl), (Nat.le_of_ble_eq_true rfl)⟩ 1 rfl rfl [1, 2, 3, 4, 5, 6, 7, 8, 9, 10] rfl rfl rfl (Up.of [0, 11, 12, 13, 14, 15, 16, 17, 18, 19, 20, 21, 22, 23, 24, 25, 26, 27, 28, 29, 30, 31, 32, 33, 34, 35, 36, 37] [(a0, .inr (5, [.ref a1, .ref a11, .ref a21, .ref a31, .ref a32, .ref a35, .ref a37, .int (zi ik)])), (a11, .inr (0, [.ref a12, .ref a13, .ref a14, .ref a15, .ref a16, .ref a17, .ref a18])), (a12, zA cI 64 kow), (a13, zA cI 64 kbt), (a14, zA cI 4 kki), (a15, zA cI 96 kpl), (a16, zA cI 96 kva), (a17, zA cB 96 kwr), (a18, .inr (3, [.ref a19, .ref a20, .int (zi krm)])), (a19, zA cI 32 krs), (a20, zA cI 32 krz), (a21, .inr (0, [.ref a22, .ref a23, .ref a24, .ref a25, .ref a26, .ref a27, .ref a28])), (a22, zA cI 64 tow), (a23, zA cI 64 tbt), (a24, zA cI 4 tki), (a25, zA cI 96 tpl), (a26, zA cI 96 tva), (a27, zA cB 96 twr), (a28, .inr (3, [.ref a29, .ref a30, .int (zi trm)])), (a29, zA cI 32 trs), (a30, zA cI 32 trz), (a31, .inr (1, [.ref a1, .ref a21, .int (zi seed)])), (a32, .inr (4, [.ref a33])), (a33, .inr (2, [.ref a34, .int (zi smn)])), (a34, zA cI 96 snu), (a35, .inr (2, [.ref a36, .int (zi rmn)])), (a36, zA cI 32 rnu), (a37, zA cI 7 rf)] rfl rfl rfl 38 rfl (by decide +kernel)) rfl rfl (Nat.le_of_ble_eq_true rfl) ?_
      refine x_astore (pc := 35) (ls2 := [(4, .ref a8), (3, .int (zi r3)), (0, .ref a0), (1, .int (zi x1)), (2, .int (zi x2))]) X d_Vol_nearest_35 (Nat.le_of_ble_eq_true rfl) rfl ?_
      refine x_aload (pc := 37) X d_Vol_nearest_37 0 rfl ?_
      refine x_aload (pc := 39) X d_Vol_nearest_39 0 rfl ?_
      refine x_iload_n (pc := 41) X d_Vol_nearest_41 3 rfl rfl ?_
      refine x_iload_n (pc := 42) X d_Vol_nearest_42 4 rfl rfl ?_
      obtain ⟨r7, h8, h⟩ := bnd_e h
      refine x_callV (pc := 43) (As := [.int (zi x1), .int (zi x2)]) (rest := [.ref a8]) (w2 := (w_Vol cI cB a0 a1 a2 a3 a4 a5 a6 a7 a8 a9 a10 a11 a12 a13 a14 a15 a16 a17 a18 a19 a20 a21 a22 a23 a24 a25 a26 a27 a28 a29 a30 a31 a32 a33 a34 a35 a36 a37 ik now nbt nki npl nva nwr r5.1 r5.2.1 r5.2.2 kow kbt kki kpl kva kwr krm krs krz tow tbt tki tpl tva twr trm trs trz seed smn snu rmn rnu rf)) X d_Vol_nearest_43 lk_Vol_184 mv_Runs_closestTo (c_Runs_closestTo l D cI cB a8 a9 a10 r5.1 r5.2.1 r5.2.2 x1 x2 h8) ⟨(Nat.le_of_ble_eq_true rfl), (Nat.le_of_ble_eq_true rfl), (Nat.le_of_ble_eq_true rfl), (Nat.le_of_ble_eq_true rfl)⟩ 8 rfl rfl [8, 9, 10] rfl rfl rfl (Up.same rfl) rfl rfl (Nat.le_of_ble_eq_true rfl) ?_
      obtain ⟨r9, h10, h⟩ := bnd_e h
      refine x_callV (pc := 46) (As := [.int (zi r7)]) (rest := []) (w2 := (w_Vol cI cB a0 a1 a2 a3 a4 a5 a6 a7 a8 a9 a10 a11 a12 a13 a14 a15 a16 a17 a18 a19 a20 a21 a22 a23 a24 a25 a26 a27 a28 a29 a30 a31 a32 a33 a34 a35 a36 a37 ik now nbt nki npl nva nwr r5.1 r5.2.1 r5.2.2 kow kbt kki kpl kva kwr krm krs krz tow tbt tki tpl tva twr trm trs trz seed smn snu rmn rnu rf)) X d_Vol_nearest_46 lk_Vol_169 mv_Runs_startAt (c_Runs_startAt l D cI cB a8 a9 a10 r5.1 r5.2.1 r5.2.2 r7 h10) ⟨(Nat.le_of_ble_eq_true rfl), (Nat.le_of_ble_eq_true rfl), (Nat.le_of_ble_eq_true rfl), (Nat.le_of_ble_eq_true rfl)⟩ 8 rfl rfl [8, 9, 10] rfl rfl rfl (Up.same rfl) rfl rfl (Nat.le_of_ble_eq_true rfl) ?_
      obtain ⟨r11, h12, h⟩ := bnd_e h
      refine x_callS (pc := 49) (As := [.int (zi r9)]) (rest := []) (w2 := (w_Vol cI cB a0 a1 a2 a3 a4 a5 a6 a7 a8 a9 a10 a11 a12 a13 a14 a15 a16 a17 a18 a19 a20 a21 a22 a23 a24 a25 a26 a27 a28 a29 a30 a31 a32 a33 a34 a35 a36 a37 ik now nbt nki npl nva nwr r5.1 r5.2.1 r5.2.2 kow kbt kki kpl kva kwr krm krs krz tow tbt tki tpl tva twr trm trs trz seed smn snu rmn rnu rf)) X d_Vol_nearest_49 lk_Vol_95 mv_Vol_orNothing (c_Vol_orNothing l D cI cB r9 h12) ⟨(Nat.le_of_ble_eq_true rfl), (Nat.le_of_ble_eq_true rfl), (Nat.le_of_ble_eq_true rfl), (Nat.le_of_ble_eq_true rfl)⟩ [] rfl rfl rfl (Up.same rfl) rfl rfl (Nat.le_of_ble_eq_true rfl) ?_
      cases h
      exact x_iret (pc := 52) X hR d_Vol_nearest_52
    · skip
      refine x_aload_n (pc := 22) X d_Vol_nearest_22 1 rfl rfl ?_
      refine x_iload_n (pc := 23) X d_Vol_nearest_23 0 rfl rfl ?_
      obtain ⟨r13, h14, h⟩ := bnd_e h
      refine x_callV (pc := 24) (As := [.int (zi r3)]) (rest := []) (w2 := (w_Vol cI cB a0 a1 a2 a3 a4 a5 a6 a7 a8 a9 a10 a11 a12 a13 a14 a15 a16 a17 a18 a19 a20 a21 a22 a23 a24 a25 a26 a27 a28 a29 a30 a31 a32 a33 a34 a35 a36 a37 ik now nbt nki npl nva nwr nrm nrs nrz kow kbt kki kpl kva kwr krm krs krz tow tbt tki tpl tva twr trm trs trz seed smn snu rmn rnu r13.2)) X d_Vol_nearest_24 lk_Vol_55 mv_Vol_refuse (c_Vol_refuse l D cI cB a0 a1 a2 a3 a4 a5 a6 a7 a8 a9 a10 a11 a12 a13 a14 a15 a16 a17 a18 a19 a20 a21 a22 a23 a24 a25 a26 a27 a28 a29 a30 a31 a32 a33 a34 a35 a36 a37 ik now nbt nki npl nva nwr nrm nrs nrz kow kbt kki kpl kva kwr krm krs krz tow tbt tki tpl tva twr trm trs trz seed smn snu rmn rnu rf r3 h14) ⟨(Nat.le_of_ble_eq_true rfl), (Nat.le_of_ble_eq_true rfl), (Nat.le_of_ble_eq_true rfl), (Nat.le_of_ble_eq_true rfl)⟩ 0 rfl rfl [0, 1, 2, 3, 4, 5, 6, 7, 8, 9, 10, 11, 12, 13, 14, 15, 16, 17, 18, 19, 20, 21, 22, 23, 24, 25, 26, 27, 28, 29, 30, 31, 32, 33, 34, 35, 36, 37] rfl rfl rfl (Up.of [] [] rfl rfl rfl 38 rfl (by decide +kernel)) rfl rfl (Nat.le_of_ble_eq_true rfl) ?_
      cases h
      exact x_iret (pc := 27) X hR d_Vol_nearest_27
  · skip
    refine x_aload_n (pc := 7) X d_Vol_nearest_7 0 rfl rfl ?_
    refine x_iconst (pc := 8) X d_Vol_nearest_8  ?_
    obtain ⟨r15, h16, h⟩ := bnd_e h
    refine x_callV (pc := 9) (As := [.int (zi (-1))]) (rest := []) (w2 := (w_Vol cI cB a0 a1 a2 a3 a4 a5 a6 a7 a8 a9 a10 a11 a12 a13 a14 a15 a16 a17 a18 a19 a20 a21 a22 a23 a24 a25 a26 a27 a28 a29 a30 a31 a32 a33 a34 a35 a36 a37 ik now nbt nki npl nva nwr nrm nrs nrz kow kbt kki kpl kva kwr krm krs krz tow tbt tki tpl tva twr trm trs trz seed smn snu rmn rnu r15.2)) X d_Vol_nearest_9 lk_Vol_55 mv_Vol_refuse (c_Vol_refuse l D cI cB a0 a1 a2 a3 a4 a5 a6 a7 a8 a9 a10 a11 a12 a13 a14 a15 a16 a17 a18 a19 a20 a21 a22 a23 a24 a25 a26 a27 a28 a29 a30 a31 a32 a33 a34 a35 a36 a37 ik now nbt nki npl nva nwr nrm nrs nrz kow kbt kki kpl kva kwr krm krs krz tow tbt tki tpl tva twr trm trs trz seed smn snu rmn rnu rf (-1) h16) ⟨(Nat.le_of_ble_eq_true rfl), (Nat.le_of_ble_eq_true rfl), (Nat.le_of_ble_eq_true rfl), (Nat.le_of_ble_eq_true rfl)⟩ 0 rfl rfl [0, 1, 2, 3, 4, 5, 6, 7, 8, 9, 10, 11, 12, 13, 14, 15, 16, 17, 18, 19, 20, 21, 22, 23, 24, 25, 26, 27, 28, 29, 30, 31, 32, 33, 34, 35, 36, 37] rfl rfl rfl (Up.of [] [] rfl rfl rfl 38 rfl (by decide +kernel)) rfl rfl (Nat.le_of_ble_eq_true rfl) ?_
    cases h
    exact x_iret (pc := 12) X hR d_Vol_nearest_12
theorem d_Vol_whose_0 : decode b_Vol_whose 0 = .ok (.iload_n 1, 1) := by decide +kernel
theorem d_Vol_whose_1 : decode b_Vol_whose 1 = .ok (.invokestatic 181, 3) := by decide +kernel
theorem d_Vol_whose_4 : decode b_Vol_whose 4 = .ok (.ifCond .ne 9, 3) := by decide +kernel
theorem d_Vol_whose_7 : decode b_Vol_whose 7 = .ok (.aload_n 0, 1) := by decide +kernel
theorem d_Vol_whose_8 : decode b_Vol_whose 8 = .ok (.iconst (-1), 1) := by decide +kernel
theorem d_Vol_whose_9 : decode b_Vol_whose 9 = .ok (.invokevirtual 55, 3) := by decide +kernel
theorem d_Vol_whose_12 : decode b_Vol_whose 12 = .ok (.ireturn, 1) := by decide +kernel
theorem d_Vol_whose_13 : decode b_Vol_whose 13 = .ok (.iload_n 2, 1) := by decide +kernel
theorem d_Vol_whose_14 : decode b_Vol_whose 14 = .ok (.invokestatic 153, 3) := by decide +kernel
theorem d_Vol_whose_17 : decode b_Vol_whose 17 = .ok (.ifCond .ne 10, 3) := by decide +kernel
theorem d_Vol_whose_20 : decode b_Vol_whose 20 = .ok (.aload_n 0, 1) := by decide +kernel
theorem d_Vol_whose_21 : decode b_Vol_whose 21 = .ok (.bipush (-2), 2) := by decide +kernel
theorem d_Vol_whose_23 : decode b_Vol_whose 23 = .ok (.invokevirtual 55, 3) := by decide +kernel
theorem d_Vol_whose_26 : decode b_Vol_whose 26 = .ok (.ireturn, 1) := by decide +kernel
theorem d_Vol_whose_27 : decode b_Vol_whose 27 = .ok (.iload_n 2, 1) := by decide +kernel
theorem d_Vol_whose_28 : decode b_Vol_whose 28 = .ok (.iconst 1, 1) := by decide +kernel
theorem d_Vol_whose_29 : decode b_Vol_whose 29 = .ok (.if_icmp .ne 12, 3) := by decide +kernel
theorem d_Vol_whose_32 : decode b_Vol_whose 32 = .ok (.aload_n 0, 1) := by decide +kernel
theorem d_Vol_whose_33 : decode b_Vol_whose 33 = .ok (.getfield 10, 3) := by decide +kernel
theorem d_Vol_whose_36 : decode b_Vol_whose 36 = .ok (.iload_n 1, 1) := by decide +kernel
theorem d_Vol_whose_37 : decode b_Vol_whose 37 = .ok (.invokevirtual 187, 3) := by decide +kernel
theorem d_Vol_whose_40 : decode b_Vol_whose 40 = .ok (.ireturn, 1) := by decide +kernel
theorem d_Vol_whose_41 : decode b_Vol_whose 41 = .ok (.aload_n 0, 1) := by decide +kernel
theorem d_Vol_whose_42 : decode b_Vol_whose 42 = .ok (.getfield 10, 3) := by decide +kernel
theorem d_Vol_whose_45 : decode b_Vol_whose 45 = .ok (.iload_n 1, 1) := by decide +kernel
theorem d_Vol_whose_46 : decode b_Vol_whose 46 = .ok (.invokevirtual 190, 3) := by decide +kernel
theorem d_Vol_whose_49 : decode b_Vol_whose 49 = .ok (.istore_n 3, 1) := by decide +kernel
theorem d_Vol_whose_50 : decode b_Vol_whose 50 = .ok (.iload_n 3, 1) := by decide +kernel
theorem d_Vol_whose_51 : decode b_Vol_whose 51 = .ok (.ifCond .ge 8, 3) := by decide +kernel
theorem d_Vol_whose_54 : decode b_Vol_whose 54 = .ok (.bipush (-9), 2) := by decide +kernel
theorem d_Vol_whose_56 : decode b_Vol_whose 56 = .ok (.goto 15, 3) := by decide +kernel
theorem d_Vol_whose_59 : decode b_Vol_whose 59 = .ok (.bipush 100, 2) := by decide +kernel
theorem d_Vol_whose_61 : decode b_Vol_whose 61 = .ok (.iload_n 3, 1) := by decide +kernel
theorem d_Vol_whose_62 : decode b_Vol_whose 62 = .ok (.bipush 24, 2) := by decide +kernel
theorem d_Vol_whose_64 : decode b_Vol_whose 64 = .ok (.idiv, 1) := by decide +kernel
theorem d_Vol_whose_65 : decode b_Vol_whose 65 = .ok (.imul, 1) := by decide +kernel
theorem d_Vol_whose_66 : decode b_Vol_whose 66 = .ok (.iload_n 3, 1) := by decide +kernel
theorem d_Vol_whose_67 : decode b_Vol_whose 67 = .ok (.bipush 24, 2) := by decide +kernel
theorem d_Vol_whose_69 : decode b_Vol_whose 69 = .ok (.irem, 1) := by decide +kernel
theorem d_Vol_whose_70 : decode b_Vol_whose 70 = .ok (.iadd, 1) := by decide +kernel
theorem d_Vol_whose_71 : decode b_Vol_whose 71 = .ok (.ireturn, 1) := by decide +kernel
def m_Vol_whose (x1 : Int) (x2 : Int) (now : Int → Int) (nbt : Int → Int) (rf : Int → Int) : Option (Int × (Int → Int)) :=
  bnd (m_Vol_isBlock x1) (fun r1 => ceq r1 0 (bnd (m_Vol_refuse (-1) rf) (fun r11 => some (r11.1, r11.2))) (bnd (m_Vol_isEither x2) (fun r3 => ceq r3 0 (bnd (m_Vol_refuse (-2) rf) (fun r9 => some (r9.1, r9.2))) (ceq x2 1 (bnd (m_Disk_byteAt x1 nbt) (fun r7 => some (r7, rf))) (bnd (m_Disk_ownerAt x1 now) (fun r5 => clt r5 0 (some ((-9), rf)) (gd (zx r5 2147483648 ∧ zp 24 2147483648) (gd (zx r5 2147483648 ∧ zp 24 2147483648) (some (((100 * (r5 / 24)) + (r5 % 24)), rf))))))))))
set_option maxHeartbeats 4000000 in
set_option maxRecDepth 100000 in
theorem c_Vol_whose (l : Launch) (D : va_G) (cI cB : ClassId) (a0 a1 a2 a3 a4 a5 a6 a7 a8 a9 a10 a11 a12 a13 a14 a15 a16 a17 a18 a19 a20 a21 a22 a23 a24 a25 a26 a27 a28 a29 a30 a31 a32 a33 a34 a35 a36 a37 : Nat) (ik : Int) (now : Int → Int) (nbt : Int → Int) (nki : Int → Int) (npl : Int → Int) (nva : Int → Int) (nwr : Int → Int) (nrm : Int) (nrs : Int → Int) (nrz : Int → Int) (kow : Int → Int) (kbt : Int → Int) (kki : Int → Int) (kpl : Int → Int) (kva : Int → Int) (kwr : Int → Int) (krm : Int) (krs : Int → Int) (krz : Int → Int) (tow : Int → Int) (tbt : Int → Int) (tki : Int → Int) (tpl : Int → Int) (tva : Int → Int) (twr : Int → Int) (trm : Int) (trs : Int → Int) (trz : Int → Int) (seed : Int) (smn : Int) (snu : Int → Int) (rmn : Int) (rnu : Int → Int) (rf : Int → Int) (x1 : Int) (x2 : Int) {o : Int × (Int → Int)} (h : m_Vol_whose x1 x2 now nbt rf = some o) : Ct l D cI cB y_Vol_whose b_Vol_whose 4 (some .int) { frames := 1, cells := 0, slots := 0, locals := 22 } [.ref a0, .int (zi x1), .int (zi x2)] (w_Vol cI cB a0 a1 a2 a3 a4 a5 a6 a7 a8 a9 a10 a11 a12 a13 a14 a15 a16 a17 a18 a19 a20 a21 a22 a23 a24 a25 a26 a27 a28 a29 a30 a31 a32 a33 a34 a35 a36 a37 ik now nbt nki npl nva nwr nrm nrs nrz kow kbt kki kpl kva kwr krm krs krz tow tbt tki tpl tva twr trm trs trz seed smn snu rmn rnu rf) (w_Vol cI cB a0 a1 a2 a3 a4 a5 a6 a7 a8 a9 a10 a11 a12 a13 a14 a15 a16 a17 a18 a19 a20 a21 a22 a23 a24 a25 a26 a27 a28 a29 a30 a31 a32 a33 a34 a35 a36 a37 ik now nbt nki npl nva nwr nrm nrs nrz kow kbt kki kpl kva kwr krm krs krz tow tbt tki tpl tva twr trm trs trz seed smn snu rmn rnu o.2) (some (.int (zi o.1))) := by
  refine Ct.start (by decide) (Nat.le_of_ble_eq_true rfl) (fun G X hR => ?_)
  refine x_ls (ls2 := [(0, .ref a0), (1, .int (zi x1)), (2, .int (zi x2))]) [0, 1, 2] rfl ?_
  unfold m_Vol_whose at h
  refine x_iload_n (pc := 0) X d_Vol_whose_0 1 rfl rfl ?_
  obtain ⟨r1, h2, h⟩ := bnd_e h
  refine x_callS (pc := 1) (As := [.int (zi x1)]) (rest := []) (w2 := (w_Vol cI cB a0 a1 a2 a3 a4 a5 a6 a7 a8 a9 a10 a11 a12 a13 a14 a15 a16 a17 a18 a19 a20 a21 a22 a23 a24 a25 a26 a27 a28 a29 a30 a31 a32 a33 a34 a35 a36 a37 ik now nbt nki npl nva nwr nrm nrs nrz kow kbt kki kpl kva kwr krm krs krz tow tbt tki tpl tva twr trm trs trz seed smn snu rmn rnu rf)) X d_Vol_whose_1 lk_Vol_181 mv_Vol_isBlock (c_Vol_isBlock l D cI cB x1 h2) ⟨(Nat.le_of_ble_eq_true rfl), (Nat.le_of_ble_eq_true rfl), (Nat.le_of_ble_eq_true rfl), (Nat.le_of_ble_eq_true rfl)⟩ [] rfl rfl rfl (Up.same rfl) rfl rfl (Nat.le_of_ble_eq_true rfl) ?_
  refine x_ifne (pc := 4) (tgt := 13) X d_Vol_whose_4 rfl h (fun h => ?_) (fun h => ?_)
  · skip
    refine x_iload_n (pc := 13) X d_Vol_whose_13 2 rfl rfl ?_
    obtain ⟨r3, h4, h⟩ := bnd_e h
    refine x_callS (pc := 14) (As := [.int (zi x2)]) (rest := []) (w2 := (w_Vol cI cB a0 a1 a2 a3 a4 a5 a6 a7 a8 a9 a10 a11 a12 a13 a14 a15 a16 a17 a18 a19 a20 a21 a22 a23 a24 a25 a26 a27 a28 a29 a30 a31 a32 a33 a34 a35 a36 a37 ik now nbt nki npl nva nwr nrm nrs nrz kow kbt kki kpl kva kwr krm krs krz tow tbt tki tpl tva twr trm trs trz seed smn snu rmn rnu rf)) X d_Vol_whose_14 lk_Vol_153 mv_Vol_isEither (c_Vol_isEither l D cI cB x2 h4) ⟨(Nat.le_of_ble_eq_true rfl), (Nat.le_of_ble_eq_true rfl), (Nat.le_of_ble_eq_true rfl), (Nat.le_of_ble_eq_true rfl)⟩ [] rfl rfl rfl (Up.same rfl) rfl rfl (Nat.le_of_ble_eq_true rfl) ?_
    refine x_ifne (pc := 17) (tgt := 27) X d_Vol_whose_17 rfl h (fun h => ?_) (fun h => ?_)
    · skip
      refine x_iload_n (pc := 27) X d_Vol_whose_27 2 rfl rfl ?_
      refine x_iconst (pc := 28) X d_Vol_whose_28  ?_
      refine x_icmpne (pc := 29) (tgt := 41) X d_Vol_whose_29 rfl h (fun h => ?_) (fun h => ?_)
      · skip
        refine x_aload_n (pc := 41) X d_Vol_whose_41 0 rfl rfl ?_
        refine x_get (pc := 42) X d_Vol_whose_42 0 rfl fl_Vol_10 rfl ?_
        refine x_iload_n (pc := 45) X d_Vol_whose_45 1 rfl rfl ?_
        obtain ⟨r5, h6, h⟩ := bnd_e h
        refine x_callV (pc := 46) (As := [.int (zi x1)]) (rest := []) (w2 := (w_Vol cI cB a0 a1 a2 a3 a4 a5 a6 a7 a8 a9 a10 a11 a12 a13 a14 a15 a16 a17 a18 a19 a20 a21 a22 a23 a24 a25 a26 a27 a28 a29 a30 a31 a32 a33 a34 a35 a36 a37 ik now nbt nki npl nva nwr nrm nrs nrz kow kbt kki kpl kva kwr krm krs krz tow tbt tki tpl tva twr trm trs trz seed smn snu rmn rnu rf)) X d_Vol_whose_46 lk_Vol_190 mv_Disk_ownerAt (c_Disk_ownerAt l D cI cB a1 a2 a3 a4 a5 a6 a7 a8 a9 a10 now nbt nki npl nva nwr nrm nrs nrz x1 h6) ⟨(Nat.le_of_ble_eq_true rfl), (Nat.le_of_ble_eq_true rfl), (Nat.le_of_ble_eq_true rfl), (Nat.le_of_ble_eq_true rfl)⟩ 1 rfl rfl [1, 2, 3, 4, 5, 6, 7, 8, 9, 10] rfl rfl rfl (Up.same rfl) rfl rfl (Nat.le_of_ble_eq_true rfl) ?_
        refine x_istore_n (pc := 49) (ls2 := [(3, .int (zi r5)), (0, .ref a0), (1, .int (zi x1)), (2, .int (zi x2))]) X d_Vol_whose_49 rfl (Nat.le_of_ble_eq_true rfl) rfl ?_
        refine x_iload_n (pc := 50) X d_Vol_whose_50 0 rfl rfl ?_
        refine x_ifge (pc := 51) (tgt := 59) X d_Vol_whose_51 rfl h (fun h => ?_) (fun h => ?_)
        · skip
          refine x_bipush (pc := 59) (v := 100) X d_Vol_whose_59 rfl ?_
          refine x_iload_n (pc := 61) X d_Vol_whose_61 0 rfl rfl ?_
          refine x_bipush (pc := 62) (v := 24) X d_Vol_whose_62 rfl ?_
          refine x_idiv (pc := 64) X d_Vol_whose_64 h (fun h => ?_)
          refine x_imul (pc := 65) X d_Vol_whose_65  ?_
          refine x_iload_n (pc := 66) X d_Vol_whose_66 0 rfl rfl ?_
          refine x_bipush (pc := 67) (v := 24) X d_Vol_whose_67 rfl ?_
          refine x_irem (pc := 69) X d_Vol_whose_69 h (fun h => ?_)
          refine x_iadd (pc := 70) X d_Vol_whose_70  ?_
          cases h
          exact x_iret (pc := 71) X hR d_Vol_whose_71
        · skip
          refine x_bipush (pc := 54) (v := -9) X d_Vol_whose_54 rfl ?_
          refine x_goto (pc := 56) (tgt := 71) X d_Vol_whose_56 rfl ?_
          cases h
          exact x_iret (pc := 71) X hR d_Vol_whose_71
      · skip
        refine x_aload_n (pc := 32) X d_Vol_whose_32 0 rfl rfl ?_
        refine x_get (pc := 33) X d_Vol_whose_33 0 rfl fl_Vol_10 rfl ?_
        refine x_iload_n (pc := 36) X d_Vol_whose_36 1 rfl rfl ?_
        obtain ⟨r7, h8, h⟩ := bnd_e h
        refine x_callV (pc := 37) (As := [.int (zi x1)]) (rest := []) (w2 := (w_Vol cI cB a0 a1 a2 a3 a4 a5 a6 a7 a8 a9 a10 a11 a12 a13 a14 a15 a16 a17 a18 a19 a20 a21 a22 a23 a24 a25 a26 a27 a28 a29 a30 a31 a32 a33 a34 a35 a36 a37 ik now nbt nki npl nva nwr nrm nrs nrz kow kbt kki kpl kva kwr krm krs krz tow tbt tki tpl tva twr trm trs trz seed smn snu rmn rnu rf)) X d_Vol_whose_37 lk_Vol_187 mv_Disk_byteAt (c_Disk_byteAt l D cI cB a1 a2 a3 a4 a5 a6 a7 a8 a9 a10 now nbt nki npl nva nwr nrm nrs nrz x1 h8) ⟨(Nat.le_of_ble_eq_true rfl), (Nat.le_of_ble_eq_true rfl), (Nat.le_of_ble_eq_true rfl), (Nat.le_of_ble_eq_true rfl)⟩ 1 rfl rfl [1, 2, 3, 4, 5, 6, 7, 8, 9, 10] rfl rfl rfl (Up.same rfl) rfl rfl (Nat.le_of_ble_eq_true rfl) ?_
        cases h
        exact x_iret (pc := 40) X hR d_Vol_whose_40
    · skip
      refine x_aload_n (pc := 20) X d_Vol_whose_20 0 rfl rfl ?_
      refine x_bipush (pc := 21) (v := -2) X d_Vol_whose_21 rfl ?_
      obtain ⟨r9, h10, h⟩ := bnd_e h
      refine x_callV (pc := 23) (As := [.int (zi (-2))]) (rest := []) (w2 := (w_Vol cI cB a0 a1 a2 a3 a4 a5 a6 a7 a8 a9 a10 a11 a12 a13 a14 a15 a16 a17 a18 a19 a20 a21 a22 a23 a24 a25 a26 a27 a28 a29 a30 a31 a32 a33 a34 a35 a36 a37 ik now nbt nki npl nva nwr nrm nrs nrz kow kbt kki kpl kva kwr krm krs krz tow tbt tki tpl tva twr trm trs trz seed smn snu rmn rnu r9.2)) X d_Vol_whose_23 lk_Vol_55 mv_Vol_refuse (c_Vol_refuse l D cI cB a0 a1 a2 a3 a4 a5 a6 a7 a8 a9 a10 a11 a12 a13 a14 a15 a16 a17 a18 a19 a20 a21 a22 a23 a24 a25 a26 a27 a28 a29 a30 a31 a32 a33 a34 a35 a36 a37 ik now nbt nki npl nva nwr nrm nrs nrz kow kbt kki kpl kva kwr krm krs krz tow tbt tki tpl tva twr trm trs trz seed smn snu rmn rnu rf (-2) h10) ⟨(Nat.le_of_ble_eq_true rfl), (Nat.le_of_ble_eq_true rfl), (Nat.le_of_ble_eq_true rfl), (Nat.le_of_ble_eq_true rfl)⟩ 0 rfl rfl [0, 1, 2, 3, 4, 5, 6, 7, 8, 9, 10, 11, 12, 13, 14, 15, 16, 17, 18, 19, 20, 21, 22, 23, 24, 25, 26, 27, 28, 29, 30, 31, 32, 33, 34, 35, 36, 37] rfl rfl rfl (Up.of [] [] rfl rfl rfl 38 rfl (by decide +kernel)) rfl rfl (Nat.le_of_ble_eq_true rfl) ?_
      cases h
      exact x_iret (pc := 26) X hR d_Vol_whose_26
  · skip
    refine x_aload_n (pc := 7) X d_Vol_whose_7 0 rfl rfl ?_
    refine x_iconst (pc := 8) X d_Vol_whose_8  ?_
    obtain ⟨r11, h12, h⟩ := bnd_e h
    refine x_callV (pc := 9) (As := [.int (zi (-1))]) (rest := []) (w2 := (w_Vol cI cB a0 a1 a2 a3 a4 a5 a6 a7 a8 a9 a10 a11 a12 a13 a14 a15 a16 a17 a18 a19 a20 a21 a22 a23 a24 a25 a26 a27 a28 a29 a30 a31 a32 a33 a34 a35 a36 a37 ik now nbt nki npl nva nwr nrm nrs nrz kow kbt kki kpl kva kwr krm krs krz tow tbt tki tpl tva twr trm trs trz seed smn snu rmn rnu r11.2)) X d_Vol_whose_9 lk_Vol_55 mv_Vol_refuse (c_Vol_refuse l D cI cB a0 a1 a2 a3 a4 a5 a6 a7 a8 a9 a10 a11 a12 a13 a14 a15 a16 a17 a18 a19 a20 a21 a22 a23 a24 a25 a26 a27 a28 a29 a30 a31 a32 a33 a34 a35 a36 a37 ik now nbt nki npl nva nwr nrm nrs nrz kow kbt kki kpl kva kwr krm krs krz tow tbt tki tpl tva twr trm trs trz seed smn snu rmn rnu rf (-1) h12) ⟨(Nat.le_of_ble_eq_true rfl), (Nat.le_of_ble_eq_true rfl), (Nat.le_of_ble_eq_true rfl), (Nat.le_of_ble_eq_true rfl)⟩ 0 rfl rfl [0, 1, 2, 3, 4, 5, 6, 7, 8, 9, 10, 11, 12, 13, 14, 15, 16, 17, 18, 19, 20, 21, 22, 23, 24, 25, 26, 27, 28, 29, 30, 31, 32, 33, 34, 35, 36, 37] rfl rfl rfl (Up.of [] [] rfl rfl rfl 38 rfl (by decide +kernel)) rfl rfl (Nat.le_of_ble_eq_true rfl) ?_
    cases h
    exact x_iret (pc := 12) X hR d_Vol_whose_12
theorem d_Vol_stale_0 : decode b_Vol_stale 0 = .ok (.iload_n 1, 1) := by decide +kernel
theorem d_Vol_stale_1 : decode b_Vol_stale 1 = .ok (.invokestatic 153, 3) := by decide +kernel
theorem d_Vol_stale_4 : decode b_Vol_stale 4 = .ok (.ifCond .ne 10, 3) := by decide +kernel
theorem d_Vol_stale_7 : decode b_Vol_stale 7 = .ok (.aload_n 0, 1) := by decide +kernel
theorem d_Vol_stale_8 : decode b_Vol_stale 8 = .ok (.bipush (-2), 2) := by decide +kernel
theorem d_Vol_stale_10 : decode b_Vol_stale 10 = .ok (.invokevirtual 55, 3) := by decide +kernel
theorem d_Vol_stale_13 : decode b_Vol_stale 13 = .ok (.ireturn, 1) := by decide +kernel
theorem d_Vol_stale_14 : decode b_Vol_stale 14 = .ok (.aload_n 0, 1) := by decide +kernel
theorem d_Vol_stale_15 : decode b_Vol_stale 15 = .ok (.getfield 10, 3) := by decide +kernel
theorem d_Vol_stale_18 : decode b_Vol_stale 18 = .ok (.iload_n 1, 1) := by decide +kernel
theorem d_Vol_stale_19 : decode b_Vol_stale 19 = .ok (.ifCond .ne 7, 3) := by decide +kernel
theorem d_Vol_stale_22 : decode b_Vol_stale 22 = .ok (.iconst 1, 1) := by decide +kernel
theorem d_Vol_stale_23 : decode b_Vol_stale 23 = .ok (.goto 4, 3) := by decide +kernel
theorem d_Vol_stale_26 : decode b_Vol_stale 26 = .ok (.iconst 0, 1) := by decide +kernel
theorem d_Vol_stale_27 : decode b_Vol_stale 27 = .ok (.invokevirtual 193, 3) := by decide +kernel
theorem d_Vol_stale_30 : decode b_Vol_stale 30 = .ok (.ireturn, 1) := by decide +kernel
def m_Vol_stale (x1 : Int) (now : Int → Int) (nbt : Int → Int) (nwr : Int → Int) (rf : Int → Int) : Option (Int × (Int → Int)) :=
  bnd (m_Vol_isEither x1) (fun r1 => ceq r1 0 (bnd (m_Vol_refuse (-2) rf) (fun r10 => some (r10.1, r10.2))) (jn (fun (z4 : Int) (c5 : Int → Int) => bnd (m_Disk_staleBlocks z4 now nbt nwr) (fun r6 => some (r6, c5))) (fun j3 => ceq x1 0 (j3 1 rf) (j3 0 rf))))
set_option maxHeartbeats 4000000 in
set_option maxRecDepth 100000 in
theorem c_Vol_stale (l : Launch) (D : va_G) (cI cB : ClassId) (a0 a1 a2 a3 a4 a5 a6 a7 a8 a9 a10 a11 a12 a13 a14 a15 a16 a17 a18 a19 a20 a21 a22 a23 a24 a25 a26 a27 a28 a29 a30 a31 a32 a33 a34 a35 a36 a37 : Nat) (ik : Int) (now : Int → Int) (nbt : Int → Int) (nki : Int → Int) (npl : Int → Int) (nva : Int → Int) (nwr : Int → Int) (nrm : Int) (nrs : Int → Int) (nrz : Int → Int) (kow : Int → Int) (kbt : Int → Int) (kki : Int → Int) (kpl : Int → Int) (kva : Int → Int) (kwr : Int → Int) (krm : Int) (krs : Int → Int) (krz : Int → Int) (tow : Int → Int) (tbt : Int → Int) (tki : Int → Int) (tpl : Int → Int) (tva : Int → Int) (twr : Int → Int) (trm : Int) (trs : Int → Int) (trz : Int → Int) (seed : Int) (smn : Int) (snu : Int → Int) (rmn : Int) (rnu : Int → Int) (rf : Int → Int) (x1 : Int) {o : Int × (Int → Int)} (h : m_Vol_stale x1 now nbt nwr rf = some o) : Ct l D cI cB y_Vol_stale b_Vol_stale 2 (some .int) { frames := 2, cells := 0, slots := 0, locals := 48 } [.ref a0, .int (zi x1)] (w_Vol cI cB a0 a1 a2 a3 a4 a5 a6 a7 a8 a9 a10 a11 a12 a13 a14 a15 a16 a17 a18 a19 a20 a21 a22 a23 a24 a25 a26 a27 a28 a29 a30 a31 a32 a33 a34 a35 a36 a37 ik now nbt nki npl nva nwr nrm nrs nrz kow kbt kki kpl kva kwr krm krs krz tow tbt tki tpl tva twr trm trs trz seed smn snu rmn rnu rf) (w_Vol cI cB a0 a1 a2 a3 a4 a5 a6 a7 a8 a9 a10 a11 a12 a13 a14 a15 a16 a17 a18 a19 a20 a21 a22 a23 a24 a25 a26 a27 a28 a29 a30 a31 a32 a33 a34 a35 a36 a37 ik now nbt nki npl nva nwr nrm nrs nrz kow kbt kki kpl kva kwr krm krs krz tow tbt tki tpl tva twr trm trs trz seed smn snu rmn rnu o.2) (some (.int (zi o.1))) := by
  refine Ct.start (by decide) (Nat.le_of_ble_eq_true rfl) (fun G X hR => ?_)
  refine x_ls (ls2 := [(0, .ref a0), (1, .int (zi x1))]) [0, 1] rfl ?_
  unfold m_Vol_stale at h
  refine x_iload_n (pc := 0) X d_Vol_stale_0 1 rfl rfl ?_
  obtain ⟨r1, h2, h⟩ := bnd_e h
  refine x_callS (pc := 1) (As := [.int (zi x1)]) (rest := []) (w2 := (w_Vol cI cB a0 a1 a2 a3 a4 a5 a6 a7 a8 a9 a10 a11 a12 a13 a14 a15 a16 a17 a18 a19 a20 a21 a22 a23 a24 a25 a26 a27 a28 a29 a30 a31 a32 a33 a34 a35 a36 a37 ik now nbt nki npl nva nwr nrm nrs nrz kow kbt kki kpl kva kwr krm krs krz tow tbt tki tpl tva twr trm trs trz seed smn snu rmn rnu rf)) X d_Vol_stale_1 lk_Vol_153 mv_Vol_isEither (c_Vol_isEither l D cI cB x1 h2) ⟨(Nat.le_of_ble_eq_true rfl), (Nat.le_of_ble_eq_true rfl), (Nat.le_of_ble_eq_true rfl), (Nat.le_of_ble_eq_true rfl)⟩ [] rfl rfl rfl (Up.same rfl) rfl rfl (Nat.le_of_ble_eq_true rfl) ?_
  refine x_ifne (pc := 4) (tgt := 14) X d_Vol_stale_4 rfl h (fun h => ?_) (fun h => ?_)
  · skip
    refine x_aload_n (pc := 14) X d_Vol_stale_14 0 rfl rfl ?_
    refine x_get (pc := 15) X d_Vol_stale_15 0 rfl fl_Vol_10 rfl ?_
    refine x_iload_n (pc := 18) X d_Vol_stale_18 1 rfl rfl ?_
    obtain ⟨j3, hj8, h⟩ := jn_e h
    have J9 : ∀ (z4 : Int) (c5 : Int → Int), j3 z4 c5 = some o → Wx G 0 0 27 [] [.int (zi z4), .ref a1] (w_Vol cI cB a0 a1 a2 a3 a4 a5 a6 a7 a8 a9 a10 a11 a12 a13 a14 a15 a16 a17 a18 a19 a20 a21 a22 a23 a24 a25 a26 a27 a28 a29 a30 a31 a32 a33 a34 a35 a36 a37 ik now nbt nki npl nva nwr nrm nrs nrz kow kbt kki kpl kva kwr krm krs krz tow tbt tki tpl tva twr trm trs trz seed smn snu rmn rnu c5) := by
      intro z4 c5 h
      rw [hj8] at h
      (try dsimp only at h)
      obtain ⟨r6, h7, h⟩ := bnd_e h
      refine x_callV (pc := 27) (As := [.int (zi z4)]) (rest := []) (w2 := (w_Vol cI cB a0 a1 a2 a3 a4 a5 a6 a7 a8 a9 a10 a11 a12 a13 a14 a15 a16 a17 a18 a19 a20 a21 a22 a23 a24 a25 a26 a27 a28 a29 a30 a31 a32 a33 a34 a35 a36 a37 ik now nbt nki npl nva nwr nrm nrs nrz kow kbt kki kpl kva kwr krm krs krz tow tbt tki tpl tva twr trm trs trz seed smn snu rmn rnu c5)) X d_Vol_stale_27 lk_Vol_193 mv_Disk_staleBlocks (c_Disk_staleBlocks l D cI cB a1 a2 a3 a4 a5 a6 a7 a8 a9 a10 now nbt nki npl nva nwr nrm nrs nrz z4 h7) ⟨(Nat.le_of_ble_eq_true rfl), (Nat.le_of_ble_eq_true rfl), (Nat.le_of_ble_eq_true rfl), (Nat.le_of_ble_eq_true rfl)⟩ 1 rfl rfl [1, 2, 3, 4, 5, 6, 7, 8, 9, 10] rfl rfl rfl (Up.same rfl) rfl rfl (Nat.le_of_ble_eq_true rfl) ?_
      cases h
      exact x_iret (pc := 30) X hR d_Vol_stale_30
    clear hj8
    refine x_ifne (pc := 19) (tgt := 26) X d_Vol_stale_19 rfl h (fun h => ?_) (fun h => ?_)
    · skip
      refine x_iconst (pc := 26) X d_Vol_stale_26  ?_
      refine x_ls (ls2 := []) [] rfl ?_
      exact J9 0 rf h
    · skip
      refine x_iconst (pc := 22) X d_Vol_stale_22  ?_
      refine x_goto (pc := 23) (tgt := 27) X d_Vol_stale_23 rfl ?_
      refine x_ls (ls2 := []) [] rfl ?_
      exact J9 1 rf h
  · skip
    refine x_aload_n (pc := 7) X d_Vol_stale_7 0 rfl rfl ?_
    refine x_bipush (pc := 8) (v := -2) X d_Vol_stale_8 rfl ?_
    obtain ⟨r10, h11, h⟩ := bnd_e h
    refine x_callV (pc := 10) (As := [.int (zi (-2))]) (rest := []) (w2 := (w_Vol cI cB a0 a1 a2 a3 a4 a5 a6 a7 a8 a9 a10 a11 a12 a13 a14 a15 a16 a17 a18 a19 a20 a21 a22 a23 a24 a25 a26 a27 a28 a29 a30 a31 a32 a33 a34 a35 a36 a37 ik now nbt nki npl nva nwr nrm nrs nrz kow kbt kki kpl kva kwr krm krs krz tow tbt tki tpl tva twr trm trs trz seed smn snu rmn rnu r10.2)) X d_Vol_stale_10 lk_Vol_55 mv_Vol_refuse (c_Vol_refuse l D cI cB a0 a1 a2 a3 a4 a5 a6 a7 a8 a9 a10 a11 a12 a13 a14 a15 a16 a17 a18 a19 a20 a21 a22 a23 a24 a25 a26 a27 a28 a29 a30 a31 a32 a33 a34 a35 a36 a37 ik now nbt nki npl nva nwr nrm nrs nrz kow kbt kki kpl kva kwr krm krs krz tow tbt tki tpl tva twr trm trs trz seed smn snu rmn rnu rf (-2) h11) ⟨(Nat.le_of_ble_eq_true rfl), (Nat.le_of_ble_eq_true rfl), (Nat.le_of_ble_eq_true rfl), (Nat.le_of_ble_eq_true rfl)⟩ 0 rfl rfl [0, 1, 2, 3, 4, 5, 6, 7, 8, 9, 10, 11, 12, 13, 14, 15, 16, 17, 18, 19, 20, 21, 22, 23, 24, 25, 26, 27, 28, 29, 30, 31, 32, 33, 34, 35, 36, 37] rfl rfl rfl (Up.of [] [] rfl rfl rfl 38 rfl (by decide +kernel)) rfl rfl (Nat.le_of_ble_eq_true rfl) ?_
    cases h
    exact x_iret (pc := 13) X hR d_Vol_stale_13
theorem d_Vol_scatter_0 : decode b_Vol_scatter 0 = .ok (.iload_n 1, 1) := by decide +kernel
theorem d_Vol_scatter_1 : decode b_Vol_scatter 1 = .ok (.invokestatic 84, 3) := by decide +kernel
theorem d_Vol_scatter_4 : decode b_Vol_scatter 4 = .ok (.ifCond .ne 9, 3) := by decide +kernel
theorem d_Vol_scatter_7 : decode b_Vol_scatter 7 = .ok (.aload_n 0, 1) := by decide +kernel
theorem d_Vol_scatter_8 : decode b_Vol_scatter 8 = .ok (.iconst (-1), 1) := by decide +kernel
theorem d_Vol_scatter_9 : decode b_Vol_scatter 9 = .ok (.invokevirtual 55, 3) := by decide +kernel
theorem d_Vol_scatter_12 : decode b_Vol_scatter 12 = .ok (.ireturn, 1) := by decide +kernel
theorem d_Vol_scatter_13 : decode b_Vol_scatter 13 = .ok (.aload_n 0, 1) := by decide +kernel
theorem d_Vol_scatter_14 : decode b_Vol_scatter 14 = .ok (.getfield 27, 3) := by decide +kernel
theorem d_Vol_scatter_17 : decode b_Vol_scatter 17 = .ok (.iload_n 1, 1) := by decide +kernel
theorem d_Vol_scatter_18 : decode b_Vol_scatter 18 = .ok (.aload_n 0, 1) := by decide +kernel
theorem d_Vol_scatter_19 : decode b_Vol_scatter 19 = .ok (.getfield 10, 3) := by decide +kernel
theorem d_Vol_scatter_22 : decode b_Vol_scatter 22 = .ok (.iload_n 1, 1) := by decide +kernel
theorem d_Vol_scatter_23 : decode b_Vol_scatter 23 = .ok (.invokevirtual 105, 3) := by decide +kernel
theorem d_Vol_scatter_26 : decode b_Vol_scatter 26 = .ok (.invokevirtual 197, 3) := by decide +kernel
theorem d_Vol_scatter_29 : decode b_Vol_scatter 29 = .ok (.ireturn, 1) := by decide +kernel
def m_Vol_scatter (x1 : Int) (now : Int → Int) (nbt : Int → Int) (nki : Int → Int) (npl : Int → Int) (nva : Int → Int) (nwr : Int → Int) (tow : Int → Int) (tbt : Int → Int) (tki : Int → Int) (tpl : Int → Int) (tva : Int → Int) (twr : Int → Int) (trm : Int) (trs : Int → Int) (trz : Int → Int) (rf : Int → Int) : Option (Int × (Int → Int) × (Int → Int) × (Int → Int) × (Int → Int) × (Int → Int) × (Int → Int) × Int × (Int → Int) × (Int → Int) × (Int → Int)) :=
  bnd (m_Vol_isFile x1) (fun r1 => ceq r1 0 (bnd (m_Vol_refuse (-1) rf) (fun r7 => some (r7.1, tow, tbt, tki, tpl, tva, twr, trm, trs, trz, r7.2))) (bnd (m_Disk_kindAt x1 nki) (fun r3 => bnd (m_Mind_extentsByKind x1 r3 now nbt nki npl nva nwr tow tbt tki tpl tva twr trm trs trz) (fun r5 => some (r5.1, r5.2.1, r5.2.2.1, r5.2.2.2.1, r5.2.2.2.2.1, r5.2.2.2.2.2.1, r5.2.2.2.2.2.2.1, r5.2.2.2.2.2.2.2.1, r5.2.2.2.2.2.2.2.2.1, r5.2.2.2.2.2.2.2.2.2, rf)))))
set_option maxHeartbeats 4000000 in
set_option maxRecDepth 100000 in
theorem c_Vol_scatter (l : Launch) (D : va_G) (cI cB : ClassId) (a0 a1 a2 a3 a4 a5 a6 a7 a8 a9 a10 a11 a12 a13 a14 a15 a16 a17 a18 a19 a20 a21 a22 a23 a24 a25 a26 a27 a28 a29 a30 a31 a32 a33 a34 a35 a36 a37 : Nat) (ik : Int) (now : Int → Int) (nbt : Int → Int) (nki : Int → Int) (npl : Int → Int) (nva : Int → Int) (nwr : Int → Int) (nrm : Int) (nrs : Int → Int) (nrz : Int → Int) (kow : Int → Int) (kbt : Int → Int) (kki : Int → Int) (kpl : Int → Int) (kva : Int → Int) (kwr : Int → Int) (krm : Int) (krs : Int → Int) (krz : Int → Int) (tow : Int → Int) (tbt : Int → Int) (tki : Int → Int) (tpl : Int → Int) (tva : Int → Int) (twr : Int → Int) (trm : Int) (trs : Int → Int) (trz : Int → Int) (seed : Int) (smn : Int) (snu : Int → Int) (rmn : Int) (rnu : Int → Int) (rf : Int → Int) (x1 : Int) {o : Int × (Int → Int) × (Int → Int) × (Int → Int) × (Int → Int) × (Int → Int) × (Int → Int) × Int × (Int → Int) × (Int → Int) × (Int → Int)} (h : m_Vol_scatter x1 now nbt nki npl nva nwr tow tbt tki tpl tva twr trm trs trz rf = some o) : Ct l D cI cB y_Vol_scatter b_Vol_scatter 2 (some .int) { frames := 6, cells := 0, slots := 0, locals := 147 } [.ref a0, .int (zi x1)] (w_Vol cI cB a0 a1 a2 a3 a4 a5 a6 a7 a8 a9 a10 a11 a12 a13 a14 a15 a16 a17 a18 a19 a20 a21 a22 a23 a24 a25 a26 a27 a28 a29 a30 a31 a32 a33 a34 a35 a36 a37 ik now nbt nki npl nva nwr nrm nrs nrz kow kbt kki kpl kva kwr krm krs krz tow tbt tki tpl tva twr trm trs trz seed smn snu rmn rnu rf) (w_Vol cI cB a0 a1 a2 a3 a4 a5 a6 a7 a8 a9 a10 a11 a12 a13 a14 a15 a16 a17 a18 a19 a20 a21 a22 a23 a24 a25 a26 a27 a28 a29 a30 a31 a32 a33 a34 a35 a36 a37 ik now nbt nki npl nva nwr nrm nrs nrz kow kbt kki kpl kva kwr krm krs krz o.2.1 o.2.2.1 o.2.2.2.1 o.2.2.2.2.1 o.2.2.2.2.2.1 o.2.2.2.2.2.2.1 o.2.2.2.2.2.2.2.1 o.2.2.2.2.2.2.2.2.1 o.2.2.2.2.2.2.2.2.2.1 seed smn snu rmn rnu o.2.2.2.2.2.2.2.2.2.2) (some (.int (zi o.1))) := by
  refine Ct.start (by decide) (Nat.le_of_ble_eq_true rfl) (fun G X hR => ?_)
  refine x_ls (ls2 := [(0, .ref a0), (1, .int (zi x1))]) [0, 1] rfl ?_
  unfold m_Vol_scatter at h
  refine x_iload_n (pc := 0) X d_Vol_scatter_0 1 rfl rfl ?_
  obtain ⟨r1, h2, h⟩ := bnd_e h
  refine x_callS (pc := 1) (As := [.int (zi x1)]) (rest := []) (w2 := (w_Vol cI cB a0 a1 a2 a3 a4 a5 a6 a7 a8 a9 a10 a11 a12 a13 a14 a15 a16 a17 a18 a19 a20 a21 a22 a23 a24 a25 a26 a27 a28 a29 a30 a31 a32 a33 a34 a35 a36 a37 ik now nbt nki npl nva nwr nrm nrs nrz kow kbt kki kpl kva kwr krm krs krz tow tbt tki tpl tva twr trm trs trz seed smn snu rmn rnu rf)) X d_Vol_scatter_1 lk_Vol_84 mv_Vol_isFile (c_Vol_isFile l D cI cB x1 h2) ⟨(Nat.le_of_ble_eq_true rfl), (Nat.le_of_ble_eq_true rfl), (Nat.le_of_ble_eq_true rfl), (Nat.le_of_ble_eq_true rfl)⟩ [] rfl rfl rfl (Up.same rfl) rfl rfl (Nat.le_of_ble_eq_true rfl) ?_
  refine x_ifne (pc := 4) (tgt := 13) X d_Vol_scatter_4 rfl h (fun h => ?_) (fun h => ?_)
  · skip
    refine x_aload_n (pc := 13) X d_Vol_scatter_13 0 rfl rfl ?_
    refine x_get (pc := 14) X d_Vol_scatter_14 0 rfl fl_Vol_27 rfl ?_
    refine x_iload_n (pc := 17) X d_Vol_scatter_17 1 rfl rfl ?_
    refine x_aload_n (pc := 18) X d_Vol_scatter_18 0 rfl rfl ?_
    refine x_get (pc := 19) X d_Vol_scatter_19 0 rfl fl_Vol_10 rfl ?_
    refine x_iload_n (pc := 22) X d_Vol_scatter_22 1 rfl rfl ?_
    obtain ⟨r3, h4, h⟩ := bnd_e h
    refine x_callV (pc := 23) (As := [.int (zi x1)]) (rest := [.int (zi x1), .ref a31]) (w2 := (w_Vol cI cB a0 a1 a2 a3 a4 a5 a6 a7 a8 a9 a10 a11 a12 a13 a14 a15 a16 a17 a18 a19 a20 a21 a22 a23 a24 a25 a26 a27 a28 a29 a30 a31 a32 a33 a34 a35 a36 a37 ik now nbt nki npl nva nwr nrm nrs nrz kow kbt kki kpl kva kwr krm krs krz tow tbt tki tpl tva twr trm trs trz seed smn snu rmn rnu rf)) X d_Vol_scatter_23 lk_Vol_105 mv_Disk_kindAt (c_Disk_kindAt l D cI cB a1 a2 a3 a4 a5 a6 a7 a8 a9 a10 now nbt nki npl nva nwr nrm nrs nrz x1 h4) ⟨(Nat.le_of_ble_eq_true rfl), (Nat.le_of_ble_eq_true rfl), (Nat.le_of_ble_eq_true rfl), (Nat.le_of_ble_eq_true rfl)⟩ 1 rfl rfl [1, 2, 3, 4, 5, 6, 7, 8, 9, 10] rfl rfl rfl (Up.same rfl) rfl rfl (Nat.le_of_ble_eq_true rfl) ?_
    obtain ⟨r5, h6, h⟩ := bnd_e h
    refine x_callV (pc := 26) (As := [.int (zi x1), .int (zi r3)]) (rest := []) (w2 := (w_Vol cI cB a0 a1 a2 a3 a4 a5 a6 a7 a8 a9 a10 a11 a12 a13 a14 a15 a16 a17 a18 a19 a20 a21 a22 a23 a24 a25 a26 a27 a28 a29 a30 a31 a32 a33 a34 a35 a36 a37 ik now nbt nki npl nva nwr nrm nrs nrz kow kbt kki kpl kva kwr krm krs krz r5.2.1 r5.2.2.1 r5.2.2.2.1 r5.2.2.2.2.1 r5.2.2.2.2.2.1 r5.2.2.2.2.2.2.1 r5.2.2.2.2.2.2.2.1 r5.2.2.2.2.2.2.2.2.1 r5.2.2.2.2.2.2.2.2.2 seed smn snu rmn rnu rf)) X d_Vol_scatter_26 lk_Vol_197 mv_Mind_extentsByKind (c_Mind_extentsByKind l D cI cB a31 a1 a2 a3 a4 a5 a6 a7 a8 a9 a10 a21 a22 a23 a24 a25 a26 a27 a28 a29 a30 seed now nbt nki npl nva nwr nrm nrs nrz tow tbt tki tpl tva twr trm trs trz x1 r3 h6) ⟨(Nat.le_of_ble_eq_true rfl), (Nat.le_of_ble_eq_true rfl), (Nat.le_of_ble_eq_true rfl), (Nat.le_of_ble_eq_true rfl)⟩ 31 rfl rfl [31, 1, 2, 3, 4, 5, 6, 7, 8, 9, 10, 21, 22, 23, 24, 25, 26, 27, 28, 29, 30] rfl rfl rfl (Up.of [0, 11, 12, 13, 14, 15, 16, 17, 18, 19, 20, 32, 33, 34, 35, 36, 37] [(a0, .inr (5, [.ref a1, .ref a11, .ref a21, .ref a31, .ref a32, .ref a35, .ref a37, .int (zi ik)])), (a11, .inr (0, [.ref a12, .ref a13, .ref a14, .ref a15, .ref a16, .ref a17, .ref a18])), (a12, zA cI 64 kow), (a13, zA cI 64 kbt), (a14, zA cI 4 kki), (a15, zA cI 96 kpl), (a16, zA cI 96 kva), (a17, zA cB 96 kwr), (a18, .inr (3, [.ref a19, .ref a20, .int (zi krm)])), (a19, zA cI 32 krs), (a20, zA cI 32 krz), (a32, .inr (4, [.ref a33])), (a33, .inr (2, [.ref a34, .int (zi smn)])), (a34, zA cI 96 snu), (a35, .inr (2, [.ref a36, .int (zi rmn)])), (a36, zA cI 32 rnu), (a37, zA cI 7 rf)] rfl rfl rfl 38 rfl (by decide +kernel)) rfl rfl (Nat.le_of_ble_eq_true rfl) ?_
    cases h
    exact x_iret (pc := 29) X hR d_Vol_scatter_29
  · skip
    refine x_aload_n (pc := 7) X d_Vol_scatter_7 0 rfl rfl ?_
    refine x_iconst (pc := 8) X d_Vol_scatter_8  ?_
    obtain ⟨r7, h8, h⟩ := bnd_e h
    refine x_callV (pc := 9) (As := [.int (zi (-1))]) (rest := []) (w2 := (w_Vol cI cB a0 a1 a2 a3 a4 a5 a6 a7 a8 a9 a10 a11 a12 a13 a14 a15 a16 a17 a18 a19 a20 a21 a22 a23 a24 a25 a26 a27 a28 a29 a30 a31 a32 a33 a34 a35 a36 a37 ik now nbt nki npl nva nwr nrm nrs nrz kow kbt kki kpl kva kwr krm krs krz tow tbt tki tpl tva twr trm trs trz seed smn snu rmn rnu r7.2)) X d_Vol_scatter_9 lk_Vol_55 mv_Vol_refuse (c_Vol_refuse l D cI cB a0 a1 a2 a3 a4 a5 a6 a7 a8 a9 a10 a11 a12 a13 a14 a15 a16 a17 a18 a19 a20 a21 a22 a23 a24 a25 a26 a27 a28 a29 a30 a31 a32 a33 a34 a35 a36 a37 ik now nbt nki npl nva nwr nrm nrs nrz kow kbt kki kpl kva kwr krm krs krz tow tbt tki tpl tva twr trm trs trz seed smn snu rmn rnu rf (-1) h8) ⟨(Nat.le_of_ble_eq_true rfl), (Nat.le_of_ble_eq_true rfl), (Nat.le_of_ble_eq_true rfl), (Nat.le_of_ble_eq_true rfl)⟩ 0 rfl rfl [0, 1, 2, 3, 4, 5, 6, 7, 8, 9, 10, 11, 12, 13, 14, 15, 16, 17, 18, 19, 20, 21, 22, 23, 24, 25, 26, 27, 28, 29, 30, 31, 32, 33, 34, 35, 36, 37] rfl rfl rfl (Up.of [] [] rfl rfl rfl 38 rfl (by decide +kernel)) rfl rfl (Nat.le_of_ble_eq_true rfl) ?_
    cases h
    exact x_iret (pc := 12) X hR d_Vol_scatter_12
theorem d_Vol_kindBest_0 : decode b_Vol_kindBest 0 = .ok (.iload_n 1, 1) := by decide +kernel
theorem d_Vol_kindBest_1 : decode b_Vol_kindBest 1 = .ok (.invokestatic 84, 3) := by decide +kernel
theorem d_Vol_kindBest_4 : decode b_Vol_kindBest 4 = .ok (.ifCond .ne 9, 3) := by decide +kernel
theorem d_Vol_kindBest_7 : decode b_Vol_kindBest 7 = .ok (.aload_n 0, 1) := by decide +kernel
theorem d_Vol_kindBest_8 : decode b_Vol_kindBest 8 = .ok (.iconst (-1), 1) := by decide +kernel
theorem d_Vol_kindBest_9 : decode b_Vol_kindBest 9 = .ok (.invokevirtual 55, 3) := by decide +kernel
theorem d_Vol_kindBest_12 : decode b_Vol_kindBest 12 = .ok (.ireturn, 1) := by decide +kernel
theorem d_Vol_kindBest_13 : decode b_Vol_kindBest 13 = .ok (.iload_n 2, 1) := by decide +kernel
theorem d_Vol_kindBest_14 : decode b_Vol_kindBest 14 = .ok (.invokestatic 153, 3) := by decide +kernel
theorem d_Vol_kindBest_17 : decode b_Vol_kindBest 17 = .ok (.ifCond .ne 10, 3) := by decide +kernel
theorem d_Vol_kindBest_20 : decode b_Vol_kindBest 20 = .ok (.aload_n 0, 1) := by decide +kernel
theorem d_Vol_kindBest_21 : decode b_Vol_kindBest 21 = .ok (.bipush (-2), 2) := by decide +kernel
theorem d_Vol_kindBest_23 : decode b_Vol_kindBest 23 = .ok (.invokevirtual 55, 3) := by decide +kernel
theorem d_Vol_kindBest_26 : decode b_Vol_kindBest 26 = .ok (.ireturn, 1) := by decide +kernel
theorem d_Vol_kindBest_27 : decode b_Vol_kindBest 27 = .ok (.aload_n 0, 1) := by decide +kernel
theorem d_Vol_kindBest_28 : decode b_Vol_kindBest 28 = .ok (.getfield 27, 3) := by decide +kernel
theorem d_Vol_kindBest_31 : decode b_Vol_kindBest 31 = .ok (.iload_n 1, 1) := by decide +kernel
theorem d_Vol_kindBest_32 : decode b_Vol_kindBest 32 = .ok (.invokevirtual 200, 3) := by decide +kernel
theorem d_Vol_kindBest_35 : decode b_Vol_kindBest 35 = .ok (.istore_n 3, 1) := by decide +kernel
theorem d_Vol_kindBest_36 : decode b_Vol_kindBest 36 = .ok (.iload_n 2, 1) := by decide +kernel
theorem d_Vol_kindBest_37 : decode b_Vol_kindBest 37 = .ok (.ifCond .ne 7, 3) := by decide +kernel
theorem d_Vol_kindBest_40 : decode b_Vol_kindBest 40 = .ok (.iload_n 3, 1) := by decide +kernel
theorem d_Vol_kindBest_41 : decode b_Vol_kindBest 41 = .ok (.goto 12, 3) := by decide +kernel
theorem d_Vol_kindBest_44 : decode b_Vol_kindBest 44 = .ok (.aload_n 0, 1) := by decide +kernel
theorem d_Vol_kindBest_45 : decode b_Vol_kindBest 45 = .ok (.getfield 27, 3) := by decide +kernel
theorem d_Vol_kindBest_48 : decode b_Vol_kindBest 48 = .ok (.iload_n 1, 1) := by decide +kernel
theorem d_Vol_kindBest_49 : decode b_Vol_kindBest 49 = .ok (.iload_n 3, 1) := by decide +kernel
theorem d_Vol_kindBest_50 : decode b_Vol_kindBest 50 = .ok (.invokevirtual 197, 3) := by decide +kernel
theorem d_Vol_kindBest_53 : decode b_Vol_kindBest 53 = .ok (.ireturn, 1) := by decide +kernel
def m_Vol_kindBest (x1 : Int) (x2 : Int) (now : Int → Int) (nbt : Int → Int) (nki : Int → Int) (npl : Int → Int) (nva : Int → Int) (nwr : Int → Int) (tow : Int → Int) (tbt : Int → Int) (tki : Int → Int) (tpl : Int → Int) (tva : Int → Int) (twr : Int → Int) (trm : Int) (trs : Int → Int) (trz : Int → Int) (rf : Int → Int) : Option (Int × (Int → Int) × (Int → Int) × (Int → Int) × (Int → Int) × (Int → Int) × (Int → Int) × Int × (Int → Int) × (Int → Int) × (Int → Int)) :=
  bnd (m_Vol_isFile x1) (fun r1 => ceq r1 0 (bnd (m_Vol_refuse (-1) rf) (fun r11 => some (r11.1, tow, tbt, tki, tpl, tva, twr, trm, trs, trz, r11.2))) (bnd (m_Vol_isEither x2) (fun r3 => ceq r3 0 (bnd (m_Vol_refuse (-2) rf) (fun r9 => some (r9.1, tow, tbt, tki, tpl, tva, twr, trm, trs, trz, r9.2))) (bnd (m_Mind_leastKind x1 now nbt nki npl nva nwr tow tbt tki tpl tva twr trm trs trz) (fun r5 => ceq x2 0 (some (r5.1, r5.2.1, r5.2.2.1, r5.2.2.2.1, r5.2.2.2.2.1, r5.2.2.2.2.2.1, r5.2.2.2.2.2.2.1, r5.2.2.2.2.2.2.2.1, r5.2.2.2.2.2.2.2.2.1, r5.2.2.2.2.2.2.2.2.2, rf)) (bnd (m_Mind_extentsByKind x1 r5.1 now nbt nki npl nva nwr r5.2.1 r5.2.2.1 r5.2.2.2.1 r5.2.2.2.2.1 r5.2.2.2.2.2.1 r5.2.2.2.2.2.2.1 r5.2.2.2.2.2.2.2.1 r5.2.2.2.2.2.2.2.2.1 r5.2.2.2.2.2.2.2.2.2) (fun r7 => some (r7.1, r7.2.1, r7.2.2.1, r7.2.2.2.1, r7.2.2.2.2.1, r7.2.2.2.2.2.1, r7.2.2.2.2.2.2.1, r7.2.2.2.2.2.2.2.1, r7.2.2.2.2.2.2.2.2.1, r7.2.2.2.2.2.2.2.2.2, rf))))))))
set_option maxHeartbeats 4000000 in
set_option maxRecDepth 100000 in
theorem c_Vol_kindBest (l : Launch) (D : va_G) (cI cB : ClassId) (a0 a1 a2 a3 a4 a5 a6 a7 a8 a9 a10 a11 a12 a13 a14 a15 a16 a17 a18 a19 a20 a21 a22 a23 a24 a25 a26 a27 a28 a29 a30 a31 a32 a33 a34 a35 a36 a37 : Nat) (ik : Int) (now : Int → Int) (nbt : Int → Int) (nki : Int → Int) (npl : Int → Int) (nva : Int → Int) (nwr : Int → Int) (nrm : Int) (nrs : Int → Int) (nrz : Int → Int) (kow : Int → Int) (kbt : Int → Int) (kki : Int → Int) (kpl : Int → Int) (kva : Int → Int) (kwr : Int → Int) (krm : Int) (krs : Int → Int) (krz : Int → Int) (tow : Int → Int) (tbt : Int → Int) (tki : Int → Int) (tpl : Int → Int) (tva : Int → Int) (twr : Int → Int) (trm : Int) (trs : Int → Int) (trz : Int → Int) (seed : Int) (smn : Int) (snu : Int → Int) (rmn : Int) (rnu : Int → Int) (rf : Int → Int) (x1 : Int) (x2 : Int) {o : Int × (Int → Int) × (Int → Int) × (Int → Int) × (Int → Int) × (Int → Int) × (Int → Int) × Int × (Int → Int) × (Int → Int) × (Int → Int)} (h : m_Vol_kindBest x1 x2 now nbt nki npl nva nwr tow tbt tki tpl tva twr trm trs trz rf = some o) : Ct l D cI cB y_Vol_kindBest b_Vol_kindBest 4 (some .int) { frames := 6, cells := 0, slots := 0, locals := 149 } [.ref a0, .int (zi x1), .int (zi x2)] (w_Vol cI cB a0 a1 a2 a3 a4 a5 a6 a7 a8 a9 a10 a11 a12 a13 a14 a15 a16 a17 a18 a19 a20 a21 a22 a23 a24 a25 a26 a27 a28 a29 a30 a31 a32 a33 a34 a35 a36 a37 ik now nbt nki npl nva nwr nrm nrs nrz kow kbt kki kpl kva kwr krm krs krz tow tbt tki tpl tva twr trm trs trz seed smn snu rmn rnu rf) (w_Vol cI cB a0 a1 a2 a3 a4 a5 a6 a7 a8 a9 a10 a11 a12 a13 a14 a15 a16 a17 a18 a19 a20 a21 a22 a23 a24 a25 a26 a27 a28 a29 a30 a31 a32 a33 a34 a35 a36 a37 ik now nbt nki npl nva nwr nrm nrs nrz kow kbt kki kpl kva kwr krm krs krz o.2.1 o.2.2.1 o.2.2.2.1 o.2.2.2.2.1 o.2.2.2.2.2.1 o.2.2.2.2.2.2.1 o.2.2.2.2.2.2.2.1 o.2.2.2.2.2.2.2.2.1 o.2.2.2.2.2.2.2.2.2.1 seed smn snu rmn rnu o.2.2.2.2.2.2.2.2.2.2) (some (.int (zi o.1))) := by
  refine Ct.start (by decide) (Nat.le_of_ble_eq_true rfl) (fun G X hR => ?_)
  refine x_ls (ls2 := [(0, .ref a0), (1, .int (zi x1)), (2, .int (zi x2))]) [0, 1, 2] rfl ?_
  unfold m_Vol_kindBest at h
  refine x_iload_n (pc := 0) X d_Vol_kindBest_0 1 rfl rfl ?_
  obtain ⟨r1, h2, h⟩ := bnd_e h
  refine x_callS (pc := 1) (As := [.int (zi x1)]) (rest := []) (w2 := (w_Vol cI cB a0 a1 a2 a3 a4 a5 a6 a7 a8 a9 a10 a11 a12 a13 a14 a15 a16 a17 a18 a19 a20 a21 a22 a23 a24 a25 a26 a27 a28 a29 a30 a31 a32 a33 a34 a35 a36 a37 ik now nbt nki npl nva nwr nrm nrs nrz kow kbt kki kpl kva kwr krm krs krz tow tbt tki tpl tva twr trm trs trz seed smn snu rmn rnu rf)) X d_Vol_kindBest_1 lk_Vol_84 mv_Vol_isFile (c_Vol_isFile l D cI cB x1 h2) ⟨(Nat.le_of_ble_eq_true rfl), (Nat.le_of_ble_eq_true rfl), (Nat.le_of_ble_eq_true rfl), (Nat.le_of_ble_eq_true rfl)⟩ [] rfl rfl rfl (Up.same rfl) rfl rfl (Nat.le_of_ble_eq_true rfl) ?_
  refine x_ifne (pc := 4) (tgt := 13) X d_Vol_kindBest_4 rfl h (fun h => ?_) (fun h => ?_)
  · skip
    refine x_iload_n (pc := 13) X d_Vol_kindBest_13 2 rfl rfl ?_
    obtain ⟨r3, h4, h⟩ := bnd_e h
    refine x_callS (pc := 14) (As := [.int (zi x2)]) (rest := []) (w2 := (w_Vol cI cB a0 a1 a2 a3 a4 a5 a6 a7 a8 a9 a10 a11 a12 a13 a14 a15 a16 a17 a18 a19 a20 a21 a22 a23 a24 a25 a26 a27 a28 a29 a30 a31 a32 a33 a34 a35 a36 a37 ik now nbt nki npl nva nwr nrm nrs nrz kow kbt kki kpl kva kwr krm krs krz tow tbt tki tpl tva twr trm trs trz seed smn snu rmn rnu rf)) X d_Vol_kindBest_14 lk_Vol_153 mv_Vol_isEither (c_Vol_isEither l D cI cB x2 h4) ⟨(Nat.le_of_ble_eq_true rfl), (Nat.le_of_ble_eq_true rfl), (Nat.le_of_ble_eq_true rfl), (Nat.le_of_ble_eq_true rfl)⟩ [] rfl rfl rfl (Up.same rfl) rfl rfl (Nat.le_of_ble_eq_true rfl) ?_
    refine x_ifne (pc := 17) (tgt := 27) X d_Vol_kindBest_17 rfl h (fun h => ?_) (fun h => ?_)
    · skip
      refine x_aload_n (pc := 27) X d_Vol_kindBest_27 0 rfl rfl ?_
      refine x_get (pc := 28) X d_Vol_kindBest_28 0 rfl fl_Vol_27 rfl ?_
      refine x_iload_n (pc := 31) X d_Vol_kindBest_31 1 rfl rfl ?_
      obtain ⟨r5, h6, h⟩ := bnd_e h
      refine x_callV (pc := 32) (As := [.int (zi x1)]) (rest := []) (w2 := (w_Vol cI cB a0 a1 a2 a3 a4 a5 a6 a7 a8 a9 a10 a11 a12 a13 a14 a15 a16 a17 a18 a19 a20 a21 a22 a23 a24 a25 a26 a27 a28 a29 a30 a31 a32 a33 a34 a35 a36 a37 ik now nbt nki npl nva nwr nrm nrs nrz kow kbt kki kpl kva kwr krm krs krz r5.2.1 r5.2.2.1 r5.2.2.2.1 r5.2.2.2.2.1 r5.2.2.2.2.2.1 r5.2.2.2.2.2.2.1 r5.2.2.2.2.2.2.2.1 r5.2.2.2.2.2.2.2.2.1 r5.2.2.2.2.2.2.2.2.2 seed smn snu rmn rnu rf)) X d_Vol_kindBest_32 lk_Vol_200 mv_Mind_leastKind (c_Mind_leastKind l D cI cB a31 a1 a2 a3 a4 a5 a6 a7 a8 a9 a10 a21 a22 a23 a24 a25 a26 a27 a28 a29 a30 seed now nbt nki npl nva nwr nrm nrs nrz tow tbt tki tpl tva twr trm trs trz x1 h6) ⟨(Nat.le_of_ble_eq_true rfl), (Nat.le_of_ble_eq_true rfl), (Nat.le_of_ble_eq_true rfl), (Nat.le_of_ble_eq_true rfl)⟩ 31 rfl rfl [31, 1, 2, 3, 4, 5, 6, 7, 8, 9, 10, 21, 22, 23, 24, 25, 26, 27, 28, 29, 30] rfl rfl rfl (Up.of [0, 11, 12, 13, 14, 15, 16, 17, 18, 19, 20, 32, 33, 34, 35, 36, 37] [(a0, .inr (5, [.ref a1, .ref a11, .ref a21, .ref a31, .ref a32, .ref a35, .ref a37, .int (zi ik)])), (a11, .inr (0, [.ref a12, .ref a13, .ref a14, .ref a15, .ref a16, .ref a17, .ref a18])), (a12, zA cI 64 kow), (a13, zA cI 64 kbt), (a14, zA cI 4 kki), (a15, zA cI 96 kpl), (a16, zA cI 96 kva), (a17, zA cB 96 kwr), (a18, .inr (3, [.ref a19, .ref a20, .int (zi krm)])), (a19, zA cI 32 krs), (a20, zA cI 32 krz), (a32, .inr (4, [.ref a33])), (a33, .inr (2, [.ref a34, .int (zi smn)])), (a34, zA cI 96 snu), (a35, .inr (2, [.ref a36, .int (zi rmn)])), (a36, zA cI 32 rnu), (a37, zA cI 7 rf)] rfl rfl rfl 38 rfl (by decide +kernel)) rfl rfl (Nat.le_of_ble_eq_true rfl) ?_
      refine x_istore_n (pc := 35) (ls2 := [(3, .int (zi r5.1)), (0, .ref a0), (1, .int (zi x1)), (2, .int (zi x2))]) X d_Vol_kindBest_35 rfl (Nat.le_of_ble_eq_true rfl) rfl ?_
      refine x_iload_n (pc := 36) X d_Vol_kindBest_36 3 rfl rfl ?_
      refine x_ifne (pc := 37) (tgt := 44) X d_Vol_kindBest_37 rfl h (fun h => ?_) (fun h => ?_)
      · skip
        refine x_aload_n (pc := 44) X d_Vol_kindBest_44 1 rfl rfl ?_
        refine x_get (pc := 45) X d_Vol_kindBest_45 0 rfl fl_Vol_27 rfl ?_
        refine x_iload_n (pc := 48) X d_Vol_kindBest_48 2 rfl rfl ?_
        refine x_iload_n (pc := 49) X d_Vol_kindBest_49 0 rfl rfl ?_
        obtain ⟨r7, h8, h⟩ := bnd_e h
        refine x_callV (pc := 50) (As := [.int (zi x1), .int (zi r5.1)]) (rest := []) (w2 := (w_Vol cI cB a0 a1 a2 a3 a4 a5 a6 a7 a8 a9 a10 a11 a12 a13 a14 a15 a16 a17 a18 a19 a20 a21 a22 a23 a24 a25 a26 a27 a28 a29 a30 a31 a32 a33 a34 a35 a36 a37 ik now nbt nki npl nva nwr nrm nrs nrz kow kbt kki kpl kva kwr krm krs krz r7.2.1 r7.2.2.1 r7.2.2.2.1 r7.2.2.2.2.1 r7.2.2.2.2.2.1 r7.2.2.2.2.2.2.1 r7.2.2.2.2.2.2.2.1 r7.2.2.2.2.2.2.2.2.1 r7.2.2.2.2.2.2.2.2.2 seed smn snu rmn rnu rf)) X d_Vol_kindBest_50 lk_Vol_197 mv_Mind_extentsByKind (c_Mind_extentsByKind l D cI cB a31 a1 a2 a3 a4 a5 a6 a7 a8 a9 a10 a21 a22 a23 a24 a25 a26 a27 a28 a29 a30 seed now nbt nki npl nva nwr nrm nrs nrz r5.2.1 r5.2.2.1 r5.2.2.2.1 r5.2.2.2.2.1 r5.2.2.2.2.2.1 r5.2.2.2.2.2.2.1 r5.2.2.2.2.2.2.2.1 r5.2.2.2.2.2.2.2.2.1 r5.2.2.2.2.2.2.2.2.2 x1 r5.1 h8) ⟨(Nat.le_of_ble_eq_true rfl), (Nat.le_of_ble_eq_true rfl), (Nat.le_of_ble_eq_true rfl), (Nat.le_of_ble_eq_true rfl)⟩ 31 rfl rfl [31, 1, 2, 3, 4, 5, 6, 7, 8, 9, 10, 21, 22, 23, 24, 25, 26, 27, 28, 29, 30] rfl rfl rfl (Up.of [0, 11, 12, 13, 14, 15, 16, 17, 18, 19, 20, 32, 33, 34, 35, 36, 37] [(a0, .inr (5, [.ref a1, .ref a11, .ref a21, .ref a31, .ref a32, .ref a35, .ref a37, .int (zi ik)])), (a11, .inr (0, [.ref a12, .ref a13, .ref a14, .ref a15, .ref a16, .ref a17, .ref a18])), (a12, zA cI 64 kow), (a13, zA cI 64 kbt), (a14, zA cI 4 kki), (a15, zA cI 96 kpl), (a16, zA cI 96 kva), (a17, zA cB 96 kwr), (a18, .inr (3, [.ref a19, .ref a20, .int (zi krm)])), (a19, zA cI 32 krs), (a20, zA cI 32 krz), (a32, .inr (4, [.ref a33])), (a33, .inr (2, [.ref a34, .int (zi smn)])), (a34, zA cI 96 snu), (a35, .inr (2, [.ref a36, .int (zi rmn)])), (a36, zA cI 32 rnu), (a37, zA cI 7 rf)] rfl rfl rfl 38 rfl (by decide +kernel)) rfl rfl (Nat.le_of_ble_eq_true rfl) ?_
        cases h
        exact x_iret (pc := 53) X hR d_Vol_kindBest_53
      · skip
        refine x_iload_n (pc := 40) X d_Vol_kindBest_40 0 rfl rfl ?_
        refine x_goto (pc := 41) (tgt := 53) X d_Vol_kindBest_41 rfl ?_
        cases h
        exact x_iret (pc := 53) X hR d_Vol_kindBest_53
    · skip
      refine x_aload_n (pc := 20) X d_Vol_kindBest_20 0 rfl rfl ?_
      refine x_bipush (pc := 21) (v := -2) X d_Vol_kindBest_21 rfl ?_
      obtain ⟨r9, h10, h⟩ := bnd_e h
      refine x_callV (pc := 23) (As := [.int (zi (-2))]) (rest := []) (w2 := (w_Vol cI cB a0 a1 a2 a3 a4 a5 a6 a7 a8 a9 a10 a11 a12 a13 a14 a15 a16 a17 a18 a19 a20 a21 a22 a23 a24 a25 a26 a27 a28 a29 a30 a31 a32 a33 a34 a35 a36 a37 ik now nbt nki npl nva nwr nrm nrs nrz kow kbt kki kpl kva kwr krm krs krz tow tbt tki tpl tva twr trm trs trz seed smn snu rmn rnu r9.2)) X d_Vol_kindBest_23 lk_Vol_55 mv_Vol_refuse (c_Vol_refuse l D cI cB a0 a1 a2 a3 a4 a5 a6 a7 a8 a9 a10 a11 a12 a13 a14 a15 a16 a17 a18 a19 a20 a21 a22 a23 a24 a25 a26 a27 a28 a29 a30 a31 a32 a33 a34 a35 a36 a37 ik now nbt nki npl nva nwr nrm nrs nrz kow kbt kki kpl kva kwr krm krs krz tow tbt tki tpl tva twr trm trs trz seed smn snu rmn rnu rf (-2) h10) ⟨(Nat.le_of_ble_eq_true rfl), (Nat.le_of_ble_eq_true rfl), (Nat.le_of_ble_eq_true rfl), (Nat.le_of_ble_eq_true rfl)⟩ 0 rfl rfl [0, 1, 2, 3, 4, 5, 6, 7, 8, 9, 10, 11, 12, 13, 14, 15, 16, 17, 18, 19, 20, 21, 22, 23, 24, 25, 26, 27, 28, 29, 30, 31, 32, 33, 34, 35, 36, 37] rfl rfl rfl (Up.of [] [] rfl rfl rfl 38 rfl (by decide +kernel)) rfl rfl (Nat.le_of_ble_eq_true rfl) ?_
      cases h
      exact x_iret (pc := 26) X hR d_Vol_kindBest_26
  · skip
    refine x_aload_n (pc := 7) X d_Vol_kindBest_7 0 rfl rfl ?_
    refine x_iconst (pc := 8) X d_Vol_kindBest_8  ?_
    obtain ⟨r11, h12, h⟩ := bnd_e h
    refine x_callV (pc := 9) (As := [.int (zi (-1))]) (rest := []) (w2 := (w_Vol cI cB a0 a1 a2 a3 a4 a5 a6 a7 a8 a9 a10 a11 a12 a13 a14 a15 a16 a17 a18 a19 a20 a21 a22 a23 a24 a25 a26 a27 a28 a29 a30 a31 a32 a33 a34 a35 a36 a37 ik now nbt nki npl nva nwr nrm nrs nrz kow kbt kki kpl kva kwr krm krs krz tow tbt tki tpl tva twr trm trs trz seed smn snu rmn rnu r11.2)) X d_Vol_kindBest_9 lk_Vol_55 mv_Vol_refuse (c_Vol_refuse l D cI cB a0 a1 a2 a3 a4 a5 a6 a7 a8 a9 a10 a11 a12 a13 a14 a15 a16 a17 a18 a19 a20 a21 a22 a23 a24 a25 a26 a27 a28 a29 a30 a31 a32 a33 a34 a35 a36 a37 ik now nbt nki npl nva nwr nrm nrs nrz kow kbt kki kpl kva kwr krm krs krz tow tbt tki tpl tva twr trm trs trz seed smn snu rmn rnu rf (-1) h12) ⟨(Nat.le_of_ble_eq_true rfl), (Nat.le_of_ble_eq_true rfl), (Nat.le_of_ble_eq_true rfl), (Nat.le_of_ble_eq_true rfl)⟩ 0 rfl rfl [0, 1, 2, 3, 4, 5, 6, 7, 8, 9, 10, 11, 12, 13, 14, 15, 16, 17, 18, 19, 20, 21, 22, 23, 24, 25, 26, 27, 28, 29, 30, 31, 32, 33, 34, 35, 36, 37] rfl rfl rfl (Up.of [] [] rfl rfl rfl 38 rfl (by decide +kernel)) rfl rfl (Nat.le_of_ble_eq_true rfl) ?_
    cases h
    exact x_iret (pc := 12) X hR d_Vol_kindBest_12
theorem d_Vol_order_0 : decode b_Vol_order 0 = .ok (.iload_n 1, 1) := by decide +kernel
theorem d_Vol_order_1 : decode b_Vol_order 1 = .ok (.invokestatic 153, 3) := by decide +kernel
theorem d_Vol_order_4 : decode b_Vol_order 4 = .ok (.ifCond .ne 10, 3) := by decide +kernel
theorem d_Vol_order_7 : decode b_Vol_order 7 = .ok (.aload_n 0, 1) := by decide +kernel
theorem d_Vol_order_8 : decode b_Vol_order 8 = .ok (.bipush (-2), 2) := by decide +kernel
theorem d_Vol_order_10 : decode b_Vol_order 10 = .ok (.invokevirtual 55, 3) := by decide +kernel
theorem d_Vol_order_13 : decode b_Vol_order 13 = .ok (.ireturn, 1) := by decide +kernel
theorem d_Vol_order_14 : decode b_Vol_order 14 = .ok (.aload_n 0, 1) := by decide +kernel
theorem d_Vol_order_15 : decode b_Vol_order 15 = .ok (.getfield 27, 3) := by decide +kernel
theorem d_Vol_order_18 : decode b_Vol_order 18 = .ok (.invokevirtual 203, 3) := by decide +kernel
theorem d_Vol_order_21 : decode b_Vol_order 21 = .ok (.istore_n 2, 1) := by decide +kernel
theorem d_Vol_order_22 : decode b_Vol_order 22 = .ok (.iload_n 1, 1) := by decide +kernel
theorem d_Vol_order_23 : decode b_Vol_order 23 = .ok (.ifCond .ne 10, 3) := by decide +kernel
theorem d_Vol_order_26 : decode b_Vol_order 26 = .ok (.iload_n 2, 1) := by decide +kernel
theorem d_Vol_order_27 : decode b_Vol_order 27 = .ok (.invokestatic 206, 3) := by decide +kernel
theorem d_Vol_order_30 : decode b_Vol_order 30 = .ok (.goto 11, 3) := by decide +kernel
theorem d_Vol_order_33 : decode b_Vol_order 33 = .ok (.aload_n 0, 1) := by decide +kernel
theorem d_Vol_order_34 : decode b_Vol_order 34 = .ok (.getfield 27, 3) := by decide +kernel
theorem d_Vol_order_37 : decode b_Vol_order 37 = .ok (.iload_n 2, 1) := by decide +kernel
theorem d_Vol_order_38 : decode b_Vol_order 38 = .ok (.invokevirtual 209, 3) := by decide +kernel
theorem d_Vol_order_41 : decode b_Vol_order 41 = .ok (.ireturn, 1) := by decide +kernel
def m_Vol_order (x1 : Int) (now : Int → Int) (nbt : Int → Int) (nki : Int → Int) (npl : Int → Int) (nva : Int → Int) (nwr : Int → Int) (tow : Int → Int) (tbt : Int → Int) (tki : Int → Int) (tpl : Int → Int) (tva : Int → Int) (twr : Int → Int) (trm : Int) (trs : Int → Int) (trz : Int → Int) (rf : Int → Int) : Option (Int × (Int → Int) × (Int → Int) × (Int → Int) × (Int → Int) × (Int → Int) × (Int → Int) × Int × (Int → Int) × (Int → Int) × (Int → Int)) :=
  bnd (m_Vol_isEither x1) (fun r1 => ceq r1 0 (bnd (m_Vol_refuse (-2) rf) (fun r9 => some (r9.1, tow, tbt, tki, tpl, tva, twr, trm, trs, trz, r9.2))) (bnd (m_Mind_leastOrder now nbt nki npl nva nwr tow tbt tki tpl tva twr trm trs trz) (fun r3 => ceq x1 0 (bnd (m_Vol_orderInDigits r3.1) (fun r7 => some (r7, r3.2.1, r3.2.2.1, r3.2.2.2.1, r3.2.2.2.2.1, r3.2.2.2.2.2.1, r3.2.2.2.2.2.2.1, r3.2.2.2.2.2.2.2.1, r3.2.2.2.2.2.2.2.2.1, r3.2.2.2.2.2.2.2.2.2, rf))) (bnd (m_Mind_extentsByOrder r3.1 now nbt nki npl nva nwr r3.2.1 r3.2.2.1 r3.2.2.2.1 r3.2.2.2.2.1 r3.2.2.2.2.2.1 r3.2.2.2.2.2.2.1 r3.2.2.2.2.2.2.2.1 r3.2.2.2.2.2.2.2.2.1 r3.2.2.2.2.2.2.2.2.2) (fun r5 => some (r5.1, r5.2.1, r5.2.2.1, r5.2.2.2.1, r5.2.2.2.2.1, r5.2.2.2.2.2.1, r5.2.2.2.2.2.2.1, r5.2.2.2.2.2.2.2.1, r5.2.2.2.2.2.2.2.2.1, r5.2.2.2.2.2.2.2.2.2, rf))))))
set_option maxHeartbeats 4000000 in
set_option maxRecDepth 100000 in
theorem c_Vol_order (l : Launch) (D : va_G) (cI cB : ClassId) (a0 a1 a2 a3 a4 a5 a6 a7 a8 a9 a10 a11 a12 a13 a14 a15 a16 a17 a18 a19 a20 a21 a22 a23 a24 a25 a26 a27 a28 a29 a30 a31 a32 a33 a34 a35 a36 a37 : Nat) (ik : Int) (now : Int → Int) (nbt : Int → Int) (nki : Int → Int) (npl : Int → Int) (nva : Int → Int) (nwr : Int → Int) (nrm : Int) (nrs : Int → Int) (nrz : Int → Int) (kow : Int → Int) (kbt : Int → Int) (kki : Int → Int) (kpl : Int → Int) (kva : Int → Int) (kwr : Int → Int) (krm : Int) (krs : Int → Int) (krz : Int → Int) (tow : Int → Int) (tbt : Int → Int) (tki : Int → Int) (tpl : Int → Int) (tva : Int → Int) (twr : Int → Int) (trm : Int) (trs : Int → Int) (trz : Int → Int) (seed : Int) (smn : Int) (snu : Int → Int) (rmn : Int) (rnu : Int → Int) (rf : Int → Int) (x1 : Int) {o : Int × (Int → Int) × (Int → Int) × (Int → Int) × (Int → Int) × (Int → Int) × (Int → Int) × Int × (Int → Int) × (Int → Int) × (Int → Int)} (h : m_Vol_order x1 now nbt nki npl nva nwr tow tbt tki tpl tva twr trm trs trz rf = some o) : Ct l D cI cB y_Vol_order b_Vol_order 3 (some .int) { frames := 6, cells := 0, slots := 0, locals := 149 } [.ref a0, .int (zi x1)] (w_Vol cI cB a0 a1 a2 a3 a4 a5 a6 a7 a8 a9 a10 a11 a12 a13 a14 a15 a16 a17 a18 a19 a20 a21 a22 a23 a24 a25 a26 a27 a28 a29 a30 a31 a32 a33 a34 a35 a36 a37 ik now nbt nki npl nva nwr nrm nrs nrz kow kbt kki kpl kva kwr krm krs krz tow tbt tki tpl tva twr trm trs trz seed smn snu rmn rnu rf) (w_Vol cI cB a0 a1 a2 a3 a4 a5 a6 a7 a8 a9 a10 a11 a12 a13 a14 a15 a16 a17 a18 a19 a20 a21 a22 a23 a24 a25 a26 a27 a28 a29 a30 a31 a32 a33 a34 a35 a36 a37 ik now nbt nki npl nva nwr nrm nrs nrz kow kbt kki kpl kva kwr krm krs krz o.2.1 o.2.2.1 o.2.2.2.1 o.2.2.2.2.1 o.2.2.2.2.2.1 o.2.2.2.2.2.2.1 o.2.2.2.2.2.2.2.1 o.2.2.2.2.2.2.2.2.1 o.2.2.2.2.2.2.2.2.2.1 seed smn snu rmn rnu o.2.2.2.2.2.2.2.2.2.2) (some (.int (zi o.1))) := by
  refine Ct.start (by decide) (Nat.le_of_ble_eq_true rfl) (fun G X hR => ?_)
  refine x_ls (ls2 := [(0, .ref a0), (1, .int (zi x1))]) [0, 1] rfl ?_
  unfold m_Vol_order at h
  refine x_iload_n (pc := 0) X d_Vol_order_0 1 rfl rfl ?_
  obtain ⟨r1, h2, h⟩ := bnd_e h
  refine x_callS (pc := 1) (As := [.int (zi x1)]) (rest := []) (w2 := (w_Vol cI cB a0 a1 a2 a3 a4 a5 a6 a7 a8 a9 a10 a11 a12 a13 a14 a15 a16 a17 a18 a19 a20 a21 a22 a23 a24 a25 a26 a27 a28 a29 a30 a31 a32 a33 a34 a35 a36 a37 ik now nbt nki npl nva nwr nrm nrs nrz kow kbt kki kpl kva kwr krm krs krz tow tbt tki tpl tva twr trm trs trz seed smn snu rmn rnu rf)) X d_Vol_order_1 lk_Vol_153 mv_Vol_isEither (c_Vol_isEither l D cI cB x1 h2) ⟨(Nat.le_of_ble_eq_true rfl), (Nat.le_of_ble_eq_true rfl), (Nat.le_of_ble_eq_true rfl), (Nat.le_of_ble_eq_true rfl)⟩ [] rfl rfl rfl (Up.same rfl) rfl rfl (Nat.le_of_ble_eq_true rfl) ?_
  refine x_ifne (pc := 4) (tgt := 14) X d_Vol_order_4 rfl h (fun h => ?_) (fun h => ?_)
  · skip
    refine x_aload_n (pc := 14) X d_Vol_order_14 0 rfl rfl ?_
    refine x_get (pc := 15) X d_Vol_order_15 0 rfl fl_Vol_27 rfl ?_
    obtain ⟨r3, h4, h⟩ := bnd_e h
    refine x_callV (pc := 18) (As := []) (rest := []) (w2 := (w_Vol cI cB a0 a1 a2 a3 a4 a5 a6 a7 a8 a9 a10 a11 a12 a13 a14 a15 a16 a17 a18 a19 a20 a21 a22 a23 a24 a25 a26 a27 a28 a29 a30 a31 a32 a33 a34 a35 a36 a37 ik now nbt nki npl nva nwr nrm nrs nrz kow kbt kki kpl kva kwr krm krs krz r3.2.1 r3.2.2.1 r3.2.2.2.1 r3.2.2.2.2.1 r3.2.2.2.2.2.1 r3.2.2.2.2.2.2.1 r3.2.2.2.2.2.2.2.1 r3.2.2.2.2.2.2.2.2.1 r3.2.2.2.2.2.2.2.2.2 seed smn snu rmn rnu rf)) X d_Vol_order_18 lk_Vol_203 mv_Mind_leastOrder (c_Mind_leastOrder l D cI cB a31 a1 a2 a3 a4 a5 a6 a7 a8 a9 a10 a21 a22 a23 a24 a25 a26 a27 a28 a29 a30 seed now nbt nki npl nva nwr nrm nrs nrz tow tbt tki tpl tva twr trm trs trz h4) ⟨(Nat.le_of_ble_eq_true rfl), (Nat.le_of_ble_eq_true rfl), (Nat.le_of_ble_eq_true rfl), (Nat.le_of_ble_eq_true rfl)⟩ 31 rfl rfl [31, 1, 2, 3, 4, 5, 6, 7, 8, 9, 10, 21, 22, 23, 24, 25, 26, 27, 28, 29, 30] rfl rfl rfl (Up.of [0, 11, 12, 13, 14, 15, 16, 17, 18, 19, 20, 32, 33, 34, 35, 36, 37] [(a0, .inr (5, [.ref a1, .ref a11, .ref a21, .ref a31, .ref a32, .ref a35, .ref a37, .int (zi ik)])), (a11, .inr (0, [.ref a12, .ref a13, .ref a14, .ref a15, .ref a16, .ref a17, .ref a18])), (a12, zA cI 64 kow), (a13, zA cI 64 kbt), (a14, zA cI 4 kki), (a15, zA cI 96 kpl), (a16, zA cI 96 kva), (a17, zA cB 96 kwr), (a18, .inr (3, [.ref a19, .ref a20, .int (zi krm)])), (a19, zA cI 32 krs), (a20, zA cI 32 krz), (a32, .inr (4, [.ref a33])), (a33, .inr (2, [.ref a34, .int (zi smn)])), (a34, zA cI 96 snu), (a35, .inr (2, [.ref a36, .int (zi rmn)])), (a36, zA cI 32 rnu), (a37, zA cI 7 rf)] rfl rfl rfl 38 rfl (by decide +kernel)) rfl rfl (Nat.le_of_ble_eq_true rfl) ?_
    refine x_istore_n (pc := 21) (ls2 := [(2, .int (zi r3.1)), (0, .ref a0), (1, .int (zi x1))]) X d_Vol_order_21 rfl (Nat.le_of_ble_eq_true rfl) rfl ?_
    refine x_iload_n (pc := 22) X d_Vol_order_22 2 rfl rfl ?_
    refine x_ifne (pc := 23) (tgt := 33) X d_Vol_order_23 rfl h (fun h => ?_) (fun h => ?_)
    · skip
      refine x_aload_n (pc := 33) X d_Vol_order_33 1 rfl rfl ?_
      refine x_get (pc := 34) X d_Vol_order_34 0 rfl fl_Vol_27 rfl ?_
      refine x_iload_n (pc := 37) X d_Vol_order_37 0 rfl rfl ?_
      obtain ⟨r5, h6, h⟩ := bnd_e h
      refine x_callV (pc := 38) (As := [.int (zi r3.1)]) (rest := []) (w2 := (w_Vol cI cB a0 a1 a2 a3 a4 a5 a6 a7 a8 a9 a10 a11 a12 a13 a14 a15 a16 a17 a18 a19 a20 a21 a22 a23 a24 a25 a26 a27 a28 a29 a30 a31 a32 a33 a34 a35 a36 a37 ik now nbt nki npl nva nwr nrm nrs nrz kow kbt kki kpl kva kwr krm krs krz r5.2.1 r5.2.2.1 r5.2.2.2.1 r5.2.2.2.2.1 r5.2.2.2.2.2.1 r5.2.2.2.2.2.2.1 r5.2.2.2.2.2.2.2.1 r5.2.2.2.2.2.2.2.2.1 r5.2.2.2.2.2.2.2.2.2 seed smn snu rmn rnu rf)) X d_Vol_order_38 lk_Vol_209 mv_Mind_extentsByOrder (c_Mind_extentsByOrder l D cI cB a31 a1 a2 a3 a4 a5 a6 a7 a8 a9 a10 a21 a22 a23 a24 a25 a26 a27 a28 a29 a30 seed now nbt nki npl nva nwr nrm nrs nrz r3.2.1 r3.2.2.1 r3.2.2.2.1 r3.2.2.2.2.1 r3.2.2.2.2.2.1 r3.2.2.2.2.2.2.1 r3.2.2.2.2.2.2.2.1 r3.2.2.2.2.2.2.2.2.1 r3.2.2.2.2.2.2.2.2.2 r3.1 h6) ⟨(Nat.le_of_ble_eq_true rfl), (Nat.le_of_ble_eq_true rfl), (Nat.le_of_ble_eq_true rfl), (Nat.le_of_ble_eq_true rfl)⟩ 31 rfl rfl [31, 1, 2, 3, 4, 5, 6, 7, 8, 9, 10, 21, 22, 23, 24, 25, 26, 27, 28, 29, 30] rfl rfl rfl (Up.of [0, 11, 12, 13, 14, 15, 16, 17, 18, 19, 20, 32, 33, 34, 35, 36, 37] [(a0, .inr (5, [.ref a1, .ref a11, .ref a21, .ref a31, .ref a32, .ref a35, .ref a37, .int (zi ik)])), (a11, .inr (0, [.ref a12, .ref a13, .ref a14, .ref a15, .ref a16, .ref a17, .ref a18])), (a12, zA cI 64 kow), (a13, zA cI 64 kbt), (a14, zA cI 4 kki), (a15, zA cI 96 kpl), (a16, zA cI 96 kva), (a17, zA cB 96 kwr), (a18, .inr (3, [.ref a19, .ref a20, .int (zi krm)])), (a19, zA cI 32 krs), (a20, zA cI 32 krz), (a32, .inr (4, [.ref a33])), (a33, .inr (2, [.ref a34, .int (zi smn)])), (a34, zA cI 96 snu), (a35, .inr (2, [.ref a36, .int (zi rmn)])), (a36, zA cI 32 rnu), (a37, zA cI 7 rf)] rfl rfl rfl 38 rfl (by decide +kernel)) rfl rfl (Nat.le_of_ble_eq_true rfl) ?_
      cases h
      exact x_iret (pc := 41) X hR d_Vol_order_41
    · skip
      refine x_iload_n (pc := 26) X d_Vol_order_26 0 rfl rfl ?_
      obtain ⟨r7, h8, h⟩ := bnd_e h
      refine x_callS (pc := 27) (As := [.int (zi r3.1)]) (rest := []) (w2 := (w_Vol cI cB a0 a1 a2 a3 a4 a5 a6 a7 a8 a9 a10 a11 a12 a13 a14 a15 a16 a17 a18 a19 a20 a21 a22 a23 a24 a25 a26 a27 a28 a29 a30 a31 a32 a33 a34 a35 a36 a37 ik now nbt nki npl nva nwr nrm nrs nrz kow kbt kki kpl kva kwr krm krs krz r3.2.1 r3.2.2.1 r3.2.2.2.1 r3.2.2.2.2.1 r3.2.2.2.2.2.1 r3.2.2.2.2.2.2.1 r3.2.2.2.2.2.2.2.1 r3.2.2.2.2.2.2.2.2.1 r3.2.2.2.2.2.2.2.2.2 seed smn snu rmn rnu rf)) X d_Vol_order_27 lk_Vol_206 mv_Vol_orderInDigits (c_Vol_orderInDigits l D cI cB r3.1 h8) ⟨(Nat.le_of_ble_eq_true rfl), (Nat.le_of_ble_eq_true rfl), (Nat.le_of_ble_eq_true rfl), (Nat.le_of_ble_eq_true rfl)⟩ [] rfl rfl rfl (Up.same rfl) rfl rfl (Nat.le_of_ble_eq_true rfl) ?_
      refine x_goto (pc := 30) (tgt := 41) X d_Vol_order_30 rfl ?_
      cases h
      exact x_iret (pc := 41) X hR d_Vol_order_41
  · skip
    refine x_aload_n (pc := 7) X d_Vol_order_7 0 rfl rfl ?_
    refine x_bipush (pc := 8) (v := -2) X d_Vol_order_8 rfl ?_
    obtain ⟨r9, h10, h⟩ := bnd_e h
    refine x_callV (pc := 10) (As := [.int (zi (-2))]) (rest := []) (w2 := (w_Vol cI cB a0 a1 a2 a3 a4 a5 a6 a7 a8 a9 a10 a11 a12 a13 a14 a15 a16 a17 a18 a19 a20 a21 a22 a23 a24 a25 a26 a27 a28 a29 a30 a31 a32 a33 a34 a35 a36 a37 ik now nbt nki npl nva nwr nrm nrs nrz kow kbt kki kpl kva kwr krm krs krz tow tbt tki tpl tva twr trm trs trz seed smn snu rmn rnu r9.2)) X d_Vol_order_10 lk_Vol_55 mv_Vol_refuse (c_Vol_refuse l D cI cB a0 a1 a2 a3 a4 a5 a6 a7 a8 a9 a10 a11 a12 a13 a14 a15 a16 a17 a18 a19 a20 a21 a22 a23 a24 a25 a26 a27 a28 a29 a30 a31 a32 a33 a34 a35 a36 a37 ik now nbt nki npl nva nwr nrm nrs nrz kow kbt kki kpl kva kwr krm krs krz tow tbt tki tpl tva twr trm trs trz seed smn snu rmn rnu rf (-2) h10) ⟨(Nat.le_of_ble_eq_true rfl), (Nat.le_of_ble_eq_true rfl), (Nat.le_of_ble_eq_true rfl), (Nat.le_of_ble_eq_true rfl)⟩ 0 rfl rfl [0, 1, 2, 3, 4, 5, 6, 7, 8, 9, 10, 11, 12, 13, 14, 15, 16, 17, 18, 19, 20, 21, 22, 23, 24, 25, 26, 27, 28, 29, 30, 31, 32, 33, 34, 35, 36, 37] rfl rfl rfl (Up.of [] [] rfl rfl rfl 38 rfl (by decide +kernel)) rfl rfl (Nat.le_of_ble_eq_true rfl) ?_
    cases h
    exact x_iret (pc := 13) X hR d_Vol_order_13
theorem d_Vol_steps_0 : decode b_Vol_steps 0 = .ok (.iload_n 1, 1) := by decide +kernel
theorem d_Vol_steps_1 : decode b_Vol_steps 1 = .ok (.invokestatic 84, 3) := by decide +kernel
theorem d_Vol_steps_4 : decode b_Vol_steps 4 = .ok (.ifCond .ne 9, 3) := by decide +kernel
theorem d_Vol_steps_7 : decode b_Vol_steps 7 = .ok (.aload_n 0, 1) := by decide +kernel
theorem d_Vol_steps_8 : decode b_Vol_steps 8 = .ok (.iconst (-1), 1) := by decide +kernel
theorem d_Vol_steps_9 : decode b_Vol_steps 9 = .ok (.invokevirtual 55, 3) := by decide +kernel
theorem d_Vol_steps_12 : decode b_Vol_steps 12 = .ok (.ireturn, 1) := by decide +kernel
theorem d_Vol_steps_13 : decode b_Vol_steps 13 = .ok (.aload_n 0, 1) := by decide +kernel
theorem d_Vol_steps_14 : decode b_Vol_steps 14 = .ok (.getfield 27, 3) := by decide +kernel
theorem d_Vol_steps_17 : decode b_Vol_steps 17 = .ok (.iload_n 1, 1) := by decide +kernel
theorem d_Vol_steps_18 : decode b_Vol_steps 18 = .ok (.invokevirtual 212, 3) := by decide +kernel
theorem d_Vol_steps_21 : decode b_Vol_steps 21 = .ok (.ireturn, 1) := by decide +kernel
def m_Vol_steps (x1 : Int) (now : Int → Int) (nbt : Int → Int) (nki : Int → Int) (npl : Int → Int) (nva : Int → Int) (nwr : Int → Int) (tow : Int → Int) (tbt : Int → Int) (tki : Int → Int) (tpl : Int → Int) (tva : Int → Int) (twr : Int → Int) (trm : Int) (trs : Int → Int) (trz : Int → Int) (rf : Int → Int) : Option (Int × (Int → Int) × (Int → Int) × (Int → Int) × (Int → Int) × (Int → Int) × (Int → Int) × Int × (Int → Int) × (Int → Int) × (Int → Int)) :=
  bnd (m_Vol_isFile x1) (fun r1 => ceq r1 0 (bnd (m_Vol_refuse (-1) rf) (fun r5 => some (r5.1, tow, tbt, tki, tpl, tva, twr, trm, trs, trz, r5.2))) (bnd (m_Mind_stepsOf x1 now nbt nki npl nva nwr tow tbt tki tpl tva twr trm trs trz) (fun r3 => some (r3.1, r3.2.1, r3.2.2.1, r3.2.2.2.1, r3.2.2.2.2.1, r3.2.2.2.2.2.1, r3.2.2.2.2.2.2.1, r3.2.2.2.2.2.2.2.1, r3.2.2.2.2.2.2.2.2.1, r3.2.2.2.2.2.2.2.2.2, rf))))
set_option maxHeartbeats 4000000 in
set_option maxRecDepth 100000 in
theorem c_Vol_steps (l : Launch) (D : va_G) (cI cB : ClassId) (a0 a1 a2 a3 a4 a5 a6 a7 a8 a9 a10 a11 a12 a13 a14 a15 a16 a17 a18 a19 a20 a21 a22 a23 a24 a25 a26 a27 a28 a29 a30 a31 a32 a33 a34 a35 a36 a37 : Nat) (ik : Int) (now : Int → Int) (nbt : Int → Int) (nki : Int → Int) (npl : Int → Int) (nva : Int → Int) (nwr : Int → Int) (nrm : Int) (nrs : Int → Int) (nrz : Int → Int) (kow : Int → Int) (kbt : Int → Int) (kki : Int → Int) (kpl : Int → Int) (kva : Int → Int) (kwr : Int → Int) (krm : Int) (krs : Int → Int) (krz : Int → Int) (tow : Int → Int) (tbt : Int → Int) (tki : Int → Int) (tpl : Int → Int) (tva : Int → Int) (twr : Int → Int) (trm : Int) (trs : Int → Int) (trz : Int → Int) (seed : Int) (smn : Int) (snu : Int → Int) (rmn : Int) (rnu : Int → Int) (rf : Int → Int) (x1 : Int) {o : Int × (Int → Int) × (Int → Int) × (Int → Int) × (Int → Int) × (Int → Int) × (Int → Int) × Int × (Int → Int) × (Int → Int) × (Int → Int)} (h : m_Vol_steps x1 now nbt nki npl nva nwr tow tbt tki tpl tva twr trm trs trz rf = some o) : Ct l D cI cB y_Vol_steps b_Vol_steps 2 (some .int) { frames := 5, cells := 0, slots := 0, locals := 124 } [.ref a0, .int (zi x1)] (w_Vol cI cB a0 a1 a2 a3 a4 a5 a6 a7 a8 a9 a10 a11 a12 a13 a14 a15 a16 a17 a18 a19 a20 a21 a22 a23 a24 a25 a26 a27 a28 a29 a30 a31 a32 a33 a34 a35 a36 a37 ik now nbt nki npl nva nwr nrm nrs nrz kow kbt kki kpl kva kwr krm krs krz tow tbt tki tpl tva twr trm trs trz seed smn snu rmn rnu rf) (w_Vol cI cB a0 a1 a2 a3 a4 a5 a6 a7 a8 a9 a10 a11 a12 a13 a14 a15 a16 a17 a18 a19 a20 a21 a22 a23 a24 a25 a26 a27 a28 a29 a30 a31 a32 a33 a34 a35 a36 a37 ik now nbt nki npl nva nwr nrm nrs nrz kow kbt kki kpl kva kwr krm krs krz o.2.1 o.2.2.1 o.2.2.2.1 o.2.2.2.2.1 o.2.2.2.2.2.1 o.2.2.2.2.2.2.1 o.2.2.2.2.2.2.2.1 o.2.2.2.2.2.2.2.2.1 o.2.2.2.2.2.2.2.2.2.1 seed smn snu rmn rnu o.2.2.2.2.2.2.2.2.2.2) (some (.int (zi o.1))) := by
  refine Ct.start (by decide) (Nat.le_of_ble_eq_true rfl) (fun G X hR => ?_)
  refine x_ls (ls2 := [(0, .ref a0), (1, .int (zi x1))]) [0, 1] rfl ?_
  unfold m_Vol_steps at h
  refine x_iload_n (pc := 0) X d_Vol_steps_0 1 rfl rfl ?_
  obtain ⟨r1, h2, h⟩ := bnd_e h
  refine x_callS (pc := 1) (As := [.int (zi x1)]) (rest := []) (w2 := (w_Vol cI cB a0 a1 a2 a3 a4 a5 a6 a7 a8 a9 a10 a11 a12 a13 a14 a15 a16 a17 a18 a19 a20 a21 a22 a23 a24 a25 a26 a27 a28 a29 a30 a31 a32 a33 a34 a35 a36 a37 ik now nbt nki npl nva nwr nrm nrs nrz kow kbt kki kpl kva kwr krm krs krz tow tbt tki tpl tva twr trm trs trz seed smn snu rmn rnu rf)) X d_Vol_steps_1 lk_Vol_84 mv_Vol_isFile (c_Vol_isFile l D cI cB x1 h2) ⟨(Nat.le_of_ble_eq_true rfl), (Nat.le_of_ble_eq_true rfl), (Nat.le_of_ble_eq_true rfl), (Nat.le_of_ble_eq_true rfl)⟩ [] rfl rfl rfl (Up.same rfl) rfl rfl (Nat.le_of_ble_eq_true rfl) ?_
  refine x_ifne (pc := 4) (tgt := 13) X d_Vol_steps_4 rfl h (fun h => ?_) (fun h => ?_)
  · skip
    refine x_aload_n (pc := 13) X d_Vol_steps_13 0 rfl rfl ?_
    refine x_get (pc := 14) X d_Vol_steps_14 0 rfl fl_Vol_27 rfl ?_
    refine x_iload_n (pc := 17) X d_Vol_steps_17 1 rfl rfl ?_
    obtain ⟨r3, h4, h⟩ := bnd_e h
    refine x_callV (pc := 18) (As := [.int (zi x1)]) (rest := []) (w2 := (w_Vol cI cB a0 a1 a2 a3 a4 a5 a6 a7 a8 a9 a10 a11 a12 a13 a14 a15 a16 a17 a18 a19 a20 a21 a22 a23 a24 a25 a26 a27 a28 a29 a30 a31 a32 a33 a34 a35 a36 a37 ik now nbt nki npl nva nwr nrm nrs nrz kow kbt kki kpl kva kwr krm krs krz r3.2.1 r3.2.2.1 r3.2.2.2.1 r3.2.2.2.2.1 r3.2.2.2.2.2.1 r3.2.2.2.2.2.2.1 r3.2.2.2.2.2.2.2.1 r3.2.2.2.2.2.2.2.2.1 r3.2.2.2.2.2.2.2.2.2 seed smn snu rmn rnu rf)) X d_Vol_steps_18 lk_Vol_212 mv_Mind_stepsOf (c_Mind_stepsOf l D cI cB a31 a1 a2 a3 a4 a5 a6 a7 a8 a9 a10 a21 a22 a23 a24 a25 a26 a27 a28 a29 a30 seed now nbt nki npl nva nwr nrm nrs nrz tow tbt tki tpl tva twr trm trs trz x1 h4) ⟨(Nat.le_of_ble_eq_true rfl), (Nat.le_of_ble_eq_true rfl), (Nat.le_of_ble_eq_true rfl), (Nat.le_of_ble_eq_true rfl)⟩ 31 rfl rfl [31, 1, 2, 3, 4, 5, 6, 7, 8, 9, 10, 21, 22, 23, 24, 25, 26, 27, 28, 29, 30] rfl rfl rfl (Up.of [0, 11, 12, 13, 14, 15, 16, 17, 18, 19, 20, 32, 33, 34, 35, 36, 37] [(a0, .inr (5, [.ref a1, .ref a11, .ref a21, .ref a31, .ref a32, .ref a35, .ref a37, .int (zi ik)])), (a11, .inr (0, [.ref a12, .ref a13, .ref a14, .ref a15, .ref a16, .ref a17, .ref a18])), (a12, zA cI 64 kow), (a13, zA cI 64 kbt), (a14, zA cI 4 kki), (a15, zA cI 96 kpl), (a16, zA cI 96 kva), (a17, zA cB 96 kwr), (a18, .inr (3, [.ref a19, .ref a20, .int (zi krm)])), (a19, zA cI 32 krs), (a20, zA cI 32 krz), (a32, .inr (4, [.ref a33])), (a33, .inr (2, [.ref a34, .int (zi smn)])), (a34, zA cI 96 snu), (a35, .inr (2, [.ref a36, .int (zi rmn)])), (a36, zA cI 32 rnu), (a37, zA cI 7 rf)] rfl rfl rfl 38 rfl (by decide +kernel)) rfl rfl (Nat.le_of_ble_eq_true rfl) ?_
    cases h
    exact x_iret (pc := 21) X hR d_Vol_steps_21
  · skip
    refine x_aload_n (pc := 7) X d_Vol_steps_7 0 rfl rfl ?_
    refine x_iconst (pc := 8) X d_Vol_steps_8  ?_
    obtain ⟨r5, h6, h⟩ := bnd_e h
    refine x_callV (pc := 9) (As := [.int (zi (-1))]) (rest := []) (w2 := (w_Vol cI cB a0 a1 a2 a3 a4 a5 a6 a7 a8 a9 a10 a11 a12 a13 a14 a15 a16 a17 a18 a19 a20 a21 a22 a23 a24 a25 a26 a27 a28 a29 a30 a31 a32 a33 a34 a35 a36 a37 ik now nbt nki npl nva nwr nrm nrs nrz kow kbt kki kpl kva kwr krm krs krz tow tbt tki tpl tva twr trm trs trz seed smn snu rmn rnu r5.2)) X d_Vol_steps_9 lk_Vol_55 mv_Vol_refuse (c_Vol_refuse l D cI cB a0 a1 a2 a3 a4 a5 a6 a7 a8 a9 a10 a11 a12 a13 a14 a15 a16 a17 a18 a19 a20 a21 a22 a23 a24 a25 a26 a27 a28 a29 a30 a31 a32 a33 a34 a35 a36 a37 ik now nbt nki npl nva nwr nrm nrs nrz kow kbt kki kpl kva kwr krm krs krz tow tbt tki tpl tva twr trm trs trz seed smn snu rmn rnu rf (-1) h6) ⟨(Nat.le_of_ble_eq_true rfl), (Nat.le_of_ble_eq_true rfl), (Nat.le_of_ble_eq_true rfl), (Nat.le_of_ble_eq_true rfl)⟩ 0 rfl rfl [0, 1, 2, 3, 4, 5, 6, 7, 8, 9, 10, 11, 12, 13, 14, 15, 16, 17, 18, 19, 20, 21, 22, 23, 24, 25, 26, 27, 28, 29, 30, 31, 32, 33, 34, 35, 36, 37] rfl rfl rfl (Up.of [] [] rfl rfl rfl 38 rfl (by decide +kernel)) rfl rfl (Nat.le_of_ble_eq_true rfl) ?_
    cases h
    exact x_iret (pc := 12) X hR d_Vol_steps_12
theorem d_Vol_loses_0 : decode b_Vol_loses 0 = .ok (.iload_n 1, 1) := by decide +kernel
theorem d_Vol_loses_1 : decode b_Vol_loses 1 = .ok (.invokestatic 84, 3) := by decide +kernel
theorem d_Vol_loses_4 : decode b_Vol_loses 4 = .ok (.ifCond .ne 9, 3) := by decide +kernel
theorem d_Vol_loses_7 : decode b_Vol_loses 7 = .ok (.aload_n 0, 1) := by decide +kernel
theorem d_Vol_loses_8 : decode b_Vol_loses 8 = .ok (.iconst (-1), 1) := by decide +kernel
theorem d_Vol_loses_9 : decode b_Vol_loses 9 = .ok (.invokevirtual 55, 3) := by decide +kernel
theorem d_Vol_loses_12 : decode b_Vol_loses 12 = .ok (.ireturn, 1) := by decide +kernel
theorem d_Vol_loses_13 : decode b_Vol_loses 13 = .ok (.iload_n 2, 1) := by decide +kernel
theorem d_Vol_loses_14 : decode b_Vol_loses 14 = .ok (.ifCond .ge 10, 3) := by decide +kernel
theorem d_Vol_loses_17 : decode b_Vol_loses 17 = .ok (.aload_n 0, 1) := by decide +kernel
theorem d_Vol_loses_18 : decode b_Vol_loses 18 = .ok (.bipush (-4), 2) := by decide +kernel
theorem d_Vol_loses_20 : decode b_Vol_loses 20 = .ok (.invokevirtual 55, 3) := by decide +kernel
theorem d_Vol_loses_23 : decode b_Vol_loses 23 = .ok (.ireturn, 1) := by decide +kernel
theorem d_Vol_loses_24 : decode b_Vol_loses 24 = .ok (.iload_n 2, 1) := by decide +kernel
theorem d_Vol_loses_25 : decode b_Vol_loses 25 = .ok (.bipush 99, 2) := by decide +kernel
theorem d_Vol_loses_27 : decode b_Vol_loses 27 = .ok (.if_icmp .le 10, 3) := by decide +kernel
theorem d_Vol_loses_30 : decode b_Vol_loses 30 = .ok (.aload_n 0, 1) := by decide +kernel
theorem d_Vol_loses_31 : decode b_Vol_loses 31 = .ok (.bipush (-6), 2) := by decide +kernel
theorem d_Vol_loses_33 : decode b_Vol_loses 33 = .ok (.invokevirtual 55, 3) := by decide +kernel
theorem d_Vol_loses_36 : decode b_Vol_loses 36 = .ok (.ireturn, 1) := by decide +kernel
theorem d_Vol_loses_37 : decode b_Vol_loses 37 = .ok (.iload_n 3, 1) := by decide +kernel
theorem d_Vol_loses_38 : decode b_Vol_loses 38 = .ok (.invokestatic 153, 3) := by decide +kernel
theorem d_Vol_loses_41 : decode b_Vol_loses 41 = .ok (.ifCond .ne 10, 3) := by decide +kernel
theorem d_Vol_loses_44 : decode b_Vol_loses 44 = .ok (.aload_n 0, 1) := by decide +kernel
theorem d_Vol_loses_45 : decode b_Vol_loses 45 = .ok (.bipush (-2), 2) := by decide +kernel
theorem d_Vol_loses_47 : decode b_Vol_loses 47 = .ok (.invokevirtual 55, 3) := by decide +kernel
theorem d_Vol_loses_50 : decode b_Vol_loses 50 = .ok (.ireturn, 1) := by decide +kernel
theorem d_Vol_loses_51 : decode b_Vol_loses 51 = .ok (.iload_n 3, 1) := by decide +kernel
theorem d_Vol_loses_52 : decode b_Vol_loses 52 = .ok (.ifCond .ne 15, 3) := by decide +kernel
theorem d_Vol_loses_55 : decode b_Vol_loses 55 = .ok (.aload_n 0, 1) := by decide +kernel
theorem d_Vol_loses_56 : decode b_Vol_loses 56 = .ok (.getfield 27, 3) := by decide +kernel
theorem d_Vol_loses_59 : decode b_Vol_loses 59 = .ok (.iload_n 1, 1) := by decide +kernel
theorem d_Vol_loses_60 : decode b_Vol_loses 60 = .ok (.iload_n 2, 1) := by decide +kernel
theorem d_Vol_loses_61 : decode b_Vol_loses 61 = .ok (.invokevirtual 215, 3) := by decide +kernel
theorem d_Vol_loses_64 : decode b_Vol_loses 64 = .ok (.goto 12, 3) := by decide +kernel
theorem d_Vol_loses_67 : decode b_Vol_loses 67 = .ok (.aload_n 0, 1) := by decide +kernel
theorem d_Vol_loses_68 : decode b_Vol_loses 68 = .ok (.getfield 27, 3) := by decide +kernel
theorem d_Vol_loses_71 : decode b_Vol_loses 71 = .ok (.iload_n 1, 1) := by decide +kernel
theorem d_Vol_loses_72 : decode b_Vol_loses 72 = .ok (.iload_n 2, 1) := by decide +kernel
theorem d_Vol_loses_73 : decode b_Vol_loses 73 = .ok (.invokevirtual 218, 3) := by decide +kernel
theorem d_Vol_loses_76 : decode b_Vol_loses 76 = .ok (.ireturn, 1) := by decide +kernel
def m_Vol_loses (x1 : Int) (x2 : Int) (x3 : Int) (now : Int → Int) (nbt : Int → Int) (nki : Int → Int) (npl : Int → Int) (nva : Int → Int) (nwr : Int → Int) (tow : Int → Int) (tbt : Int → Int) (tki : Int → Int) (tpl : Int → Int) (tva : Int → Int) (twr : Int → Int) (trm : Int) (trs : Int → Int) (trz : Int → Int) (rf : Int → Int) : Option (Int × (Int → Int) × (Int → Int) × (Int → Int) × (Int → Int) × (Int → Int) × (Int → Int) × Int × (Int → Int) × (Int → Int) × (Int → Int)) :=
  bnd (m_Vol_isFile x1) (fun r1 => ceq r1 0 (bnd (m_Vol_refuse (-1) rf) (fun r15 => some (r15.1, tow, tbt, tki, tpl, tva, twr, trm, trs, trz, r15.2))) (clt x2 0 (bnd (m_Vol_refuse (-4) rf) (fun r13 => some (r13.1, tow, tbt, tki, tpl, tva, twr, trm, trs, trz, r13.2))) (cle x2 99 (bnd (m_Vol_isEither x3) (fun r3 => ceq r3 0 (bnd (m_Vol_refuse (-2) rf) (fun r9 => some (r9.1, tow, tbt, tki, tpl, tva, twr, trm, trs, trz, r9.2))) (ceq x3 0 (bnd (m_Mind_lossOfOwn x1 x2 now nbt nki npl nva nwr tow tbt tki tpl tva twr trm trs trz) (fun r7 => some (r7.1, r7.2.1, r7.2.2.1, r7.2.2.2.1, r7.2.2.2.2.1, r7.2.2.2.2.2.1, r7.2.2.2.2.2.2.1, r7.2.2.2.2.2.2.2.1, r7.2.2.2.2.2.2.2.2.1, r7.2.2.2.2.2.2.2.2.2, rf))) (bnd (m_Mind_lossOfOthers x1 x2 now nbt nki npl nva nwr tow tbt tki tpl tva twr trm trs trz) (fun r5 => some (r5.1, r5.2.1, r5.2.2.1, r5.2.2.2.1, r5.2.2.2.2.1, r5.2.2.2.2.2.1, r5.2.2.2.2.2.2.1, r5.2.2.2.2.2.2.2.1, r5.2.2.2.2.2.2.2.2.1, r5.2.2.2.2.2.2.2.2.2, rf)))))) (bnd (m_Vol_refuse (-6) rf) (fun r11 => some (r11.1, tow, tbt, tki, tpl, tva, twr, trm, trs, trz, r11.2))))))
set_option maxHeartbeats 4000000 in
set_option maxRecDepth 100000 in
theorem c_Vol_loses (l : Launch) (D : va_G) (cI cB : ClassId) (a0 a1 a2 a3 a4 a5 a6 a7 a8 a9 a10 a11 a12 a13 a14 a15 a16 a17 a18 a19 a20 a21 a22 a23 a24 a25 a26 a27 a28 a29 a30 a31 a32 a33 a34 a35 a36 a37 : Nat) (ik : Int) (now : Int → Int) (nbt : Int → Int) (nki : Int → Int) (npl : Int → Int) (nva : Int → Int) (nwr : Int → Int) (nrm : Int) (nrs : Int → Int) (nrz : Int → Int) (kow : Int → Int) (kbt : Int → Int) (kki : Int → Int) (kpl : Int → Int) (kva : Int → Int) (kwr : Int → Int) (krm : Int) (krs : Int → Int) (krz : Int → Int) (tow : Int → Int) (tbt : Int → Int) (tki : Int → Int) (tpl : Int → Int) (tva : Int → Int) (twr : Int → Int) (trm : Int) (trs : Int → Int) (trz : Int → Int) (seed : Int) (smn : Int) (snu : Int → Int) (rmn : Int) (rnu : Int → Int) (rf : Int → Int) (x1 : Int) (x2 : Int) (x3 : Int) {o : Int × (Int → Int) × (Int → Int) × (Int → Int) × (Int → Int) × (Int → Int) × (Int → Int) × Int × (Int → Int) × (Int → Int) × (Int → Int)} (h : m_Vol_loses x1 x2 x3 now nbt nki npl nva nwr tow tbt tki tpl tva twr trm trs trz rf = some o) : Ct l D cI cB y_Vol_loses b_Vol_loses 4 (some .int) { frames := 6, cells := 0, slots := 0, locals := 149 } [.ref a0, .int (zi x1), .int (zi x2), .int (zi x3)] (w_Vol cI cB a0 a1 a2 a3 a4 a5 a6 a7 a8 a9 a10 a11 a12 a13 a14 a15 a16 a17 a18 a19 a20 a21 a22 a23 a24 a25 a26 a27 a28 a29 a30 a31 a32 a33 a34 a35 a36 a37 ik now nbt nki npl nva nwr nrm nrs nrz kow kbt kki kpl kva kwr krm krs krz tow tbt tki tpl tva twr trm trs trz seed smn snu rmn rnu rf) (w_Vol cI cB a0 a1 a2 a3 a4 a5 a6 a7 a8 a9 a10 a11 a12 a13 a14 a15 a16 a17 a18 a19 a20 a21 a22 a23 a24 a25 a26 a27 a28 a29 a30 a31 a32 a33 a34 a35 a36 a37 ik now nbt nki npl nva nwr nrm nrs nrz kow kbt kki kpl kva kwr krm krs krz o.2.1 o.2.2.1 o.2.2.2.1 o.2.2.2.2.1 o.2.2.2.2.2.1 o.2.2.2.2.2.2.1 o.2.2.2.2.2.2.2.1 o.2.2.2.2.2.2.2.2.1 o.2.2.2.2.2.2.2.2.2.1 seed smn snu rmn rnu o.2.2.2.2.2.2.2.2.2.2) (some (.int (zi o.1))) := by
  refine Ct.start (by decide) (Nat.le_of_ble_eq_true rfl) (fun G X hR => ?_)
  refine x_ls (ls2 := [(0, .ref a0), (1, .int (zi x1)), (2, .int (zi x2)), (3, .int (zi x3))]) [0, 1, 2, 3] rfl ?_
  unfold m_Vol_loses at h
  refine x_iload_n (pc := 0) X d_Vol_loses_0 1 rfl rfl ?_
  obtain ⟨r1, h2, h⟩ := bnd_e h
  refine x_callS (pc := 1) (As := [.int (zi x1)]) (rest := []) (w2 := (w_Vol cI cB a0 a1 a2 a3 a4 a5 a6 a7 a8 a9 a10 a11 a12 a13 a14 a15 a16 a17 a18 a19 a20 a21 a22 a23 a24 a25 a26 a27 a28 a29 a30 a31 a32 a33 a34 a35 a36 a37 ik now nbt nki npl nva nwr nrm nrs nrz kow kbt kki kpl kva kwr krm krs krz tow tbt tki tpl tva twr trm trs trz seed smn snu rmn rnu rf)) X d_Vol_loses_1 lk_Vol_84 mv_Vol_isFile (c_Vol_isFile l D cI cB x1 h2) ⟨(Nat.le_of_ble_eq_true rfl), (Nat.le_of_ble_eq_true rfl), (Nat.le_of_ble_eq_true rfl), (Nat.le_of_ble_eq_true rfl)⟩ [] rfl rfl rfl (Up.same rfl) rfl rfl (Nat.le_of_ble_eq_true rfl) ?_
  refine x_ifne (pc := 4) (tgt := 13) X d_Vol_loses_4 rfl h (fun h => ?_) (fun h => ?_)
  · skip
    refine x_iload_n (pc := 13) X d_Vol_loses_13 2 rfl rfl ?_
    refine x_ifge (pc := 14) (tgt := 24) X d_Vol_loses_14 rfl h (fun h => ?_) (fun h => ?_)
    · skip
      refine x_iload_n (pc := 24) X d_Vol_loses_24 2 rfl rfl ?_
      refine x_bipush (pc := 25) (v := 99) X d_Vol_loses_25 rfl ?_
      refine x_icmple (pc := 27) (tgt := 37) X d_Vol_loses_27 rfl h (fun h => ?_) (fun h => ?_)
      · skip
        refine x_iload_n (pc := 37) X d_Vol_loses_37 3 rfl rfl ?_
        obtain ⟨r3, h4, h⟩ := bnd_e h
        refine x_callS (pc := 38) (As := [.int (zi x3)]) (rest := []) (w2 := (w_Vol cI cB a0 a1 a2 a3 a4 a5 a6 a7 a8 a9 a10 a11 a12 a13 a14 a15 a16 a17 a18 a19 a20 a21 a22 a23 a24 a25 a26 a27 a28 a29 a30 a31 a32 a33 a34 a35 a36 a37 ik now nbt nki npl nva nwr nrm nrs nrz kow kbt kki kpl kva kwr krm krs krz tow tbt tki tpl tva twr trm trs trz seed smn snu rmn rnu rf)) X d_Vol_loses_38 lk_Vol_153 mv_Vol_isEither (c_Vol_isEither l D cI cB x3 h4) ⟨(Nat.le_of_ble_eq_true rfl), (Nat.le_of_ble_eq_true rfl), (Nat.le_of_ble_eq_true rfl), (Nat.le_of_ble_eq_true rfl)⟩ [] rfl rfl rfl (Up.same rfl) rfl rfl (Nat.le_of_ble_eq_true rfl) ?_
        refine x_ifne (pc := 41) (tgt := 51) X d_Vol_loses_41 rfl h (fun h => ?_) (fun h => ?_)
        · skip
          refine x_iload_n (pc := 51) X d_Vol_loses_51 3 rfl rfl ?_
          refine x_ifne (pc := 52) (tgt := 67) X d_Vol_loses_52 rfl h (fun h => ?_) (fun h => ?_)
          · skip
            refine x_aload_n (pc := 67) X d_Vol_loses_67 0 rfl rfl ?_
            refine x_get (pc := 68) X d_Vol_loses_68 0 rfl fl_Vol_27 rfl ?_
            refine x_iload_n (pc := 71) X d_Vol_loses_71 1 rfl rfl ?_
            refine x_iload_n (pc := 72) X d_Vol_loses_72 2 rfl rfl ?_
            obtain ⟨r5, h6, h⟩ := bnd_e h
            refine x_callV (pc := 73) (As := [.int (zi x1), .int (zi x2)]) (rest := []) (w2 := (w_Vol cI cB a0 a1 a2 a3 a4 a5 a6 a7 a8 a9 a10 a11 a12 a13 a14 a15 a16 a17 a18 a19 a20 a21 a22 a23 a24 a25 a26 a27 a28 a29 a30 a31 a32 a33 a34 a35 a36 a37 ik now nbt nki npl nva nwr nrm nrs nrz kow kbt kki kpl kva kwr krm krs krz r5.2.1 r5.2.2.1 r5.2.2.2.1 r5.2.2.2.2.1 r5.2.2.2.2.2.1 r5.2.2.2.2.2.2.1 r5.2.2.2.2.2.2.2.1 r5.2.2.2.2.2.2.2.2.1 r5.2.2.2.2.2.2.2.2.2 seed smn snu rmn rnu rf)) X d_Vol_loses_73 lk_Vol_218 mv_Mind_lossOfOthers (c_Mind_lossOfOthers l D cI cB a31 a1 a2 a3 a4 a5 a6 a7 a8 a9 a10 a21 a22 a23 a24 a25 a26 a27 a28 a29 a30 seed now nbt nki npl nva nwr nrm nrs nrz tow tbt tki tpl tva twr trm trs trz x1 x2 h6) ⟨(Nat.le_of_ble_eq_true rfl), (Nat.le_of_ble_eq_true rfl), (Nat.le_of_ble_eq_true rfl), (Nat.le_of_ble_eq_true rfl)⟩ 31 rfl rfl [31, 1, 2, 3, 4, 5, 6, 7, 8, 9, 10, 21, 22, 23, 24, 25, 26, 27, 28, 29, 30] rfl rfl rfl (Up.of [0, 11, 12, 13, 14, 15, 16, 17, 18, 19, 20, 32, 33, 34, 35, 36, 37] [(a0, .inr (5, [.ref a1, .ref a11, .ref a21, .ref a31, .ref a32, .ref a35, .ref a37, .int (zi ik)])), (a11, .inr (0, [.ref a12, .ref a13, .ref a14, .ref a15, .ref a16, .ref a17, .ref a18])), (a12, zA cI 64 kow), (a13, zA cI 64 kbt), (a14, zA cI 4 kki), (a15, zA cI 96 kpl), (a16, zA cI 96 kva), (a17, zA cB 96 kwr), (a18, .inr (3, [.ref a19, .ref a20, .int (zi krm)])), (a19, zA cI 32 krs), (a20, zA cI 32 krz), (a32, .inr (4, [.ref a33])), (a33, .inr (2, [.ref a34, .int (zi smn)])), (a34, zA cI 96 snu), (a35, .inr (2, [.ref a36, .int (zi rmn)])), (a36, zA cI 32 rnu), (a37, zA cI 7 rf)] rfl rfl rfl 38 rfl (by decide +kernel)) rfl rfl (Nat.le_of_ble_eq_true rfl) ?_
            cases h
            exact x_iret (pc := 76) X hR d_Vol_loses_76
          · skip
            refine x_aload_n (pc := 55) X d_Vol_loses_55 0 rfl rfl ?_
            refine x_get (pc := 56) X d_Vol_loses_56 0 rfl fl_Vol_27 rfl ?_
            refine x_iload_n (pc := 59) X d_Vol_loses_59 1 rfl rfl ?_
            refine x_iload_n (pc := 60) X d_Vol_loses_60 2 rfl rfl ?_
            obtain ⟨r7, h8, h⟩ := bnd_e h
            refine x_callV (pc := 61) (As := [.int (zi x1), .int (zi x2)]) (rest := []) (w2 := (w_Vol cI cB a0 a1 a2 a3 a4 a5 a6 a7 a8 a9 a10 a11 a12 a13 a14 a15 a16 a17 a18 a19 a20 a21 a22 a23 a24 a25 a26 a27 a28 a29 a30 a31 a32 a33 a34 a35 a36 a37 ik now nbt nki npl nva nwr nrm nrs nrz kow kbt kki kpl kva kwr krm krs krz r7.2.1 r7.2.2.1 r7.2.2.2.1 r7.2.2.2.2.1 r7.2.2.2.2.2.1 r7.2.2.2.2.2.2.1 r7.2.2.2.2.2.2.2.1 r7.2.2.2.2.2.2.2.2.1 r7.2.2.2.2.2.2.2.2.2 seed smn snu rmn rnu rf)) X d_Vol_loses_61 lk_Vol_215 mv_Mind_lossOfOwn (c_Mind_lossOfOwn l D cI cB a31 a1 a2 a3 a4 a5 a6 a7 a8 a9 a10 a21 a22 a23 a24 a25 a26 a27 a28 a29 a30 seed now nbt nki npl nva nwr nrm nrs nrz tow tbt tki tpl tva twr trm trs trz x1 x2 h8) ⟨(Nat.le_of_ble_eq_true rfl), (Nat.le_of_ble_eq_true rfl), (Nat.le_of_ble_eq_true rfl), (Nat.le_of_ble_eq_true rfl)⟩ 31 rfl rfl [31, 1, 2, 3, 4, 5, 6, 7, 8, 9, 10, 21, 22, 23, 24, 25, 26, 27, 28, 29, 30] rfl rfl rfl (Up.of [0, 11, 12, 13, 14, 15, 16, 17, 18, 19, 20, 32, 33, 34, 35, 36, 37] [(a0, .inr (5, [.ref a1, .ref a11, .ref a21, .ref a31, .ref a32, .ref a35, .ref a37, .int (zi ik)])), (a11, .inr (0, [.ref a12, .ref a13, .ref a14, .ref a15, .ref a16, .ref a17, .ref a18])), (a12, zA cI 64 kow), (a13, zA cI 64 kbt), (a14, zA cI 4 kki), (a15, zA cI 96 kpl), (a16, zA cI 96 kva), (a17, zA cB 96 kwr), (a18, .inr (3, [.ref a19, .ref a20, .int (zi krm)])), (a19, zA cI 32 krs), (a20, zA cI 32 krz), (a32, .inr (4, [.ref a33])), (a33, .inr (2, [.ref a34, .int (zi smn)])), (a34, zA cI 96 snu), (a35, .inr (2, [.ref a36, .int (zi rmn)])), (a36, zA cI 32 rnu), (a37, zA cI 7 rf)] rfl rfl rfl 38 rfl (by decide +kernel)) rfl rfl (Nat.le_of_ble_eq_true rfl) ?_
            refine x_goto (pc := 64) (tgt := 76) X d_Vol_loses_64 rfl ?_
            cases h
            exact x_iret (pc := 76) X hR d_Vol_loses_76
        · skip
          refine x_aload_n (pc := 44) X d_Vol_loses_44 0 rfl rfl ?_
          refine x_bipush (pc := 45) (v := -2) X d_Vol_loses_45 rfl ?_
          obtain ⟨r9, h10, h⟩ := bnd_e h
          refine x_callV (pc := 47) (As := [.int (zi (-2))]) (rest := []) (w2 := (w_Vol cI cB a0 a1 a2 a3 a4 a5 a6 a7 a8 a9 a10 a11 a12 a13 a14 a15 a16 a17 a18 a19 a20 a21 a22 a23 a24 a25 a26 a27 a28 a29 a30 a31 a32 a33 a34 a35 a36 a37 ik now nbt nki npl nva nwr nrm nrs nrz kow kbt kki kpl kva kwr krm krs krz tow tbt tki tpl tva twr trm trs trz seed smn snu rmn rnu r9.2)) X d_Vol_loses_47 lk_Vol_55 mv_Vol_refuse (c_Vol_refuse l D cI cB a0 a1 a2 a3 a4 a5 a6 a7 a8 a9 a10 a11 a12 a13 a14 a15 a16 a17 a18 a19 a20 a21 a22 a23 a24 a25 a26 a27 a28 a29 a30 a31 a32 a33 a34 a35 a36 a37 ik now nbt nki npl nva nwr nrm nrs nrz kow kbt kki kpl kva kwr krm krs krz tow tbt tki tpl tva twr trm trs trz seed smn snu rmn rnu rf (-2) h10) ⟨(Nat.le_of_ble_eq_true rfl), (Nat.le_of_ble_eq_true rfl), (Nat.le_of_ble_eq_true rfl), (Nat.le_of_ble_eq_true rfl)⟩ 0 rfl rfl [0, 1, 2, 3, 4, 5, 6, 7, 8, 9, 10, 11, 12, 13, 14, 15, 16, 17, 18, 19, 20, 21, 22, 23, 24, 25, 26, 27, 28, 29, 30, 31, 32, 33, 34, 35, 36, 37] rfl rfl rfl (Up.of [] [] rfl rfl rfl 38 rfl (by decide +kernel)) rfl rfl (Nat.le_of_ble_eq_true rfl) ?_
          cases h
          exact x_iret (pc := 50) X hR d_Vol_loses_50
      · skip
        refine x_aload_n (pc := 30) X d_Vol_loses_30 0 rfl rfl ?_
        refine x_bipush (pc := 31) (v := -6) X d_Vol_loses_31 rfl ?_
        obtain ⟨r11, h12, h⟩ := bnd_e h
        refine x_callV (pc := 33) (As := [.int (zi (-6))]) (rest := []) (w2 := (w_Vol cI cB a0 a1 a2 a3 a4 a5 a6 a7 a8 a9 a10 a11 a12 a13 a14 a15 a16 a17 a18 a19 a20 a21 a22 a23 a24 a25 a26 a27 a28 a29 a30 a31 a32 a33 a34 a35 a36 a37 ik now nbt nki npl nva nwr nrm nrs nrz kow kbt kki kpl kva kwr krm krs krz tow tbt tki tpl tva twr trm trs trz seed smn snu rmn rnu r11.2)) X d_Vol_loses_33 lk_Vol_55 mv_Vol_refuse (c_Vol_refuse l D cI cB a0 a1 a2 a3 a4 a5 a6 a7 a8 a9 a10 a11 a12 a13 a14 a15 a16 a17 a18 a19 a20 a21 a22 a23 a24 a25 a26 a27 a28 a29 a30 a31 a32 a33 a34 a35 a36 a37 ik now nbt nki npl nva nwr nrm nrs nrz kow kbt kki kpl kva kwr krm krs krz tow tbt tki tpl tva twr trm trs trz seed smn snu rmn rnu rf (-6) h12) ⟨(Nat.le_of_ble_eq_true rfl), (Nat.le_of_ble_eq_true rfl), (Nat.le_of_ble_eq_true rfl), (Nat.le_of_ble_eq_true rfl)⟩ 0 rfl rfl [0, 1, 2, 3, 4, 5, 6, 7, 8, 9, 10, 11, 12, 13, 14, 15, 16, 17, 18, 19, 20, 21, 22, 23, 24, 25, 26, 27, 28, 29, 30, 31, 32, 33, 34, 35, 36, 37] rfl rfl rfl (Up.of [] [] rfl rfl rfl 38 rfl (by decide +kernel)) rfl rfl (Nat.le_of_ble_eq_true rfl) ?_
        cases h
        exact x_iret (pc := 36) X hR d_Vol_loses_36
    · skip
      refine x_aload_n (pc := 17) X d_Vol_loses_17 0 rfl rfl ?_
      refine x_bipush (pc := 18) (v := -4) X d_Vol_loses_18 rfl ?_
      obtain ⟨r13, h14, h⟩ := bnd_e h
      refine x_callV (pc := 20) (As := [.int (zi (-4))]) (rest := []) (w2 := (w_Vol cI cB a0 a1 a2 a3 a4 a5 a6 a7 a8 a9 a10 a11 a12 a13 a14 a15 a16 a17 a18 a19 a20 a21 a22 a23 a24 a25 a26 a27 a28 a29 a30 a31 a32 a33 a34 a35 a36 a37 ik now nbt nki npl nva nwr nrm nrs nrz kow kbt kki kpl kva kwr krm krs krz tow tbt tki tpl tva twr trm trs trz seed smn snu rmn rnu r13.2)) X d_Vol_loses_20 lk_Vol_55 mv_Vol_refuse (c_Vol_refuse l D cI cB a0 a1 a2 a3 a4 a5 a6 a7 a8 a9 a10 a11 a12 a13 a14 a15 a16 a17 a18 a19 a20 a21 a22 a23 a24 a25 a26 a27 a28 a29 a30 a31 a32 a33 a34 a35 a36 a37 ik now nbt nki npl nva nwr nrm nrs nrz kow kbt kki kpl kva kwr krm krs krz tow tbt tki tpl tva twr trm trs trz seed smn snu rmn rnu rf (-4) h14) ⟨(Nat.le_of_ble_eq_true rfl), (Nat.le_of_ble_eq_true rfl), (Nat.le_of_ble_eq_true rfl), (Nat.le_of_ble_eq_true rfl)⟩ 0 rfl rfl [0, 1, 2, 3, 4, 5, 6, 7, 8, 9, 10, 11, 12, 13, 14, 15, 16, 17, 18, 19, 20, 21, 22, 23, 24, 25, 26, 27, 28, 29, 30, 31, 32, 33, 34, 35, 36, 37] rfl rfl rfl (Up.of [] [] rfl rfl rfl 38 rfl (by decide +kernel)) rfl rfl (Nat.le_of_ble_eq_true rfl) ?_
      cases h
      exact x_iret (pc := 23) X hR d_Vol_loses_23
  · skip
    refine x_aload_n (pc := 7) X d_Vol_loses_7 0 rfl rfl ?_
    refine x_iconst (pc := 8) X d_Vol_loses_8  ?_
    obtain ⟨r15, h16, h⟩ := bnd_e h
    refine x_callV (pc := 9) (As := [.int (zi (-1))]) (rest := []) (w2 := (w_Vol cI cB a0 a1 a2 a3 a4 a5 a6 a7 a8 a9 a10 a11 a12 a13 a14 a15 a16 a17 a18 a19 a20 a21 a22 a23 a24 a25 a26 a27 a28 a29 a30 a31 a32 a33 a34 a35 a36 a37 ik now nbt nki npl nva nwr nrm nrs nrz kow kbt kki kpl kva kwr krm krs krz tow tbt tki tpl tva twr trm trs trz seed smn snu rmn rnu r15.2)) X d_Vol_loses_9 lk_Vol_55 mv_Vol_refuse (c_Vol_refuse l D cI cB a0 a1 a2 a3 a4 a5 a6 a7 a8 a9 a10 a11 a12 a13 a14 a15 a16 a17 a18 a19 a20 a21 a22 a23 a24 a25 a26 a27 a28 a29 a30 a31 a32 a33 a34 a35 a36 a37 ik now nbt nki npl nva nwr nrm nrs nrz kow kbt kki kpl kva kwr krm krs krz tow tbt tki tpl tva twr trm trs trz seed smn snu rmn rnu rf (-1) h16) ⟨(Nat.le_of_ble_eq_true rfl), (Nat.le_of_ble_eq_true rfl), (Nat.le_of_ble_eq_true rfl), (Nat.le_of_ble_eq_true rfl)⟩ 0 rfl rfl [0, 1, 2, 3, 4, 5, 6, 7, 8, 9, 10, 11, 12, 13, 14, 15, 16, 17, 18, 19, 20, 21, 22, 23, 24, 25, 26, 27, 28, 29, 30, 31, 32, 33, 34, 35, 36, 37] rfl rfl rfl (Up.of [] [] rfl rfl rfl 38 rfl (by decide +kernel)) rfl rfl (Nat.le_of_ble_eq_true rfl) ?_
    cases h
    exact x_iret (pc := 12) X hR d_Vol_loses_12
theorem d_Vol_safe_0 : decode b_Vol_safe 0 = .ok (.iload_n 1, 1) := by decide +kernel
theorem d_Vol_safe_1 : decode b_Vol_safe 1 = .ok (.invokestatic 84, 3) := by decide +kernel
theorem d_Vol_safe_4 : decode b_Vol_safe 4 = .ok (.ifCond .ne 9, 3) := by decide +kernel
theorem d_Vol_safe_7 : decode b_Vol_safe 7 = .ok (.aload_n 0, 1) := by decide +kernel
theorem d_Vol_safe_8 : decode b_Vol_safe 8 = .ok (.iconst (-1), 1) := by decide +kernel
theorem d_Vol_safe_9 : decode b_Vol_safe 9 = .ok (.invokevirtual 55, 3) := by decide +kernel
theorem d_Vol_safe_12 : decode b_Vol_safe 12 = .ok (.ireturn, 1) := by decide +kernel
theorem d_Vol_safe_13 : decode b_Vol_safe 13 = .ok (.aload_n 0, 1) := by decide +kernel
theorem d_Vol_safe_14 : decode b_Vol_safe 14 = .ok (.getfield 27, 3) := by decide +kernel
theorem d_Vol_safe_17 : decode b_Vol_safe 17 = .ok (.iload_n 1, 1) := by decide +kernel
theorem d_Vol_safe_18 : decode b_Vol_safe 18 = .ok (.invokevirtual 221, 3) := by decide +kernel
theorem d_Vol_safe_21 : decode b_Vol_safe 21 = .ok (.ireturn, 1) := by decide +kernel
def m_Vol_safe (x1 : Int) (now : Int → Int) (nbt : Int → Int) (nki : Int → Int) (npl : Int → Int) (nva : Int → Int) (nwr : Int → Int) (tow : Int → Int) (tbt : Int → Int) (tki : Int → Int) (tpl : Int → Int) (tva : Int → Int) (twr : Int → Int) (trm : Int) (trs : Int → Int) (trz : Int → Int) (rf : Int → Int) : Option (Int × (Int → Int) × (Int → Int) × (Int → Int) × (Int → Int) × (Int → Int) × (Int → Int) × Int × (Int → Int) × (Int → Int) × (Int → Int)) :=
  bnd (m_Vol_isFile x1) (fun r1 => ceq r1 0 (bnd (m_Vol_refuse (-1) rf) (fun r5 => some (r5.1, tow, tbt, tki, tpl, tva, twr, trm, trs, trz, r5.2))) (bnd (m_Mind_leastSafe x1 now nbt nki npl nva nwr tow tbt tki tpl tva twr trm trs trz) (fun r3 => some (r3.1, r3.2.1, r3.2.2.1, r3.2.2.2.1, r3.2.2.2.2.1, r3.2.2.2.2.2.1, r3.2.2.2.2.2.2.1, r3.2.2.2.2.2.2.2.1, r3.2.2.2.2.2.2.2.2.1, r3.2.2.2.2.2.2.2.2.2, rf))))
set_option maxHeartbeats 4000000 in
set_option maxRecDepth 100000 in
theorem c_Vol_safe (l : Launch) (D : va_G) (cI cB : ClassId) (a0 a1 a2 a3 a4 a5 a6 a7 a8 a9 a10 a11 a12 a13 a14 a15 a16 a17 a18 a19 a20 a21 a22 a23 a24 a25 a26 a27 a28 a29 a30 a31 a32 a33 a34 a35 a36 a37 : Nat) (ik : Int) (now : Int → Int) (nbt : Int → Int) (nki : Int → Int) (npl : Int → Int) (nva : Int → Int) (nwr : Int → Int) (nrm : Int) (nrs : Int → Int) (nrz : Int → Int) (kow : Int → Int) (kbt : Int → Int) (kki : Int → Int) (kpl : Int → Int) (kva : Int → Int) (kwr : Int → Int) (krm : Int) (krs : Int → Int) (krz : Int → Int) (tow : Int → Int) (tbt : Int → Int) (tki : Int → Int) (tpl : Int → Int) (tva : Int → Int) (twr : Int → Int) (trm : Int) (trs : Int → Int) (trz : Int → Int) (seed : Int) (smn : Int) (snu : Int → Int) (rmn : Int) (rnu : Int → Int) (rf : Int → Int) (x1 : Int) {o : Int × (Int → Int) × (Int → Int) × (Int → Int) × (Int → Int) × (Int → Int) × (Int → Int) × Int × (Int → Int) × (Int → Int) × (Int → Int)} (h : m_Vol_safe x1 now nbt nki npl nva nwr tow tbt tki tpl tva twr trm trs trz rf = some o) : Ct l D cI cB y_Vol_safe b_Vol_safe 2 (some .int) { frames := 6, cells := 0, slots := 0, locals := 148 } [.ref a0, .int (zi x1)] (w_Vol cI cB a0 a1 a2 a3 a4 a5 a6 a7 a8 a9 a10 a11 a12 a13 a14 a15 a16 a17 a18 a19 a20 a21 a22 a23 a24 a25 a26 a27 a28 a29 a30 a31 a32 a33 a34 a35 a36 a37 ik now nbt nki npl nva nwr nrm nrs nrz kow kbt kki kpl kva kwr krm krs krz tow tbt tki tpl tva twr trm trs trz seed smn snu rmn rnu rf) (w_Vol cI cB a0 a1 a2 a3 a4 a5 a6 a7 a8 a9 a10 a11 a12 a13 a14 a15 a16 a17 a18 a19 a20 a21 a22 a23 a24 a25 a26 a27 a28 a29 a30 a31 a32 a33 a34 a35 a36 a37 ik now nbt nki npl nva nwr nrm nrs nrz kow kbt kki kpl kva kwr krm krs krz o.2.1 o.2.2.1 o.2.2.2.1 o.2.2.2.2.1 o.2.2.2.2.2.1 o.2.2.2.2.2.2.1 o.2.2.2.2.2.2.2.1 o.2.2.2.2.2.2.2.2.1 o.2.2.2.2.2.2.2.2.2.1 seed smn snu rmn rnu o.2.2.2.2.2.2.2.2.2.2) (some (.int (zi o.1))) := by
  refine Ct.start (by decide) (Nat.le_of_ble_eq_true rfl) (fun G X hR => ?_)
  refine x_ls (ls2 := [(0, .ref a0), (1, .int (zi x1))]) [0, 1] rfl ?_
  unfold m_Vol_safe at h
  refine x_iload_n (pc := 0) X d_Vol_safe_0 1 rfl rfl ?_
  obtain ⟨r1, h2, h⟩ := bnd_e h
  refine x_callS (pc := 1) (As := [.int (zi x1)]) (rest := []) (w2 := (w_Vol cI cB a0 a1 a2 a3 a4 a5 a6 a7 a8 a9 a10 a11 a12 a13 a14 a15 a16 a17 a18 a19 a20 a21 a22 a23 a24 a25 a26 a27 a28 a29 a30 a31 a32 a33 a34 a35 a36 a37 ik now nbt nki npl nva nwr nrm nrs nrz kow kbt kki kpl kva kwr krm krs krz tow tbt tki tpl tva twr trm trs trz seed smn snu rmn rnu rf)) X d_Vol_safe_1 lk_Vol_84 mv_Vol_isFile (c_Vol_isFile l D cI cB x1 h2) ⟨(Nat.le_of_ble_eq_true rfl), (Nat.le_of_ble_eq_true rfl), (Nat.le_of_ble_eq_true rfl), (Nat.le_of_ble_eq_true rfl)⟩ [] rfl rfl rfl (Up.same rfl) rfl rfl (Nat.le_of_ble_eq_true rfl) ?_
  refine x_ifne (pc := 4) (tgt := 13) X d_Vol_safe_4 rfl h (fun h => ?_) (fun h => ?_)
  · skip
    refine x_aload_n (pc := 13) X d_Vol_safe_13 0 rfl rfl ?_
    refine x_get (pc := 14) X d_Vol_safe_14 0 rfl fl_Vol_27 rfl ?_
    refine x_iload_n (pc := 17) X d_Vol_safe_17 1 rfl rfl ?_
    obtain ⟨r3, h4, h⟩ := bnd_e h
    refine x_callV (pc := 18) (As := [.int (zi x1)]) (rest := []) (w2 := (w_Vol cI cB a0 a1 a2 a3 a4 a5 a6 a7 a8 a9 a10 a11 a12 a13 a14 a15 a16 a17 a18 a19 a20 a21 a22 a23 a24 a25 a26 a27 a28 a29 a30 a31 a32 a33 a34 a35 a36 a37 ik now nbt nki npl nva nwr nrm nrs nrz kow kbt kki kpl kva kwr krm krs krz r3.2.1 r3.2.2.1 r3.2.2.2.1 r3.2.2.2.2.1 r3.2.2.2.2.2.1 r3.2.2.2.2.2.2.1 r3.2.2.2.2.2.2.2.1 r3.2.2.2.2.2.2.2.2.1 r3.2.2.2.2.2.2.2.2.2 seed smn snu rmn rnu rf)) X d_Vol_safe_18 lk_Vol_221 mv_Mind_leastSafe (c_Mind_leastSafe l D cI cB a31 a1 a2 a3 a4 a5 a6 a7 a8 a9 a10 a21 a22 a23 a24 a25 a26 a27 a28 a29 a30 seed now nbt nki npl nva nwr nrm nrs nrz tow tbt tki tpl tva twr trm trs trz x1 h4) ⟨(Nat.le_of_ble_eq_true rfl), (Nat.le_of_ble_eq_true rfl), (Nat.le_of_ble_eq_true rfl), (Nat.le_of_ble_eq_true rfl)⟩ 31 rfl rfl [31, 1, 2, 3, 4, 5, 6, 7, 8, 9, 10, 21, 22, 23, 24, 25, 26, 27, 28, 29, 30] rfl rfl rfl (Up.of [0, 11, 12, 13, 14, 15, 16, 17, 18, 19, 20, 32, 33, 34, 35, 36, 37] [(a0, .inr (5, [.ref a1, .ref a11, .ref a21, .ref a31, .ref a32, .ref a35, .ref a37, .int (zi ik)])), (a11, .inr (0, [.ref a12, .ref a13, .ref a14, .ref a15, .ref a16, .ref a17, .ref a18])), (a12, zA cI 64 kow), (a13, zA cI 64 kbt), (a14, zA cI 4 kki), (a15, zA cI 96 kpl), (a16, zA cI 96 kva), (a17, zA cB 96 kwr), (a18, .inr (3, [.ref a19, .ref a20, .int (zi krm)])), (a19, zA cI 32 krs), (a20, zA cI 32 krz), (a32, .inr (4, [.ref a33])), (a33, .inr (2, [.ref a34, .int (zi smn)])), (a34, zA cI 96 snu), (a35, .inr (2, [.ref a36, .int (zi rmn)])), (a36, zA cI 32 rnu), (a37, zA cI 7 rf)] rfl rfl rfl 38 rfl (by decide +kernel)) rfl rfl (Nat.le_of_ble_eq_true rfl) ?_
    cases h
    exact x_iret (pc := 21) X hR d_Vol_safe_21
  · skip
    refine x_aload_n (pc := 7) X d_Vol_safe_7 0 rfl rfl ?_
    refine x_iconst (pc := 8) X d_Vol_safe_8  ?_
    obtain ⟨r5, h6, h⟩ := bnd_e h
    refine x_callV (pc := 9) (As := [.int (zi (-1))]) (rest := []) (w2 := (w_Vol cI cB a0 a1 a2 a3 a4 a5 a6 a7 a8 a9 a10 a11 a12 a13 a14 a15 a16 a17 a18 a19 a20 a21 a22 a23 a24 a25 a26 a27 a28 a29 a30 a31 a32 a33 a34 a35 a36 a37 ik now nbt nki npl nva nwr nrm nrs nrz kow kbt kki kpl kva kwr krm krs krz tow tbt tki tpl tva twr trm trs trz seed smn snu rmn rnu r5.2)) X d_Vol_safe_9 lk_Vol_55 mv_Vol_refuse (c_Vol_refuse l D cI cB a0 a1 a2 a3 a4 a5 a6 a7 a8 a9 a10 a11 a12 a13 a14 a15 a16 a17 a18 a19 a20 a21 a22 a23 a24 a25 a26 a27 a28 a29 a30 a31 a32 a33 a34 a35 a36 a37 ik now nbt nki npl nva nwr nrm nrs nrz kow kbt kki kpl kva kwr krm krs krz tow tbt tki tpl tva twr trm trs trz seed smn snu rmn rnu rf (-1) h6) ⟨(Nat.le_of_ble_eq_true rfl), (Nat.le_of_ble_eq_true rfl), (Nat.le_of_ble_eq_true rfl), (Nat.le_of_ble_eq_true rfl)⟩ 0 rfl rfl [0, 1, 2, 3, 4, 5, 6, 7, 8, 9, 10, 11, 12, 13, 14, 15, 16, 17, 18, 19, 20, 21, 22, 23, 24, 25, 26, 27, 28, 29, 30, 31, 32, 33, 34, 35, 36, 37] rfl rfl rfl (Up.of [] [] rfl rfl rfl 38 rfl (by decide +kernel)) rfl rfl (Nat.le_of_ble_eq_true rfl) ?_
    cases h
    exact x_iret (pc := 12) X hR d_Vol_safe_12
theorem d_Vol_gather_0 : decode b_Vol_gather 0 = .ok (.iload_n 1, 1) := by decide +kernel
theorem d_Vol_gather_1 : decode b_Vol_gather 1 = .ok (.invokestatic 175, 3) := by decide +kernel
theorem d_Vol_gather_4 : decode b_Vol_gather 4 = .ok (.istore_n 3, 1) := by decide +kernel
theorem d_Vol_gather_5 : decode b_Vol_gather 5 = .ok (.iload_n 3, 1) := by decide +kernel
theorem d_Vol_gather_6 : decode b_Vol_gather 6 = .ok (.ifCond .ne 13, 3) := by decide +kernel
theorem d_Vol_gather_9 : decode b_Vol_gather 9 = .ok (.iload_n 2, 1) := by decide +kernel
theorem d_Vol_gather_10 : decode b_Vol_gather 10 = .ok (.invokestatic 153, 3) := by decide +kernel
theorem d_Vol_gather_13 : decode b_Vol_gather 13 = .ok (.ifCond .ne 6, 3) := by decide +kernel
theorem d_Vol_gather_16 : decode b_Vol_gather 16 = .ok (.bipush (-2), 2) := by decide +kernel
theorem d_Vol_gather_18 : decode b_Vol_gather 18 = .ok (.istore_n 3, 1) := by decide +kernel
theorem d_Vol_gather_19 : decode b_Vol_gather 19 = .ok (.iload_n 3, 1) := by decide +kernel
theorem d_Vol_gather_20 : decode b_Vol_gather 20 = .ok (.ifCond .ge 9, 3) := by decide +kernel
theorem d_Vol_gather_23 : decode b_Vol_gather 23 = .ok (.aload_n 0, 1) := by decide +kernel
theorem d_Vol_gather_24 : decode b_Vol_gather 24 = .ok (.iload_n 3, 1) := by decide +kernel
theorem d_Vol_gather_25 : decode b_Vol_gather 25 = .ok (.invokevirtual 55, 3) := by decide +kernel
theorem d_Vol_gather_28 : decode b_Vol_gather 28 = .ok (.ireturn, 1) := by decide +kernel
theorem d_Vol_gather_29 : decode b_Vol_gather 29 = .ok (.aload_n 0, 1) := by decide +kernel
theorem d_Vol_gather_30 : decode b_Vol_gather 30 = .ok (.getfield 10, 3) := by decide +kernel
theorem d_Vol_gather_33 : decode b_Vol_gather 33 = .ok (.iload_n 1, 1) := by decide +kernel
theorem d_Vol_gather_34 : decode b_Vol_gather 34 = .ok (.invokevirtual 224, 3) := by decide +kernel
theorem d_Vol_gather_37 : decode b_Vol_gather 37 = .ok (.istore 4, 2) := by decide +kernel
theorem d_Vol_gather_39 : decode b_Vol_gather 39 = .ok (.iload 4, 2) := by decide +kernel
theorem d_Vol_gather_41 : decode b_Vol_gather 41 = .ok (.ifCond .ge 6, 3) := by decide +kernel
theorem d_Vol_gather_44 : decode b_Vol_gather 44 = .ok (.bipush (-9), 2) := by decide +kernel
theorem d_Vol_gather_46 : decode b_Vol_gather 46 = .ok (.ireturn, 1) := by decide +kernel
theorem d_Vol_gather_47 : decode b_Vol_gather 47 = .ok (.iload_n 2, 1) := by decide +kernel
theorem d_Vol_gather_48 : decode b_Vol_gather 48 = .ok (.ifCond .ne 8, 3) := by decide +kernel
theorem d_Vol_gather_51 : decode b_Vol_gather 51 = .ok (.iload 4, 2) := by decide +kernel
theorem d_Vol_gather_53 : decode b_Vol_gather 53 = .ok (.goto 13, 3) := by decide +kernel
theorem d_Vol_gather_56 : decode b_Vol_gather 56 = .ok (.aload_n 0, 1) := by decide +kernel
theorem d_Vol_gather_57 : decode b_Vol_gather 57 = .ok (.getfield 10, 3) := by decide +kernel
theorem d_Vol_gather_60 : decode b_Vol_gather 60 = .ok (.iload 4, 2) := by decide +kernel
theorem d_Vol_gather_62 : decode b_Vol_gather 62 = .ok (.iload_n 1, 1) := by decide +kernel
theorem d_Vol_gather_63 : decode b_Vol_gather 63 = .ok (.invokevirtual 227, 3) := by decide +kernel
theorem d_Vol_gather_66 : decode b_Vol_gather 66 = .ok (.ireturn, 1) := by decide +kernel
def m_Vol_gather (x1 : Int) (x2 : Int) (now : Int → Int) (rf : Int → Int) : Option (Int × (Int → Int)) :=
  bnd (m_Vol_refusalOfSize x1) (fun r1 => jn (fun (z4 : Int) (z5 : Int) (z6 : Int) (c7 : Int → Int) => clt z6 0 (bnd (m_Vol_refuse z6 c7) (fun r12 => some (r12.1, r12.2))) (bnd (m_Disk_leastTakenWindow z4 now) (fun r8 => clt r8 0 (some ((-9), c7)) (ceq z5 0 (some (r8, c7)) (bnd (m_Disk_takenAmong r8 z4 now) (fun r10 => some (r10, c7))))))) (fun j3 => ceq r1 0 (bnd (m_Vol_isEither x2) (fun r16 => ceq r16 0 (j3 x1 x2 (-2) rf) (j3 x1 x2 r1 rf))) (j3 x1 x2 r1 rf)))
set_option maxHeartbeats 4000000 in
set_option maxRecDepth 100000 in
theorem c_Vol_gather (l : Launch) (D : va_G) (cI cB : ClassId) (a0 a1 a2 a3 a4 a5 a6 a7 a8 a9 a10 a11 a12 a13 a14 a15 a16 a17 a18 a19 a20 a21 a22 a23 a24 a25 a26 a27 a28 a29 a30 a31 a32 a33 a34 a35 a36 a37 : Nat) (ik : Int) (now : Int → Int) (nbt : Int → Int) (nki : Int → Int) (npl : Int → Int) (nva : Int → Int) (nwr : Int → Int) (nrm : Int) (nrs : Int → Int) (nrz : Int → Int) (kow : Int → Int) (kbt : Int → Int) (kki : Int → Int) (kpl : Int → Int) (kva : Int → Int) (kwr : Int → Int) (krm : Int) (krs : Int → Int) (krz : Int → Int) (tow : Int → Int) (tbt : Int → Int) (tki : Int → Int) (tpl : Int → Int) (tva : Int → Int) (twr : Int → Int) (trm : Int) (trs : Int → Int) (trz : Int → Int) (seed : Int) (smn : Int) (snu : Int → Int) (rmn : Int) (rnu : Int → Int) (rf : Int → Int) (x1 : Int) (x2 : Int) {o : Int × (Int → Int)} (h : m_Vol_gather x1 x2 now rf = some o) : Ct l D cI cB y_Vol_gather b_Vol_gather 5 (some .int) { frames := 3, cells := 0, slots := 0, locals := 72 } [.ref a0, .int (zi x1), .int (zi x2)] (w_Vol cI cB a0 a1 a2 a3 a4 a5 a6 a7 a8 a9 a10 a11 a12 a13 a14 a15 a16 a17 a18 a19 a20 a21 a22 a23 a24 a25 a26 a27 a28 a29 a30 a31 a32 a33 a34 a35 a36 a37 ik now nbt nki npl nva nwr nrm nrs nrz kow kbt kki kpl kva kwr krm krs krz tow tbt tki tpl tva twr trm trs trz seed smn snu rmn rnu rf) (w_Vol cI cB a0 a1 a2 a3 a4 a5 a6 a7 a8 a9 a10 a11 a12 a13 a14 a15 a16 a17 a18 a19 a20 a21 a22 a23 a24 a25 a26 a27 a28 a29 a30 a31 a32 a33 a34 a35 a36 a37 ik now nbt nki npl nva nwr nrm nrs nrz kow kbt kki kpl kva kwr krm krs krz tow tbt tki tpl tva twr trm trs trz seed smn snu rmn rnu o.2) (some (.int (zi o.1))) := by
  refine Ct.start (by decide) (Nat.le_of_ble_eq_true rfl) (fun G X hR => ?_)
  refine x_ls (ls2 := [(0, .ref a0), (1, .int (zi x1)), (2, .int (zi x2))]) [0, 1, 2] rfl ?_
  unfold m_Vol_gather at h
  refine x_iload_n (pc := 0) X d_Vol_gather_0 1 rfl rfl ?_
  obtain ⟨r1, h2, h⟩ := bnd_e h
  refine x_callS (pc := 1) (As := [.int (zi x1)]) (rest := []) (w2 := (w_Vol cI cB a0 a1 a2 a3 a4 a5 a6 a7 a8 a9 a10 a11 a12 a13 a14 a15 a16 a17 a18 a19 a20 a21 a22 a23 a24 a25 a26 a27 a28 a29 a30 a31 a32 a33 a34 a35 a36 a37 ik now nbt nki npl nva nwr nrm nrs nrz kow kbt kki kpl kva kwr krm krs krz tow tbt tki tpl tva twr trm trs trz seed smn snu rmn rnu rf)) X d_Vol_gather_1 lk_Vol_175 mv_Vol_refusalOfSize (c_Vol_refusalOfSize l D cI cB x1 h2) ⟨(Nat.le_of_ble_eq_true rfl), (Nat.le_of_ble_eq_true rfl), (Nat.le_of_ble_eq_true rfl), (Nat.le_of_ble_eq_true rfl)⟩ [] rfl rfl rfl (Up.same rfl) rfl rfl (Nat.le_of_ble_eq_true rfl) ?_
  refine x_istore_n (pc := 4) (ls2 := [(3, .int (zi r1)), (0, .ref a0), (1, .int (zi x1)), (2, .int (zi x2))]) X d_Vol_gather_4 rfl (Nat.le_of_ble_eq_true rfl) rfl ?_
  refine x_iload_n (pc := 5) X d_Vol_gather_5 0 rfl rfl ?_
  obtain ⟨j3, hj14, h⟩ := jn_e h
  have J15 : ∀ (z4 : Int) (z5 : Int) (z6 : Int) (c7 : Int → Int), j3 z4 z5 z6 c7 = some o → Wx G 0 0 19 [(0, .ref a0), (1, .int (zi z4)), (2, .int (zi z5)), (3, .int (zi z6))] [] (w_Vol cI cB a0 a1 a2 a3 a4 a5 a6 a7 a8 a9 a10 a11 a12 a13 a14 a15 a16 a17 a18 a19 a20 a21 a22 a23 a24 a25 a26 a27 a28 a29 a30 a31 a32 a33 a34 a35 a36 a37 ik now nbt nki npl nva nwr nrm nrs nrz kow kbt kki kpl kva kwr krm krs krz tow tbt tki tpl tva twr trm trs trz seed smn snu rmn rnu c7) := by
    intro z4 z5 z6 c7 h
    rw [hj14] at h
    (try dsimp only at h)
    refine x_iload_n (pc := 19) X d_Vol_gather_19 3 rfl rfl ?_
    refine x_ifge (pc := 20) (tgt := 29) X d_Vol_gather_20 rfl h (fun h => ?_) (fun h => ?_)
    · skip
      refine x_aload_n (pc := 29) X d_Vol_gather_29 0 rfl rfl ?_
      refine x_get (pc := 30) X d_Vol_gather_30 0 rfl fl_Vol_10 rfl ?_
      refine x_iload_n (pc := 33) X d_Vol_gather_33 1 rfl rfl ?_
      obtain ⟨r8, h9, h⟩ := bnd_e h
      refine x_callV (pc := 34) (As := [.int (zi z4)]) (rest := []) (w2 := (w_Vol cI cB a0 a1 a2 a3 a4 a5 a6 a7 a8 a9 a10 a11 a12 a13 a14 a15 a16 a17 a18 a19 a20 a21 a22 a23 a24 a25 a26 a27 a28 a29 a30 a31 a32 a33 a34 a35 a36 a37 ik now nbt nki npl nva nwr nrm nrs nrz kow kbt kki kpl kva kwr krm krs krz tow tbt tki tpl tva twr trm trs trz seed smn snu rmn rnu c7)) X d_Vol_gather_34 lk_Vol_224 mv_Disk_leastTakenWindow (c_Disk_leastTakenWindow l D cI cB a1 a2 a3 a4 a5 a6 a7 a8 a9 a10 now nbt nki npl nva nwr nrm nrs nrz z4 h9) ⟨(Nat.le_of_ble_eq_true rfl), (Nat.le_of_ble_eq_true rfl), (Nat.le_of_ble_eq_true rfl), (Nat.le_of_ble_eq_true rfl)⟩ 1 rfl rfl [1, 2, 3, 4, 5, 6, 7, 8, 9, 10] rfl rfl rfl (Up.same rfl) rfl rfl (Nat.le_of_ble_eq_true rfl) ?_
      refine x_istore (pc := 37) (ls2 := [(4, .int (zi r8)), (0, .ref a0), (1, .int (zi z4)), (2, .int (zi z5)), (3, .int (zi z6))]) X d_Vol_gather_37 (Nat.le_of_ble_eq_true rfl) rfl ?_
      refine x_iload (pc := 39) X d_Vol_gather_39 0 rfl ?_
      refine x_ifge (pc := 41) (tgt := 47) X d_Vol_gather_41 rfl h (fun h => ?_) (fun h => ?_)
      · skip
        refine x_iload_n (pc := 47) X d_Vol_gather_47 3 rfl rfl ?_
        refine x_ifne (pc := 48) (tgt := 56) X d_Vol_gather_48 rfl h (fun h => ?_) (fun h => ?_)
        · skip
          refine x_aload_n (pc := 56) X d_Vol_gather_56 1 rfl rfl ?_
          refine x_get (pc := 57) X d_Vol_gather_57 0 rfl fl_Vol_10 rfl ?_
          refine x_iload (pc := 60) X d_Vol_gather_60 0 rfl ?_
          refine x_iload_n (pc := 62) X d_Vol_gather_62 2 rfl rfl ?_
          obtain ⟨r10, h11, h⟩ := bnd_e h
          refine x_callV (pc := 63) (As := [.int (zi r8), .int (zi z4)]) (rest := []) (w2 := (w_Vol cI cB a0 a1 a2 a3 a4 a5 a6 a7 a8 a9 a10 a11 a12 a13 a14 a15 a16 a17 a18 a19 a20 a21 a22 a23 a24 a25 a26 a27 a28 a29 a30 a31 a32 a33 a34 a35 a36 a37 ik now nbt nki npl nva nwr nrm nrs nrz kow kbt kki kpl kva kwr krm krs krz tow tbt tki tpl tva twr trm trs trz seed smn snu rmn rnu c7)) X d_Vol_gather_63 lk_Vol_227 mv_Disk_takenAmong (c_Disk_takenAmong l D cI cB a1 a2 a3 a4 a5 a6 a7 a8 a9 a10 now nbt nki npl nva nwr nrm nrs nrz r8 z4 h11) ⟨(Nat.le_of_ble_eq_true rfl), (Nat.le_of_ble_eq_true rfl), (Nat.le_of_ble_eq_true rfl), (Nat.le_of_ble_eq_true rfl)⟩ 1 rfl rfl [1, 2, 3, 4, 5, 6, 7, 8, 9, 10] rfl rfl rfl (Up.same rfl) rfl rfl (Nat.le_of_ble_eq_true rfl) ?_
          cases h
          exact x_iret (pc := 66) X hR d_Vol_gather_66
        · skip
          refine x_iload (pc := 51) X d_Vol_gather_51 0 rfl ?_
          refine x_goto (pc := 53) (tgt := 66) X d_Vol_gather_53 rfl ?_
          cases h
          exact x_iret (pc := 66) X hR d_Vol_gather_66
      · skip
        refine x_bipush (pc := 44) (v := -9) X d_Vol_gather_44 rfl ?_
        cases h
        exact x_iret (pc := 46) X hR d_Vol_gather_46
    · skip
      refine x_aload_n (pc := 23) X d_Vol_gather_23 0 rfl rfl ?_
      refine x_iload_n (pc := 24) X d_Vol_gather_24 3 rfl rfl ?_
      obtain ⟨r12, h13, h⟩ := bnd_e h
      refine x_callV (pc := 25) (As := [.int (zi z6)]) (rest := []) (w2 := (w_Vol cI cB a0 a1 a2 a3 a4 a5 a6 a7 a8 a9 a10 a11 a12 a13 a14 a15 a16 a17 a18 a19 a20 a21 a22 a23 a24 a25 a26 a27 a28 a29 a30 a31 a32 a33 a34 a35 a36 a37 ik now nbt nki npl nva nwr nrm nrs nrz kow kbt kki kpl kva kwr krm krs krz tow tbt tki tpl tva twr trm trs trz seed smn snu rmn rnu r12.2)) X d_Vol_gather_25 lk_Vol_55 mv_Vol_refuse (c_Vol_refuse l D cI cB a0 a1 a2 a3 a4 a5 a6 a7 a8 a9 a10 a11 a12 a13 a14 a15 a16 a17 a18 a19 a20 a21 a22 a23 a24 a25 a26 a27 a28 a29 a30 a31 a32 a33 a34 a35 a36 a37 ik now nbt nki npl nva nwr nrm nrs nrz kow kbt kki kpl kva kwr krm krs krz tow tbt tki tpl tva twr trm trs trz seed smn snu rmn rnu c7 z6 h13) ⟨(Nat.le_of_ble_eq_true rfl), (Nat.le_of_ble_eq_true rfl), (Nat.le_of_ble_eq_true rfl), (Nat.le_of_ble_eq_true rfl)⟩ 0 rfl rfl [0, 1, 2, 3, 4, 5, 6, 7, 8, 9, 10, 11, 12, 13, 14, 15, 16, 17, 18, 19, 20, 21, 22, 23, 24, 25, 26, 27, 28, 29, 30, 31, 32, 33, 34, 35, 36, 37] rfl rfl rfl (Up.of [] [] rfl rfl rfl 38 rfl (by decide +kernel)) rfl rfl (Nat.le_of_ble_eq_true rfl) ?_
      cases h
      exact x_iret (pc := 28) X hR d_Vol_gather_28
  clear hj14
  refine x_ifne (pc := 6) (tgt := 19) X d_Vol_gather_6 rfl h (fun h => ?_) (fun h => ?_)
  · skip
    refine x_ls (ls2 := [(0, .ref a0), (1, .int (zi x1)), (2, .int (zi x2)), (3, .int (zi r1))]) [1, 2, 3, 0] rfl ?_
    exact J15 x1 x2 r1 rf h
  · skip
    refine x_iload_n (pc := 9) X d_Vol_gather_9 3 rfl rfl ?_
    obtain ⟨r16, h17, h⟩ := bnd_e h
    refine x_callS (pc := 10) (As := [.int (zi x2)]) (rest := []) (w2 := (w_Vol cI cB a0 a1 a2 a3 a4 a5 a6 a7 a8 a9 a10 a11 a12 a13 a14 a15 a16 a17 a18 a19 a20 a21 a22 a23 a24 a25 a26 a27 a28 a29 a30 a31 a32 a33 a34 a35 a36 a37 ik now nbt nki npl nva nwr nrm nrs nrz kow kbt kki kpl kva kwr krm krs krz tow tbt tki tpl tva twr trm trs trz seed smn snu rmn rnu rf)) X d_Vol_gather_10 lk_Vol_153 mv_Vol_isEither (c_Vol_isEither l D cI cB x2 h17) ⟨(Nat.le_of_ble_eq_true rfl), (Nat.le_of_ble_eq_true rfl), (Nat.le_of_ble_eq_true rfl), (Nat.le_of_ble_eq_true rfl)⟩ [] rfl rfl rfl (Up.same rfl) rfl rfl (Nat.le_of_ble_eq_true rfl) ?_
    refine x_ifne (pc := 13) (tgt := 19) X d_Vol_gather_13 rfl h (fun h => ?_) (fun h => ?_)
    · skip
      refine x_ls (ls2 := [(0, .ref a0), (1, .int (zi x1)), (2, .int (zi x2)), (3, .int (zi r1))]) [1, 2, 3, 0] rfl ?_
      exact J15 x1 x2 r1 rf h
    · skip
      refine x_bipush (pc := 16) (v := -2) X d_Vol_gather_16 rfl ?_
      refine x_istore_n (pc := 18) (ls2 := [(3, .int (zi (-2))), (0, .ref a0), (1, .int (zi x1)), (2, .int (zi x2))]) X d_Vol_gather_18 rfl (Nat.le_of_ble_eq_true rfl) rfl ?_
      refine x_ls (ls2 := [(0, .ref a0), (1, .int (zi x1)), (2, .int (zi x2)), (3, .int (zi (-2)))]) [1, 2, 3, 0] rfl ?_
      exact J15 x1 x2 (-2) rf h
