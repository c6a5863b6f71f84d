set_option maxHeartbeats 8000000 in
set_option maxRecDepth 100000 in
theorem whole_start {p : Program} {e : Env} {s : State} {m : MethodId} {below : List Frame} {meth : Method} {c : Code} (l : Launch) (hflags : l.flags = flags0) {b L : Nat} {xs : Nat → Int32} (hL : L ≤ 2048) (C0 : lw_At p s m meth c b L xs) : W p l e room_1 s m #[Value.ref b] below meth c s.heap [] 0 0 (lw_Z below #[Value.ref b] s) (entryFrame m ([Value.ref b] : List Value).toArray 4) := by
  obtain ⟨hx, hb, hr, hml, hown, hts, hX, hbl, hlocks, hgv⟩ := id C0
  have hA : ∀ q : Nat, s.heap.size ≤ q → (fun q : Nat => s.heap.size ≤ q) q := fun _ h => h
  have hbA : ¬ (fun q : Nat => s.heap.size ≤ q) b := Nat.not_le.mpr hbl
  obtain ⟨c0, s0, k0⟩ := u_known (C := zc_Disk) (T := zt_Disk) (N := 7) (n := 7) hts zu_Disk (hts (.instantiable zc_Disk 7) (tm_1 _ (List.mem_of_getElem? (i := 19) rfl)))
  obtain ⟨c1, s1, k1⟩ := u_known (C := zc_Mind) (T := zt_Mind) (N := 3) (n := 3) hts zu_Mind (hts (.instantiable zc_Mind 3) (tm_1 _ (List.mem_of_getElem? (i := 67) rfl)))
  obtain ⟨c2, s2, k2⟩ := u_known (C := zc_Row) (T := zt_Row) (N := 2) (n := 2) hts zu_Row (hts (.instantiable zc_Row 2) (tm_1 _ (List.mem_of_getElem? (i := 89) rfl)))
  obtain ⟨c3, s3, k3⟩ := u_known (C := zc_Runs) (T := zt_Runs) (N := 3) (n := 3) hts zu_Runs (hts (.instantiable zc_Runs 3) (tm_1 _ (List.mem_of_getElem? (i := 25) rfl)))
  obtain ⟨c4, s4, k4⟩ := u_known (C := zc_Text) (T := zt_Text) (N := 1) (n := 1) hts zu_Text (hts (.instantiable zc_Text 1) (tm_1 _ (List.mem_of_getElem? (i := 83) rfl)))
  obtain ⟨c5, s5, k5⟩ := u_known (C := zc_Vol) (T := zt_Vol) (N := 8) (n := 8) hts zu_Vol (hts (.instantiable zc_Vol 8) (tm_1 _ (List.mem_of_getElem? (i := 11) rfl)))
  obtain ⟨c6, s6, k6⟩ := u_known (C := zc_Mod) (T := zt_Mod) (N := 26) (n := 26) hts zu_Mod (hts (.instantiable zc_Mod 26) (tm_4 _ (List.mem_of_getElem? (i := 32) rfl)))
  obtain ⟨cI, kI, mI, hI1, hI2, hI3⟩ := Cond.arrayClass_spec (hts (.arrayClass .int) zo_ok.2.2.1)
  obtain ⟨cB, kB, mB, hB1, hB2, hB3⟩ := Cond.arrayClass_spec (hts (.arrayClass .boolean) zo_ok.2.2.2)
  obtain ⟨dC, dI, hKc⟩ : ∃ (dC : Nat → ClassId) (dI : Nat → Nat → Nat), ∀ (k : Nat) (q : vw_C), zk[k]? = some q → u_Kn s q.1 q.2.1 q.2.2 (dC k) (dI k) := by
    refine ⟨fun k => match k with | 0 => c0 | 1 => c1 | 2 => c2 | 3 => c3 | 4 => c4 | 5 => c5 | _ => c6, fun k => match k with | 0 => s0 | 1 => s1 | 2 => s2 | 3 => s3 | 4 => s4 | 5 => s5 | _ => s6, ?_⟩
    intro k q hq
    match k, hq with
    | 0, hq => cases hq; exact k0
    | 1, hq => cases hq; exact k1
    | 2, hq => cases hq; exact k2
    | 3, hq => cases hq; exact k3
    | 4, hq => cases hq; exact k4
    | 5, hq => cases hq; exact k5
    | 6, hq => cases hq; exact k6
    | k + 7, hq => simp [zk] at hq
  have hK : va_K (dC, dI) zk (zTy cI cB) s := ⟨hKc, fun k q h => by
    match k, h with
    | 0, h =>
      cases h
      exact ⟨fun n z => ⟨fun k h => (by cases h), kI, hI2, mI, hI3⟩, hI1⟩
    | 1, h =>
      cases h
      exact ⟨fun n z => ⟨fun k h => (by cases h), kB, hB2, mB, hB3⟩, hB1⟩
    | k + 2, h => simp at h⟩
  have hN : zNW s := by
    intro w hw hn
    have h1 := hts w hw
    cases w <;> first | exact va_Nw.of rfl h1 | cases hn
  have hl := lv_entry ([.ref b]) (n := 4) (Nat.le_of_ble_eq_true rfl)
  rw [lg_entry_eq]
  generalize hGe : ((p, l, e, room_1, s, m, #[Value.ref b], below, meth, c, (dC, dI), (fun q : Nat => s.heap.size ≤ q), 4, lw_Z below #[Value.ref b] s) : GT) = G
  have X : Cx G l (dC, dI) cI cB code zc_Law 4 room_1 := by
    rw [← hGe]
    exact ⟨rfl, rfl, rfl, rfl, hx, hb, hml, hown, fun w hw _ => hts w hw, hN, hK, hA⟩
  have hG : LG G b := by
    rw [← hGe]
    exact ⟨rfl, rfl, hr, hlocks, rfl⟩
  have hxs : LX G b L xs := by
    rw [← hGe]
    exact ⟨hX, hbl, hbA⟩
  have key : Wx G 0 0 0 [(0, .ref b)] [] [] := by
    clear hGe
    obtain ⟨oD, oM, hoD, hoM, hRel⟩ := e_init
    refine x_new (pc := 0) X d_Law_law_0 nw_Law_7 ⟨(Nat.le_of_ble_eq_true rfl), (Nat.le_of_ble_eq_true rfl)⟩ (fun q => ?_)
    refine x_w (w2 := [(q, .inr (5, [.null, .null, .null, .null, .null, .null, .null, .int (zi 0)]))]) rfl ?_
    refine x_dup (pc := 3) X d_Law_law_3 rfl ?_
    refine x_callI (pc := 4) (As := []) (rest := [.ref q]) X d_Law_law_4 lk_Law_9 mi_Vol (c_Vol_init l (dC, dI) cI cB q hoD) ⟨(Nat.le_of_ble_eq_true rfl), (Nat.le_of_ble_eq_true rfl), (Nat.le_of_ble_eq_true rfl), (Nat.le_of_ble_eq_true rfl)⟩ 0 rfl rfl rfl (Nat.le_of_ble_eq_true rfl) (fun e1 ns hp => ?_)
    obtain ⟨a1_v, a1_8_v, a2_8_v, a3_8_v, a4_8_v, a5_8_v, a6_8_v, a7_8_v, a1_56_8_v, a2_56_8_v, a2_v, a1_16_v, a2_16_v, a3_16_v, a4_16_v, a5_16_v, a6_16_v, a7_16_v, a1_56_16_v, a2_56_16_v, a3_v, a1_35_v, a2_35_v, a3_35_v, a4_35_v, a5_35_v, a6_35_v, a7_35_v, a1_56_35_v, a2_56_35_v, a4_v, a5_v, a1_59_v, a1_11_59_v, a6_v, a1_72_v, a7_v, rfl, rfl⟩ := hp
    refine x_w (w2 := [(q, .inr (5, [.ref a1_v, .ref a3_v, .ref a2_v, .ref a4_v, .ref a5_v, .ref a6_v, .ref a7_v, .int (zi 0)])), (a1_v, .inr (0, [.ref a1_8_v, .ref a2_8_v, .ref a3_8_v, .ref a4_8_v, .ref a5_8_v, .ref a6_8_v, .ref a7_8_v])), (a1_8_v, zA cI 64 oD.1), (a2_8_v, zA cI 64 (fun _ => 0)), (a3_8_v, zA cI 4 (fun _ => 0)), (a4_8_v, zA cI 96 oD.2.1), (a5_8_v, zA cI 96 oD.2.2), (a6_8_v, zA cB 96 (fun _ => 0)), (a7_8_v, .inr (3, [.ref a1_56_8_v, .ref a2_56_8_v, .int (zi 0)])), (a1_56_8_v, zA cI 32 (fun _ => 0)), (a2_56_8_v, zA cI 32 (fun _ => 0)), (a2_v, .inr (0, [.ref a1_16_v, .ref a2_16_v, .ref a3_16_v, .ref a4_16_v, .ref a5_16_v, .ref a6_16_v, .ref a7_16_v])), (a1_16_v, zA cI 64 oD.1), (a2_16_v, zA cI 64 (fun _ => 0)), (a3_16_v, zA cI 4 (fun _ => 0)), (a4_16_v, zA cI 96 oD.2.1), (a5_16_v, zA cI 96 oD.2.2), (a6_16_v, zA cB 96 (fun _ => 0)), (a7_16_v, .inr (3, [.ref a1_56_16_v, .ref a2_56_16_v, .int (zi 0)])), (a1_56_16_v, zA cI 32 (fun _ => 0)), (a2_56_16_v, zA cI 32 (fun _ => 0)), (a3_v, .inr (0, [.ref a1_35_v, .ref a2_35_v, .ref a3_35_v, .ref a4_35_v, .ref a5_35_v, .ref a6_35_v, .ref a7_35_v])), (a1_35_v, zA cI 64 oD.1), (a2_35_v, zA cI 64 (fun _ => 0)), (a3_35_v, zA cI 4 (fun _ => 0)), (a4_35_v, zA cI 96 oD.2.1), (a5_35_v, zA cI 96 oD.2.2), (a6_35_v, zA cB 96 (fun _ => 0)), (a7_35_v, .inr (3, [.ref a1_56_35_v, .ref a2_56_35_v, .int (zi 0)])), (a1_56_35_v, zA cI 32 (fun _ => 0)), (a2_56_35_v, zA cI 32 (fun _ => 0)), (a4_v, .inr (1, [.ref a1_v, .ref a2_v, .int (zi 0)])), (a5_v, .inr (4, [.ref a1_59_v])), (a1_59_v, .inr (2, [.ref a1_11_59_v, .int (zi 0)])), (a1_11_59_v, zA cI 96 (fun _ => 0)), (a6_v, .inr (2, [.ref a1_72_v, .int (zi 0)])), (a1_72_v, zA cI 32 (fun _ => 0)), (a7_v, zA cI 7 (fun _ => 0))]) rfl ?_
    refine x_astore_n (pc := 7) (ls2 := [(1, .ref q), (0, .ref b)]) X d_Law_law_7 rfl (Nat.le_of_ble_eq_true rfl) rfl ?_
    refine x_new (pc := 8) X d_Law_law_8 nw_Law_10 ⟨(Nat.le_of_ble_eq_true rfl), (Nat.le_of_ble_eq_true rfl)⟩ (fun r => ?_)
    refine x_w (w2 := [(q, .inr (5, [.ref a1_v, .ref a3_v, .ref a2_v, .ref a4_v, .ref a5_v, .ref a6_v, .ref a7_v, .int (zi 0)])), (a1_v, .inr (0, [.ref a1_8_v, .ref a2_8_v, .ref a3_8_v, .ref a4_8_v, .ref a5_8_v, .ref a6_8_v, .ref a7_8_v])), (a1_8_v, zA cI 64 oD.1), (a2_8_v, zA cI 64 (fun _ => 0)), (a3_8_v, zA cI 4 (fun _ => 0)), (a4_8_v, zA cI 96 oD.2.1), (a5_8_v, zA cI 96 oD.2.2), (a6_8_v, zA cB 96 (fun _ => 0)), (a7_8_v, .inr (3, [.ref a1_56_8_v, .ref a2_56_8_v, .int (zi 0)])), (a1_56_8_v, zA cI 32 (fun _ => 0)), (a2_56_8_v, zA cI 32 (fun _ => 0)), (a2_v, .inr (0, [.ref a1_16_v, .ref a2_16_v, .ref a3_16_v, .ref a4_16_v, .ref a5_16_v, .ref a6_16_v, .ref a7_16_v])), (a1_16_v, zA cI 64 oD.1), (a2_16_v, zA cI 64 (fun _ => 0)), (a3_16_v, zA cI 4 (fun _ => 0)), (a4_16_v, zA cI 96 oD.2.1), (a5_16_v, zA cI 96 oD.2.2), (a6_16_v, zA cB 96 (fun _ => 0)), (a7_16_v, .inr (3, [.ref a1_56_16_v, .ref a2_56_16_v, .int (zi 0)])), (a1_56_16_v, zA cI 32 (fun _ => 0)), (a2_56_16_v, zA cI 32 (fun _ => 0)), (a3_v, .inr (0, [.ref a1_35_v, .ref a2_35_v, .ref a3_35_v, .ref a4_35_v, .ref a5_35_v, .ref a6_35_v, .ref a7_35_v])), (a1_35_v, zA cI 64 oD.1), (a2_35_v, zA cI 64 (fun _ => 0)), (a3_35_v, zA cI 4 (fun _ => 0)), (a4_35_v, zA cI 96 oD.2.1), (a5_35_v, zA cI 96 oD.2.2), (a6_35_v, zA cB 96 (fun _ => 0)), (a7_35_v, .inr (3, [.ref a1_56_35_v, .ref a2_56_35_v, .int (zi 0)])), (a1_56_35_v, zA cI 32 (fun _ => 0)), (a2_56_35_v, zA cI 32 (fun _ => 0)), (a4_v, .inr (1, [.ref a1_v, .ref a2_v, .int (zi 0)])), (a5_v, .inr (4, [.ref a1_59_v])), (a1_59_v, .inr (2, [.ref a1_11_59_v, .int (zi 0)])), (a1_11_59_v, zA cI 96 (fun _ => 0)), (a6_v, .inr (2, [.ref a1_72_v, .int (zi 0)])), (a1_72_v, zA cI 32 (fun _ => 0)), (a7_v, zA cI 7 (fun _ => 0)), (r, .inr (6, [.null, .null, .null, .null, .null, .null, .null, .int (zi 0), .int (zi 0), .null, .null, .null, .null, .int (zi 0), .int (zi 0), .int (zi 0), .int (zi 0), .null, .int (zi 0), .int (zi 0), .int (zi 0), .null, .null, .null, .int (zi 0), .int (zi 0)]))]) rfl ?_
    refine x_dup (pc := 11) X d_Law_law_11 rfl ?_
    refine x_callI (pc := 12) (As := []) (rest := [.ref r]) X d_Law_law_12 lk_Law_12 mi_Mod (c_Mod_init l (dC, dI) cI cB r hoM) ⟨(Nat.le_of_ble_eq_true rfl), (Nat.le_of_ble_eq_true rfl), (Nat.le_of_ble_eq_true rfl), (Nat.le_of_ble_eq_true rfl)⟩ 38 rfl rfl rfl (Nat.le_of_ble_eq_true rfl) (fun e1 ns hp => ?_)
    obtain ⟨a1_m, a2_m, a3_m, a4_m, a5_m, a6_m, a7_m, a8_m, a9_m, a10_m, a11_m, a12_m, a13_m, a14_m, a15_m, rfl, rfl⟩ := hp
    refine x_w (w2 := [(q, .inr (5, [.ref a1_v, .ref a3_v, .ref a2_v, .ref a4_v, .ref a5_v, .ref a6_v, .ref a7_v, .int (zi 0)])), (a1_v, .inr (0, [.ref a1_8_v, .ref a2_8_v, .ref a3_8_v, .ref a4_8_v, .ref a5_8_v, .ref a6_8_v, .ref a7_8_v])), (a1_8_v, zA cI 64 oD.1), (a2_8_v, zA cI 64 (fun _ => 0)), (a3_8_v, zA cI 4 (fun _ => 0)), (a4_8_v, zA cI 96 oD.2.1), (a5_8_v, zA cI 96 oD.2.2), (a6_8_v, zA cB 96 (fun _ => 0)), (a7_8_v, .inr (3, [.ref a1_56_8_v, .ref a2_56_8_v, .int (zi 0)])), (a1_56_8_v, zA cI 32 (fun _ => 0)), (a2_56_8_v, zA cI 32 (fun _ => 0)), (a2_v, .inr (0, [.ref a1_16_v, .ref a2_16_v, .ref a3_16_v, .ref a4_16_v, .ref a5_16_v, .ref a6_16_v, .ref a7_16_v])), (a1_16_v, zA cI 64 oD.1), (a2_16_v, zA cI 64 (fun _ => 0)), (a3_16_v, zA cI 4 (fun _ => 0)), (a4_16_v, zA cI 96 oD.2.1), (a5_16_v, zA cI 96 oD.2.2), (a6_16_v, zA cB 96 (fun _ => 0)), (a7_16_v, .inr (3, [.ref a1_56_16_v, .ref a2_56_16_v, .int (zi 0)])), (a1_56_16_v, zA cI 32 (fun _ => 0)), (a2_56_16_v, zA cI 32 (fun _ => 0)), (a3_v, .inr (0, [.ref a1_35_v, .ref a2_35_v, .ref a3_35_v, .ref a4_35_v, .ref a5_35_v, .ref a6_35_v, .ref a7_35_v])), (a1_35_v, zA cI 64 oD.1), (a2_35_v, zA cI 64 (fun _ => 0)), (a3_35_v, zA cI 4 (fun _ => 0)), (a4_35_v, zA cI 96 oD.2.1), (a5_35_v, zA cI 96 oD.2.2), (a6_35_v, zA cB 96 (fun _ => 0)), (a7_35_v, .inr (3, [.ref a1_56_35_v, .ref a2_56_35_v, .int (zi 0)])), (a1_56_35_v, zA cI 32 (fun _ => 0)), (a2_56_35_v, zA cI 32 (fun _ => 0)), (a4_v, .inr (1, [.ref a1_v, .ref a2_v, .int (zi 0)])), (a5_v, .inr (4, [.ref a1_59_v])), (a1_59_v, .inr (2, [.ref a1_11_59_v, .int (zi 0)])), (a1_11_59_v, zA cI 96 (fun _ => 0)), (a6_v, .inr (2, [.ref a1_72_v, .int (zi 0)])), (a1_72_v, zA cI 32 (fun _ => 0)), (a7_v, zA cI 7 (fun _ => 0)), (r, .inr (6, [.ref a1_m, .ref a2_m, .ref a3_m, .ref a4_m, .ref a5_m, .ref a6_m, .ref a7_m, .int (zi 0), .int (zi 0), .ref a8_m, .ref a9_m, .ref a10_m, .ref a11_m, .int (zi 0), .int (zi 0), .int (zi 0), .int (zi 0), .ref a12_m, .int (zi 0), .int (zi 0), .int (zi 0), .ref a13_m, .ref a14_m, .ref a15_m, .int (zi 0), .int (zi 0)])), (a1_m, zA cI 7 (fun _ => 0)), (a2_m, zA cI 64 (fun _ => 0)), (a3_m, zA cI 64 oM.1), (a4_m, zA cI 96 oM.2.1), (a5_m, zA cI 96 (fun _ => 0)), (a6_m, zA cI 96 oM.2.2), (a7_m, zA cI 4 (fun _ => 0)), (a8_m, zA cI 96 (fun _ => 0)), (a9_m, zA cI 33 (fun _ => 0)), (a10_m, zA cI 33 (fun _ => 0)), (a11_m, zA cI 99 (fun _ => 0)), (a12_m, zA cI 1260 (fun _ => 0)), (a13_m, zA cI 96 (fun _ => 0)), (a14_m, zA cI 8 (fun _ => 0)), (a15_m, zA cI 32 (fun _ => 0))]) rfl ?_
    refine x_astore_n (pc := 15) (ls2 := [(2, .ref r), (1, .ref q), (0, .ref b)]) X d_Law_law_15 rfl (Nat.le_of_ble_eq_true rfl) rfl ?_
    refine x_iconst (pc := 16) X d_Law_law_16 ?_
    refine x_istore_n (pc := 17) (ls2 := [(3, .int (zi 0)), (2, .ref r), (1, .ref q), (0, .ref b)]) X d_Law_law_17 rfl (Nat.le_of_ble_eq_true rfl) rfl ?_
    refine x_sub (w2 := w_Vol_Mod cI cB q a1_v a1_8_v a2_8_v a3_8_v a4_8_v a5_8_v a6_8_v a7_8_v a1_56_8_v a2_56_8_v a3_v a1_35_v a2_35_v a3_35_v a4_35_v a5_35_v a6_35_v a7_35_v a1_56_35_v a2_56_35_v a2_v a1_16_v a2_16_v a3_16_v a4_16_v a5_16_v a6_16_v a7_16_v a1_56_16_v a2_56_16_v a4_v a5_v a1_59_v a1_11_59_v a6_v a1_72_v a7_v r a1_m a2_m a3_m a4_m a5_m a6_m a7_m a8_m a9_m a10_m a11_m a12_m a13_m a14_m a15_m 0 oD.1 (fun _ => 0) (fun _ => 0) oD.2.1 oD.2.2 (fun _ => 0) 0 (fun _ => 0) (fun _ => 0) oD.1 (fun _ => 0) (fun _ => 0) oD.2.1 oD.2.2 (fun _ => 0) 0 (fun _ => 0) (fun _ => 0) oD.1 (fun _ => 0) (fun _ => 0) oD.2.1 oD.2.2 (fun _ => 0) 0 (fun _ => 0) (fun _ => 0) 0 0 (fun _ => 0) 0 (fun _ => 0) (fun _ => 0) 0 0 0 0 0 0 0 0 0 0 0 (fun _ => 0) (fun _ => 0) oM.1 oM.2.1 (fun _ => 0) oM.2.2 (fun _ => 0) (fun _ => 0) (fun _ => 0) (fun _ => 0) (fun _ => 0) (fun _ => 0) (fun _ => 0) (fun _ => 0) (fun _ => 0)) [0, 1, 2, 3, 4, 5, 6, 7, 8, 9, 10, 21, 22, 23, 24, 25, 26, 27, 28, 29, 30, 11, 12, 13, 14, 15, 16, 17, 18, 19, 20, 31, 32, 33, 34, 35, 36, 37, 38, 39, 40, 41, 42, 43, 44, 45, 46, 47, 48, 49, 50, 51, 52, 53] (by decide) rfl ?_
    refine x_ls (ls2 := [(0, .ref b), (1, .ref q), (2, .ref r), (3, .int (zi 0))]) [3, 2, 1, 0] rfl ?_
    exact law_loop X hG hxs hL 2049 0 0 oD.1 (fun _ => 0) (fun _ => 0) oD.2.1 oD.2.2 (fun _ => 0) 0 (fun _ => 0) (fun _ => 0) oD.1 (fun _ => 0) (fun _ => 0) oD.2.1 oD.2.2 (fun _ => 0) 0 (fun _ => 0) (fun _ => 0) oD.1 (fun _ => 0) (fun _ => 0) oD.2.1 oD.2.2 (fun _ => 0) 0 (fun _ => 0) (fun _ => 0) 0 0 (fun _ => 0) 0 (fun _ => 0) (fun _ => 0) 0 0 0 0 0 0 0 0 0 0 0 (fun _ => 0) (fun _ => 0) oM.1 oM.2.1 (fun _ => 0) oM.2.2 (fun _ => 0) (fun _ => 0) (fun _ => 0) (fun _ => 0) (fun _ => 0) (fun _ => 0) (fun _ => 0) (fun _ => 0) (fun _ => 0) (by omega) (by omega) (by omega) hRel
  rw [← hGe] at key
  exact key s.heap [] _ (fun k q h => by simp at h) ⟨fun i j p q h => by simp at h, fun k q h => by simp at h⟩ va_S.rf hl
-- ===== YOUR PART ENDS =====
set_option maxHeartbeats 4000000 in
theorem lw_walk (l : Launch) (hflags : l.flags = flags0) (b : Addr) (xs : List Int32) : MetFree l x (headSpec (Jvm.Cond.code x code maxLocals ret :: tables_1) room_1) (lw_P b xs) (fun _ _ _ _ _ => True) lw_Q := by
  refine MetFree.of_bodyS (code := code) (maxLocals := maxLocals) (ret := ret) (by decide) ?_ ?_
  · intro args s m h hn
    obtain ⟨meth, c, h1, h2, h3, h4, h5, h6, -, -⟩ := Cond.code_spec hn (atoms_spec (ws := Jvm.Cond.code x code maxLocals ret :: tables_1) h _ List.mem_cons_self)
    exact ⟨meth, c, h1, h2, h3, h4, h5, h6⟩
  · intro p e s m args below meth c s₁ B hml0 hP _
    obtain ⟨rfl, hx, hbd, hgv⟩ := hP
    obtain ⟨scr, harrAt, hlist, hof, hsmall⟩ := hx
    obtain ⟨hcb, hkn, -, -⟩ := State.arrayAt?_spec harrAt
    have hown : s.vm.findClass R_law = some m.cls := findClass_of_methodNamed B.named
    have hts0 : ∀ c ∈ (Jvm.Cond.code x code maxLocals ret :: tables_1), c.before #[Value.ref b] s = true := atoms_spec (ws := Jvm.Cond.code x code maxLocals ret :: tables_1) B.pre
    have hts : ∀ w ∈ lw_tbl, w.before #[Value.ref b] s = true := k2_hts_sels lw_privs (fun w hw => hts0 w (List.mem_cons_of_mem _ hw)) lw_privs_ok
    have hml : c.maxLocals = 4 := B.maxLocals_eq (hts0 _ List.mem_cons_self)
    have X₀ : Stand p l e room_1 s m #[Value.ref b] below meth c s₁ [] 0 0 := Stand.of_body B
    have hh0 : s₁.heap = s.heap := by rw [B.state]; rfl
    have hsz : scr.slots.size = xs.length := by rw [← Array.length_toList, hlist, List.length_map]
    have hval : ∀ j : Nat, j < xs.length → scr.slots[j]? = some (.int (xs.getD j 0)) := fun j hj => by
      rw [← Array.getElem?_toList, hlist]
      simp [hj]
    have hbl : b < s.heap.size := (Array.getElem?_eq_some_iff.mp hcb).1
    have hX : va_X b xs.length (fun j => xs.getD j 0) s s.heap := ⟨scr, hcb, hof, hkn, hsz, hval⟩
    have K : W p l e room_1 s m #[Value.ref b] below meth c s₁.heap [] 0 0 (lw_Z below #[Value.ref b] s) (entryFrame m ([Value.ref b] : List Value).toArray 4) := by
      rw [hh0]
      exact whole_start l hflags hbd ⟨B.exec, B.bytes, B.returns, hml, hown, hts, hX, hbl, B.notSynchronized, hgv⟩
    obtain ⟨t, a1, o, b1, b2, b3⟩ := K s₁ rfl X₀
    exact ⟨t, o, a1, b1, b2, b3⟩
theorem lw_pre_spec {args : Array Value} {s : State} (h : (Jvm.Cond.and given_1 narrow_1).before args s = true) (hr : rest_1_c.before args s = true) : ∃ (b : Addr) (xs : List Int32), lw_P b xs args s := by
  have hs := flat_of_before _ h
  have hq := flat_of_before _ hr
  have hc : (Cond.count 1).before args s = true := hs _ (by decide +kernel)
  have harr : (Cond.arrayOf (.arg 0) .int).before args s = true := hs _ (by decide +kernel)
  have hle : (Cond.le (.length (.arg 0)) (.int 2048)).before args s = true := hs _ (by decide +kernel)
  have hlen : (Cond.isInt (.length (.arg 0))).before args s = true := hq _ (by decide +kernel)
  have hall : (Cond.all (.arg 0) (.isInt (.elem (.arg 0) (.index 0)))).before args s = true := hq _ (by decide +kernel)
  obtain ⟨b, xs, hb, hx⟩ := State.ints_of_pre rfl harr hlen hall
  have hsm : xs.length < 2 ^ 31 := hx.choose_spec.2.2.2
  have hev : (Term.length (.arg 0)).eval args s none [] s = some (.int xs.length.toInt32) := hx.length_eval hb
  have hv := Cond.le_ints hev (show (Term.int 2048).eval args s none [] s = some (.int 2048) from rfl)
  have hd : xs.length.toInt32 ≤ 2048 := by
    simpa [Cond.before, Cond.holds, hv] using hle
  have hN : xs.length ≤ 2048 := (Int32.ofNat_le_ofNat hsm (by decide)).mp (show Int32.ofNat xs.length ≤ Int32.ofNat 2048 from hd)
  exact ⟨b, xs, Cond.one_arg hc (show args[0]? = some (.ref b) from hb), hx, hN, h⟩
theorem lw_comes (l : Launch) (hflags : l.flags = flags0) : Comes l x (Jvm.Cond.code x code maxLocals ret :: tables_1) room_1 (fun tb e args s => Calls_1 tb e args s ∧ rest_1 tb e args s ∧ Pre_1 tb e args s)
    (fun _ _ args s o t => lw_Q args s o t) := by
  intro p e ha hc hk s m args below hf hfit hheap happ hpre
  obtain ⟨b, xs, hP⟩ := lw_pre_spec hpre.2.2 hpre.2.1
  obtain ⟨k, o, h1, h2, h3, hQ⟩ := lw_walk l hflags b xs p e ha hc hk s m args below hf ((Spec.applies_iff_loose hf).mp happ).1 hP trivial
  exact ⟨k, o, h1, h2, h3, hQ⟩
theorem lw_frame {s t : State} {o : Outcome} {args : Array Value} (h : Framed s o t [] 600000 7302250) :
    Framed s o t (fieldLocs frame_1_writes args s ++ arrayLocs frame_1_arrays args s ++ staticLocs frame_1_statics s) 600000 7302250 := h
theorem lw_limb (L : Cond) (hL : ∀ (args : Array Value) (s t : State), L.after args s (.returned (some (.int 1))) t = true) :
    ArmFor flags0 classFile x code maxLocals ret World_1 tables_1 room_1 Calls_1 rest_1 Pre_1
      (fun tb e a s o t => postC L tb e a s o t ∧ Framed s o t (fieldLocs frame_1_writes a s ++ arrayLocs frame_1_arrays a s ++ staticLocs frame_1_statics s) 600000 7302250) := by
  intro l hflags _ _ p e ha hc hk s m args below hf hfit hheap happ hpre
  obtain ⟨k, o, h1, h2, h3, rfl, hF⟩ := lw_comes l hflags p e ha hc hk s m args below hf hfit hheap happ hpre
  exact ⟨k, _, h1, h2, h3, hL args s _, lw_frame hF⟩
theorem i_vc : Claimed_1_1 ∧ Claimed_1_2 := ⟨lw_limb limb_1_1 (fun args s t => by simp [limb_1_1, Cond.after, Cond.holds, Cond.value]), lw_limb limb_1_2 (fun args s t => Cond.after_iff.mpr (by
  first | (rw [show limb_1_2 = Cond.eq .result (.int 1) from rfl, Cond.eq_ints (x := 1) (y := 1) rfl rfl]; simp; done) | (simp [limb_1_2, Cond.value, Term.eval]; done)))⟩
