noncomputable abbrev w_Disk_Disk (cI cB : ClassId) (a0 a1 a2 a3 a4 a5 a6 a7 a8 a9 a10 a11 a12 a13 a14 a15 a16 a17 a18 a19 : Nat) (ow : Int → Int) (bt : Int → Int) (ki : Int → Int) (pl : Int → Int) (va : Int → Int) (wr : Int → Int) (rm : Int) (rs : Int → Int) (rz : Int → Int) (qow : Int → Int) (qbt : Int → Int) (qki : Int → Int) (qpl : Int → Int) (qva : Int → Int) (qwr : Int → Int) (qrm : Int) (qrs : Int → Int) (qrz : Int → Int) : va_W := [(a0, .inr (0, [.ref a1, .ref a2, .ref a3, .ref a4, .ref a5, .ref a6, .ref a7])), (a1, zA cI 64 ow), (a2, zA cI 64 bt), (a3, zA cI 4 ki), (a4, zA cI 96 pl), (a5, zA cI 96 va), (a6, zA cB 96 wr), (a7, .inr (3, [.ref a8, .ref a9, .int (zi rm)])), (a8, zA cI 32 rs), (a9, zA cI 32 rz), (a10, .inr (0, [.ref a11, .ref a12, .ref a13, .ref a14, .ref a15, .ref a16, .ref a17])), (a11, zA cI 64 qow), (a12, zA cI 64 qbt), (a13, zA cI 4 qki), (a14, zA cI 96 qpl), (a15, zA cI 96 qva), (a16, zA cB 96 qwr), (a17, .inr (3, [.ref a18, .ref a19, .int (zi qrm)])), (a18, zA cI 32 qrs), (a19, zA cI 32 qrz)]
theorem d_Disk_copyFrom_0 : decode b_Disk_copyFrom 0 = .ok (.aload_n 1, 1) := by decide +kernel
theorem d_Disk_copyFrom_1 : decode b_Disk_copyFrom 1 = .ok (.getfield 9, 3) := by decide +kernel
theorem d_Disk_copyFrom_4 : decode b_Disk_copyFrom 4 = .ok (.iconst 0, 1) := by decide +kernel
theorem d_Disk_copyFrom_5 : decode b_Disk_copyFrom 5 = .ok (.aload_n 0, 1) := by decide +kernel
theorem d_Disk_copyFrom_6 : decode b_Disk_copyFrom 6 = .ok (.getfield 9, 3) := by decide +kernel
theorem d_Disk_copyFrom_9 : decode b_Disk_copyFrom 9 = .ok (.iconst 0, 1) := by decide +kernel
theorem d_Disk_copyFrom_10 : decode b_Disk_copyFrom 10 = .ok (.bipush 64, 2) := by decide +kernel
theorem d_Disk_copyFrom_12 : decode b_Disk_copyFrom 12 = .ok (.invokestatic 38, 3) := by decide +kernel
theorem d_Disk_copyFrom_15 : decode b_Disk_copyFrom 15 = .ok (.aload_n 1, 1) := by decide +kernel
theorem d_Disk_copyFrom_16 : decode b_Disk_copyFrom 16 = .ok (.getfield 15, 3) := by decide +kernel
theorem d_Disk_copyFrom_19 : decode b_Disk_copyFrom 19 = .ok (.iconst 0, 1) := by decide +kernel
theorem d_Disk_copyFrom_20 : decode b_Disk_copyFrom 20 = .ok (.aload_n 0, 1) := by decide +kernel
theorem d_Disk_copyFrom_21 : decode b_Disk_copyFrom 21 = .ok (.getfield 15, 3) := by decide +kernel
theorem d_Disk_copyFrom_24 : decode b_Disk_copyFrom 24 = .ok (.iconst 0, 1) := by decide +kernel
theorem d_Disk_copyFrom_25 : decode b_Disk_copyFrom 25 = .ok (.bipush 64, 2) := by decide +kernel
theorem d_Disk_copyFrom_27 : decode b_Disk_copyFrom 27 = .ok (.invokestatic 38, 3) := by decide +kernel
theorem d_Disk_copyFrom_30 : decode b_Disk_copyFrom 30 = .ok (.aload_n 1, 1) := by decide +kernel
theorem d_Disk_copyFrom_31 : decode b_Disk_copyFrom 31 = .ok (.getfield 18, 3) := by decide +kernel
theorem d_Disk_copyFrom_34 : decode b_Disk_copyFrom 34 = .ok (.iconst 0, 1) := by decide +kernel
theorem d_Disk_copyFrom_35 : decode b_Disk_copyFrom 35 = .ok (.aload_n 0, 1) := by decide +kernel
theorem d_Disk_copyFrom_36 : decode b_Disk_copyFrom 36 = .ok (.getfield 18, 3) := by decide +kernel
theorem d_Disk_copyFrom_39 : decode b_Disk_copyFrom 39 = .ok (.iconst 0, 1) := by decide +kernel
theorem d_Disk_copyFrom_40 : decode b_Disk_copyFrom 40 = .ok (.iconst 4, 1) := by decide +kernel
theorem d_Disk_copyFrom_41 : decode b_Disk_copyFrom 41 = .ok (.invokestatic 38, 3) := by decide +kernel
theorem d_Disk_copyFrom_44 : decode b_Disk_copyFrom 44 = .ok (.aload_n 1, 1) := by decide +kernel
theorem d_Disk_copyFrom_45 : decode b_Disk_copyFrom 45 = .ok (.getfield 21, 3) := by decide +kernel
theorem d_Disk_copyFrom_48 : decode b_Disk_copyFrom 48 = .ok (.iconst 0, 1) := by decide +kernel
theorem d_Disk_copyFrom_49 : decode b_Disk_copyFrom 49 = .ok (.aload_n 0, 1) := by decide +kernel
theorem d_Disk_copyFrom_50 : decode b_Disk_copyFrom 50 = .ok (.getfield 21, 3) := by decide +kernel
theorem d_Disk_copyFrom_53 : decode b_Disk_copyFrom 53 = .ok (.iconst 0, 1) := by decide +kernel
theorem d_Disk_copyFrom_54 : decode b_Disk_copyFrom 54 = .ok (.bipush 96, 2) := by decide +kernel
theorem d_Disk_copyFrom_56 : decode b_Disk_copyFrom 56 = .ok (.invokestatic 38, 3) := by decide +kernel
theorem d_Disk_copyFrom_59 : decode b_Disk_copyFrom 59 = .ok (.aload_n 1, 1) := by decide +kernel
theorem d_Disk_copyFrom_60 : decode b_Disk_copyFrom 60 = .ok (.getfield 24, 3) := by decide +kernel
theorem d_Disk_copyFrom_63 : decode b_Disk_copyFrom 63 = .ok (.iconst 0, 1) := by decide +kernel
theorem d_Disk_copyFrom_64 : decode b_Disk_copyFrom 64 = .ok (.aload_n 0, 1) := by decide +kernel
theorem d_Disk_copyFrom_65 : decode b_Disk_copyFrom 65 = .ok (.getfield 24, 3) := by decide +kernel
theorem d_Disk_copyFrom_68 : decode b_Disk_copyFrom 68 = .ok (.iconst 0, 1) := by decide +kernel
theorem d_Disk_copyFrom_69 : decode b_Disk_copyFrom 69 = .ok (.bipush 96, 2) := by decide +kernel
theorem d_Disk_copyFrom_71 : decode b_Disk_copyFrom 71 = .ok (.invokestatic 38, 3) := by decide +kernel
theorem d_Disk_copyFrom_74 : decode b_Disk_copyFrom 74 = .ok (.iconst 0, 1) := by decide +kernel
theorem d_Disk_copyFrom_75 : decode b_Disk_copyFrom 75 = .ok (.istore_n 2, 1) := by decide +kernel
theorem d_Disk_copyFrom_76 : decode b_Disk_copyFrom 76 = .ok (.iload_n 2, 1) := by decide +kernel
theorem d_Disk_copyFrom_77 : decode b_Disk_copyFrom 77 = .ok (.aload_n 0, 1) := by decide +kernel
theorem d_Disk_copyFrom_78 : decode b_Disk_copyFrom 78 = .ok (.getfield 27, 3) := by decide +kernel
theorem d_Disk_copyFrom_81 : decode b_Disk_copyFrom 81 = .ok (.arraylength, 1) := by decide +kernel
theorem d_Disk_copyFrom_82 : decode b_Disk_copyFrom 82 = .ok (.if_icmp .ge 30, 3) := by decide +kernel
theorem d_Disk_copyFrom_85 : decode b_Disk_copyFrom 85 = .ok (.iload_n 2, 1) := by decide +kernel
theorem d_Disk_copyFrom_86 : decode b_Disk_copyFrom 86 = .ok (.aload_n 1, 1) := by decide +kernel
theorem d_Disk_copyFrom_87 : decode b_Disk_copyFrom 87 = .ok (.getfield 27, 3) := by decide +kernel
theorem d_Disk_copyFrom_90 : decode b_Disk_copyFrom 90 = .ok (.arraylength, 1) := by decide +kernel
theorem d_Disk_copyFrom_91 : decode b_Disk_copyFrom 91 = .ok (.if_icmp .ge 21, 3) := by decide +kernel
theorem d_Disk_copyFrom_94 : decode b_Disk_copyFrom 94 = .ok (.aload_n 0, 1) := by decide +kernel
theorem d_Disk_copyFrom_95 : decode b_Disk_copyFrom 95 = .ok (.getfield 27, 3) := by decide +kernel
theorem d_Disk_copyFrom_98 : decode b_Disk_copyFrom 98 = .ok (.iload_n 2, 1) := by decide +kernel
theorem d_Disk_copyFrom_99 : decode b_Disk_copyFrom 99 = .ok (.aload_n 1, 1) := by decide +kernel
theorem d_Disk_copyFrom_100 : decode b_Disk_copyFrom 100 = .ok (.getfield 27, 3) := by decide +kernel
theorem d_Disk_copyFrom_103 : decode b_Disk_copyFrom 103 = .ok (.iload_n 2, 1) := by decide +kernel
theorem d_Disk_copyFrom_104 : decode b_Disk_copyFrom 104 = .ok (.baload, 1) := by decide +kernel
theorem d_Disk_copyFrom_105 : decode b_Disk_copyFrom 105 = .ok (.bastore, 1) := by decide +kernel
theorem d_Disk_copyFrom_106 : decode b_Disk_copyFrom 106 = .ok (.iinc 2 1, 3) := by decide +kernel
theorem d_Disk_copyFrom_109 : decode b_Disk_copyFrom 109 = .ok (.goto (-33), 3) := by decide +kernel
theorem d_Disk_copyFrom_112 : decode b_Disk_copyFrom 112 = .ok (.return_, 1) := by decide +kernel
def m_Disk_copyFrom_76 : Nat → Int → (Int → Int) → (Int → Int) → (Int → Int) → (Int → Int) → (Int → Int) → (Int → Int) → (Int → Int) → (Int → Int) → (Int → Int) → (Int → Int) → (Int → Int) → (Int → Int) → Option ((Int → Int) × (Int → Int) × (Int → Int) × (Int → Int) × (Int → Int) × (Int → Int))
  | 0, _, _, _, _, _, _, _, _, _, _, _, _, _ => none
  | fuel + 1, v2, ow, bt, ki, pl, va, wr, qow, qbt, qki, qpl, qva, qwr =>
  clt v2 96 (clt v2 96 (gd (zx v2 96) (gd (zx v2 96 ∧ zb (qwr v2)) (m_Disk_copyFrom_76 fuel (v2 + 1) ow bt ki pl va (uf wr v2 (qwr v2)) qow qbt qki qpl qva qwr))) (some (ow, bt, ki, pl, va, wr))) (some (ow, bt, ki, pl, va, wr))
def m_Disk_copyFrom  (ow : Int → Int) (bt : Int → Int) (ki : Int → Int) (pl : Int → Int) (va : Int → Int) (wr : Int → Int) (qow : Int → Int) (qbt : Int → Int) (qki : Int → Int) (qpl : Int → Int) (qva : Int → Int) (qwr : Int → Int) : Option ((Int → Int) × (Int → Int) × (Int → Int) × (Int → Int) × (Int → Int) × (Int → Int)) :=
  m_Disk_copyFrom_76 5000 0 qow qbt qki qpl qva wr qow qbt qki qpl qva qwr
set_option maxHeartbeats 4000000 in
set_option maxRecDepth 100000 in
theorem l_Disk_copyFrom_76 {G : GT} {l : Launch} {D : va_G} {cI cB : ClassId} {a0 a1 a2 a3 a4 a5 a6 a7 a8 a9 a10 a11 a12 a13 a14 a15 a16 a17 a18 a19 : Nat} {rm : Int} {rs : Int → Int} {rz : Int → Int} {qrm : Int} {qrs : Int → Int} {qrz : Int → Int} (X : Cx G l D cI cB b_Disk_copyFrom y_Disk_copyFrom.cls 3 { frames := 1, cells := 0, slots := 0, locals := 60 }) : ∀ (fuel : Nat) (v2 : Int) (ow : Int → Int) (bt : Int → Int) (ki : Int → Int) (pl : Int → Int) (va : Int → Int) (wr : Int → Int) (qow : Int → Int) (qbt : Int → Int) (qki : Int → Int) (qpl : Int → Int) (qva : Int → Int) (qwr : Int → Int) (o : (Int → Int) × (Int → Int) × (Int → Int) × (Int → Int) × (Int → Int) × (Int → Int)), m_Disk_copyFrom_76 fuel v2 ow bt ki pl va wr qow qbt qki qpl qva qwr = some o → Rt G none none (w_Disk_Disk cI cB a0 a1 a2 a3 a4 a5 a6 a7 a8 a9 a10 a11 a12 a13 a14 a15 a16 a17 a18 a19 o.1 o.2.1 o.2.2.1 o.2.2.2.1 o.2.2.2.2.1 o.2.2.2.2.2 rm rs rz qow qbt qki qpl qva qwr qrm qrs qrz) → Wx G 0 0 76 [(0, .ref a0), (1, .ref a10), (2, .int (zi v2))] [] (w_Disk_Disk cI cB a0 a1 a2 a3 a4 a5 a6 a7 a8 a9 a10 a11 a12 a13 a14 a15 a16 a17 a18 a19 ow bt ki pl va wr rm rs rz qow qbt qki qpl qva qwr qrm qrs qrz) := by
  intro fuel
  induction fuel with
  | zero =>
    intro v2 ow bt ki pl va wr qow qbt qki qpl qva qwr o h
    exact absurd h (by simp [m_Disk_copyFrom_76])
  | succ fuel ih =>
    intro v2 ow bt ki pl va wr qow qbt qki qpl qva qwr o h hR
    rw [m_Disk_copyFrom_76] at h
    refine x_iload_n (pc := 76) X d_Disk_copyFrom_76 2 rfl rfl ?_
    refine x_aload_n (pc := 77) X d_Disk_copyFrom_77 0 rfl rfl ?_
    refine x_get (pc := 78) X d_Disk_copyFrom_78 0 rfl fl_Disk_27 rfl ?_
    refine x_zlen (pc := 81) (M := 96) X d_Disk_copyFrom_81 6 rfl rfl ?_
    refine x_icmpge (pc := 82) (tgt := 112) X d_Disk_copyFrom_82 rfl h (fun h => ?_) (fun h => ?_)
    · skip
      cases h
      exact x_vret (pc := 112) X hR d_Disk_copyFrom_112
    · skip
      refine x_iload_n (pc := 85) X d_Disk_copyFrom_85 2 rfl rfl ?_
      refine x_aload_n (pc := 86) X d_Disk_copyFrom_86 1 rfl rfl ?_
      refine x_get (pc := 87) X d_Disk_copyFrom_87 10 rfl fl_Disk_27 rfl ?_
      refine x_zlen (pc := 90) (M := 96) X d_Disk_copyFrom_90 16 rfl rfl ?_
      refine x_icmpge (pc := 91) (tgt := 112) X d_Disk_copyFrom_91 rfl h (fun h => ?_) (fun h => ?_)
      · skip
        cases h
        exact x_vret (pc := 112) X hR d_Disk_copyFrom_112
      · skip
        refine x_aload_n (pc := 94) X d_Disk_copyFrom_94 0 rfl rfl ?_
        refine x_get (pc := 95) X d_Disk_copyFrom_95 0 rfl fl_Disk_27 rfl ?_
        refine x_iload_n (pc := 98) X d_Disk_copyFrom_98 2 rfl rfl ?_
        refine x_aload_n (pc := 99) X d_Disk_copyFrom_99 1 rfl rfl ?_
        refine x_get (pc := 100) X d_Disk_copyFrom_100 10 rfl fl_Disk_27 rfl ?_
        refine x_iload_n (pc := 103) X d_Disk_copyFrom_103 2 rfl rfl ?_
        refine x_zald (pc := 104) X d_Disk_copyFrom_104 16 rfl (Nat.le_of_ble_eq_true rfl) rfl h (fun h => ?_)
        refine x_zast (pc := 105) (w2 := (w_Disk_Disk cI cB a0 a1 a2 a3 a4 a5 a6 a7 a8 a9 a10 a11 a12 a13 a14 a15 a16 a17 a18 a19 ow bt ki pl va (uf wr v2 (qwr v2)) rm rs rz qow qbt qki qpl qva qwr qrm qrs qrz)) X d_Disk_copyFrom_105 6 rfl (Nat.le_of_ble_eq_true rfl) rfl rfl h (fun h => ?_)
        refine x_iinc (pc := 106) (ls2 := [(2, .int (zi (v2 + 1))), (0, .ref a0), (1, .ref a10)]) X d_Disk_copyFrom_106 2 (Nat.le_of_ble_eq_true rfl) rfl rfl ?_
        refine x_goto (pc := 109) (tgt := 76) X d_Disk_copyFrom_109 rfl ?_
        refine x_ls (ls2 := [(0, .ref a0), (1, .ref a10), (2, .int (zi (v2 + 1)))]) [1, 2, 0] rfl ?_
        exact ih (v2 + 1) ow bt ki pl va (uf wr v2 (qwr v2)) qow qbt qki qpl qva qwr o h hR
set_option maxHeartbeats 4000000 in
set_option maxRecDepth 100000 in
theorem c_Disk_copyFrom (l : Launch) (D : va_G) (cI cB : ClassId) (a0 a1 a2 a3 a4 a5 a6 a7 a8 a9 a10 a11 a12 a13 a14 a15 a16 a17 a18 a19 : Nat) (ow : Int → Int) (bt : Int → Int) (ki : Int → Int) (pl : Int → Int) (va : Int → Int) (wr : Int → Int) (rm : Int) (rs : Int → Int) (rz : Int → Int) (qow : Int → Int) (qbt : Int → Int) (qki : Int → Int) (qpl : Int → Int) (qva : Int → Int) (qwr : Int → Int) (qrm : Int) (qrs : Int → Int) (qrz : Int → Int)  {o : (Int → Int) × (Int → Int) × (Int → Int) × (Int → Int) × (Int → Int) × (Int → Int)} (h : m_Disk_copyFrom ow bt ki pl va wr qow qbt qki qpl qva qwr = some o) : Ct l D cI cB y_Disk_copyFrom b_Disk_copyFrom 3 none { frames := 1, cells := 0, slots := 0, locals := 60 } [.ref a0, .ref a10] (w_Disk_Disk cI cB a0 a1 a2 a3 a4 a5 a6 a7 a8 a9 a10 a11 a12 a13 a14 a15 a16 a17 a18 a19 ow bt ki pl va wr rm rs rz qow qbt qki qpl qva qwr qrm qrs qrz) (w_Disk_Disk cI cB a0 a1 a2 a3 a4 a5 a6 a7 a8 a9 a10 a11 a12 a13 a14 a15 a16 a17 a18 a19 o.1 o.2.1 o.2.2.1 o.2.2.2.1 o.2.2.2.2.1 o.2.2.2.2.2 rm rs rz qow qbt qki qpl qva qwr qrm qrs qrz) none := by
  refine Ct.start (by decide) (Nat.le_of_ble_eq_true rfl) (fun G X hR => ?_)
  refine x_ls (ls2 := [(0, .ref a0), (1, .ref a10)]) [0, 1] rfl ?_
  unfold m_Disk_copyFrom at h
  refine x_aload_n (pc := 0) X d_Disk_copyFrom_0 1 rfl rfl ?_
  refine x_get (pc := 1) X d_Disk_copyFrom_1 10 rfl fl_Disk_9 rfl ?_
  refine x_iconst (pc := 4) X d_Disk_copyFrom_4  ?_
  refine x_aload_n (pc := 5) X d_Disk_copyFrom_5 0 rfl rfl ?_
  refine x_get (pc := 6) X d_Disk_copyFrom_6 0 rfl fl_Disk_9 rfl ?_
  refine x_iconst (pc := 9) X d_Disk_copyFrom_9  ?_
  refine x_bipush (pc := 10) (v := 64) X d_Disk_copyFrom_10 rfl ?_
  refine x_copy (pc := 12) (w2 := (w_Disk_Disk cI cB a0 a1 a2 a3 a4 a5 a6 a7 a8 a9 a10 a11 a12 a13 a14 a15 a16 a17 a18 a19 qow bt ki pl va wr rm rs rz qow qbt qki qpl qva qwr qrm qrs qrz)) X d_Disk_copyFrom_12 (tm_1 _ (List.mem_of_getElem? (i := 181) rfl)) 11 1 rfl rfl (N := 64) rfl (Nat.le_of_ble_eq_true rfl) ⟨(Nat.le_of_ble_eq_true rfl), (Nat.le_of_ble_eq_true rfl)⟩ rfl ?_
  refine x_aload_n (pc := 15) X d_Disk_copyFrom_15 1 rfl rfl ?_
  refine x_get (pc := 16) X d_Disk_copyFrom_16 10 rfl fl_Disk_15 rfl ?_
  refine x_iconst (pc := 19) X d_Disk_copyFrom_19  ?_
  refine x_aload_n (pc := 20) X d_Disk_copyFrom_20 0 rfl rfl ?_
  refine x_get (pc := 21) X d_Disk_copyFrom_21 0 rfl fl_Disk_15 rfl ?_
  refine x_iconst (pc := 24) X d_Disk_copyFrom_24  ?_
  refine x_bipush (pc := 25) (v := 64) X d_Disk_copyFrom_25 rfl ?_
  refine x_copy (pc := 27) (w2 := (w_Disk_Disk cI cB a0 a1 a2 a3 a4 a5 a6 a7 a8 a9 a10 a11 a12 a13 a14 a15 a16 a17 a18 a19 qow qbt ki pl va wr rm rs rz qow qbt qki qpl qva qwr qrm qrs qrz)) X d_Disk_copyFrom_27 (tm_1 _ (List.mem_of_getElem? (i := 181) rfl)) 12 2 rfl rfl (N := 64) rfl (Nat.le_of_ble_eq_true rfl) ⟨(Nat.le_of_ble_eq_true rfl), (Nat.le_of_ble_eq_true rfl)⟩ rfl ?_
  refine x_aload_n (pc := 30) X d_Disk_copyFrom_30 1 rfl rfl ?_
  refine x_get (pc := 31) X d_Disk_copyFrom_31 10 rfl fl_Disk_18 rfl ?_
  refine x_iconst (pc := 34) X d_Disk_copyFrom_34  ?_
  refine x_aload_n (pc := 35) X d_Disk_copyFrom_35 0 rfl rfl ?_
  refine x_get (pc := 36) X d_Disk_copyFrom_36 0 rfl fl_Disk_18 rfl ?_
  refine x_iconst (pc := 39) X d_Disk_copyFrom_39  ?_
  refine x_iconst (pc := 40) X d_Disk_copyFrom_40  ?_
  refine x_copy (pc := 41) (w2 := (w_Disk_Disk cI cB a0 a1 a2 a3 a4 a5 a6 a7 a8 a9 a10 a11 a12 a13 a14 a15 a16 a17 a18 a19 qow qbt qki pl va wr rm rs rz qow qbt qki qpl qva qwr qrm qrs qrz)) X d_Disk_copyFrom_41 (tm_1 _ (List.mem_of_getElem? (i := 181) rfl)) 13 3 rfl rfl (N := 4) rfl (Nat.le_of_ble_eq_true rfl) ⟨(Nat.le_of_ble_eq_true rfl), (Nat.le_of_ble_eq_true rfl)⟩ rfl ?_
  refine x_aload_n (pc := 44) X d_Disk_copyFrom_44 1 rfl rfl ?_
  refine x_get (pc := 45) X d_Disk_copyFrom_45 10 rfl fl_Disk_21 rfl ?_
  refine x_iconst (pc := 48) X d_Disk_copyFrom_48  ?_
  refine x_aload_n (pc := 49) X d_Disk_copyFrom_49 0 rfl rfl ?_
  refine x_get (pc := 50) X d_Disk_copyFrom_50 0 rfl fl_Disk_21 rfl ?_
  refine x_iconst (pc := 53) X d_Disk_copyFrom_53  ?_
  refine x_bipush (pc := 54) (v := 96) X d_Disk_copyFrom_54 rfl ?_
  refine x_copy (pc := 56) (w2 := (w_Disk_Disk cI cB a0 a1 a2 a3 a4 a5 a6 a7 a8 a9 a10 a11 a12 a13 a14 a15 a16 a17 a18 a19 qow qbt qki qpl va wr rm rs rz qow qbt qki qpl qva qwr qrm qrs qrz)) X d_Disk_copyFrom_56 (tm_1 _ (List.mem_of_getElem? (i := 181) rfl)) 14 4 rfl rfl (N := 96) rfl (Nat.le_of_ble_eq_true rfl) ⟨(Nat.le_of_ble_eq_true rfl), (Nat.le_of_ble_eq_true rfl)⟩ rfl ?_
  refine x_aload_n (pc := 59) X d_Disk_copyFrom_59 1 rfl rfl ?_
  refine x_get (pc := 60) X d_Disk_copyFrom_60 10 rfl fl_Disk_24 rfl ?_
  refine x_iconst (pc := 63) X d_Disk_copyFrom_63  ?_
  refine x_aload_n (pc := 64) X d_Disk_copyFrom_64 0 rfl rfl ?_
  refine x_get (pc := 65) X d_Disk_copyFrom_65 0 rfl fl_Disk_24 rfl ?_
  refine x_iconst (pc := 68) X d_Disk_copyFrom_68  ?_
  refine x_bipush (pc := 69) (v := 96) X d_Disk_copyFrom_69 rfl ?_
  refine x_copy (pc := 71) (w2 := (w_Disk_Disk cI cB a0 a1 a2 a3 a4 a5 a6 a7 a8 a9 a10 a11 a12 a13 a14 a15 a16 a17 a18 a19 qow qbt qki qpl qva wr rm rs rz qow qbt qki qpl qva qwr qrm qrs qrz)) X d_Disk_copyFrom_71 (tm_1 _ (List.mem_of_getElem? (i := 181) rfl)) 15 5 rfl rfl (N := 96) rfl (Nat.le_of_ble_eq_true rfl) ⟨(Nat.le_of_ble_eq_true rfl), (Nat.le_of_ble_eq_true rfl)⟩ rfl ?_
  refine x_iconst (pc := 74) X d_Disk_copyFrom_74  ?_
  refine x_istore_n (pc := 75) (ls2 := [(2, .int (zi 0)), (0, .ref a0), (1, .ref a10)]) X d_Disk_copyFrom_75 rfl (Nat.le_of_ble_eq_true rfl) rfl ?_
  refine x_ls (ls2 := [(0, .ref a0), (1, .ref a10), (2, .int (zi 0))]) [1, 2, 0] rfl ?_
  exact l_Disk_copyFrom_76 X 5000 0 qow qbt qki qpl qva wr qow qbt qki qpl qva qwr o h hR
noncomputable abbrev w_Disk (cI cB : ClassId) (a0 a1 a2 a3 a4 a5 a6 a7 a8 a9 : Nat) (ow : Int → Int) (bt : Int → Int) (ki : Int → Int) (pl : Int → Int) (va : Int → Int) (wr : Int → Int) (rm : Int) (rs : Int → Int) (rz : Int → Int) : va_W := [(a0, .inr (0, [.ref a1, .ref a2, .ref a3, .ref a4, .ref a5, .ref a6, .ref a7])), (a1, zA cI 64 ow), (a2, zA cI 64 bt), (a3, zA cI 4 ki), (a4, zA cI 96 pl), (a5, zA cI 96 va), (a6, zA cB 96 wr), (a7, .inr (3, [.ref a8, .ref a9, .int (zi rm)])), (a8, zA cI 32 rs), (a9, zA cI 32 rz)]
theorem d_Disk_turnKind_0 : decode b_Disk_turnKind 0 = .ok (.iload_n 1, 1) := by decide +kernel
theorem d_Disk_turnKind_1 : decode b_Disk_turnKind 1 = .ok (.invokestatic 99, 3) := by decide +kernel
theorem d_Disk_turnKind_4 : decode b_Disk_turnKind 4 = .ok (.ifCond .eq 10, 3) := by decide +kernel
theorem d_Disk_turnKind_7 : decode b_Disk_turnKind 7 = .ok (.aload_n 0, 1) := by decide +kernel
theorem d_Disk_turnKind_8 : decode b_Disk_turnKind 8 = .ok (.getfield 18, 3) := by decide +kernel
theorem d_Disk_turnKind_11 : decode b_Disk_turnKind 11 = .ok (.iload_n 1, 1) := by decide +kernel
theorem d_Disk_turnKind_12 : decode b_Disk_turnKind 12 = .ok (.iload_n 2, 1) := by decide +kernel
theorem d_Disk_turnKind_13 : decode b_Disk_turnKind 13 = .ok (.iastore, 1) := by decide +kernel
theorem d_Disk_turnKind_14 : decode b_Disk_turnKind 14 = .ok (.return_, 1) := by decide +kernel
def m_Disk_turnKind (x1 : Int) (x2 : Int) (ki : Int → Int) : Option ((Int → Int)) :=
  bnd (m_Vol_isFile x1) (fun r1 => ceq r1 0 (some (ki)) (gd (zx x1 4) (some ((uf ki x1 x2)))))
set_option maxHeartbeats 4000000 in
set_option maxRecDepth 100000 in
theorem c_Disk_turnKind (l : Launch) (D : va_G) (cI cB : ClassId) (a0 a1 a2 a3 a4 a5 a6 a7 a8 a9 : Nat) (ow : Int → Int) (bt : Int → Int) (ki : Int → Int) (pl : Int → Int) (va : Int → Int) (wr : Int → Int) (rm : Int) (rs : Int → Int) (rz : Int → Int) (x1 : Int) (x2 : Int) {o : (Int → Int)} (h : m_Disk_turnKind x1 x2 ki = some o) : Ct l D cI cB y_Disk_turnKind b_Disk_turnKind 3 none { frames := 1, cells := 0, slots := 0, locals := 20 } [.ref a0, .int (zi x1), .int (zi x2)] (w_Disk cI cB a0 a1 a2 a3 a4 a5 a6 a7 a8 a9 ow bt ki pl va wr rm rs rz) (w_Disk cI cB a0 a1 a2 a3 a4 a5 a6 a7 a8 a9 ow bt o pl va wr rm rs rz) none := by
  refine Ct.start (by decide) (Nat.le_of_ble_eq_true rfl) (fun G X hR => ?_)
  refine x_ls (ls2 := [(0, .ref a0), (1, .int (zi x1)), (2, .int (zi x2))]) [0, 1, 2] rfl ?_
  unfold m_Disk_turnKind at h
  refine x_iload_n (pc := 0) X d_Disk_turnKind_0 1 rfl rfl ?_
  obtain ⟨r1, h2, h⟩ := bnd_e h
  refine x_callS (pc := 1) (As := [.int (zi x1)]) (rest := []) (w2 := (w_Disk cI cB a0 a1 a2 a3 a4 a5 a6 a7 a8 a9 ow bt ki pl va wr rm rs rz)) X d_Disk_turnKind_1 lk_Disk_99 mv_Vol_isFile (c_Vol_isFile l D cI cB x1 h2) ⟨(Nat.le_of_ble_eq_true rfl), (Nat.le_of_ble_eq_true rfl), (Nat.le_of_ble_eq_true rfl), (Nat.le_of_ble_eq_true rfl)⟩ [] rfl rfl rfl (Up.same rfl) rfl rfl (Nat.le_of_ble_eq_true rfl) ?_
  refine x_ifeq (pc := 4) (tgt := 14) X d_Disk_turnKind_4 rfl h (fun h => ?_) (fun h => ?_)
  · skip
    cases h
    exact x_vret (pc := 14) X hR d_Disk_turnKind_14
  · skip
    refine x_aload_n (pc := 7) X d_Disk_turnKind_7 0 rfl rfl ?_
    refine x_get (pc := 8) X d_Disk_turnKind_8 0 rfl fl_Disk_18 rfl ?_
    refine x_iload_n (pc := 11) X d_Disk_turnKind_11 1 rfl rfl ?_
    refine x_iload_n (pc := 12) X d_Disk_turnKind_12 2 rfl rfl ?_
    refine x_iast (pc := 13) (w2 := (w_Disk cI cB a0 a1 a2 a3 a4 a5 a6 a7 a8 a9 ow bt (uf ki x1 x2) pl va wr rm rs rz)) X d_Disk_turnKind_13 3 rfl (Nat.le_of_ble_eq_true rfl) rfl rfl h (fun h => ?_)
    cases h
    exact x_vret (pc := 14) X hR d_Disk_turnKind_14
theorem d_Disk_blockAt_0 : decode b_Disk_blockAt 0 = .ok (.iload_n 1, 1) := by decide +kernel
theorem d_Disk_blockAt_1 : decode b_Disk_blockAt 1 = .ok (.ifCond .lt 22, 3) := by decide +kernel
theorem d_Disk_blockAt_4 : decode b_Disk_blockAt 4 = .ok (.iload_n 1, 1) := by decide +kernel
theorem d_Disk_blockAt_5 : decode b_Disk_blockAt 5 = .ok (.iconst 4, 1) := by decide +kernel
theorem d_Disk_blockAt_6 : decode b_Disk_blockAt 6 = .ok (.if_icmp .ge 17, 3) := by decide +kernel
theorem d_Disk_blockAt_9 : decode b_Disk_blockAt 9 = .ok (.iload_n 2, 1) := by decide +kernel
theorem d_Disk_blockAt_10 : decode b_Disk_blockAt 10 = .ok (.ifCond .lt 13, 3) := by decide +kernel
theorem d_Disk_blockAt_13 : decode b_Disk_blockAt 13 = .ok (.iload_n 2, 1) := by decide +kernel
theorem d_Disk_blockAt_14 : decode b_Disk_blockAt 14 = .ok (.bipush 24, 2) := by decide +kernel
theorem d_Disk_blockAt_16 : decode b_Disk_blockAt 16 = .ok (.if_icmp .ge 7, 3) := by decide +kernel
theorem d_Disk_blockAt_19 : decode b_Disk_blockAt 19 = .ok (.iconst 1, 1) := by decide +kernel
theorem d_Disk_blockAt_20 : decode b_Disk_blockAt 20 = .ok (.goto 4, 3) := by decide +kernel
theorem d_Disk_blockAt_23 : decode b_Disk_blockAt 23 = .ok (.iconst 0, 1) := by decide +kernel
theorem d_Disk_blockAt_24 : decode b_Disk_blockAt 24 = .ok (.istore_n 3, 1) := by decide +kernel
theorem d_Disk_blockAt_25 : decode b_Disk_blockAt 25 = .ok (.iload_n 3, 1) := by decide +kernel
theorem d_Disk_blockAt_26 : decode b_Disk_blockAt 26 = .ok (.ifCond .eq 17, 3) := by decide +kernel
theorem d_Disk_blockAt_29 : decode b_Disk_blockAt 29 = .ok (.aload_n 0, 1) := by decide +kernel
theorem d_Disk_blockAt_30 : decode b_Disk_blockAt 30 = .ok (.getfield 21, 3) := by decide +kernel
theorem d_Disk_blockAt_33 : decode b_Disk_blockAt 33 = .ok (.iload_n 1, 1) := by decide +kernel
theorem d_Disk_blockAt_34 : decode b_Disk_blockAt 34 = .ok (.bipush 24, 2) := by decide +kernel
theorem d_Disk_blockAt_36 : decode b_Disk_blockAt 36 = .ok (.imul, 1) := by decide +kernel
theorem d_Disk_blockAt_37 : decode b_Disk_blockAt 37 = .ok (.iload_n 2, 1) := by decide +kernel
theorem d_Disk_blockAt_38 : decode b_Disk_blockAt 38 = .ok (.iadd, 1) := by decide +kernel
theorem d_Disk_blockAt_39 : decode b_Disk_blockAt 39 = .ok (.iaload, 1) := by decide +kernel
theorem d_Disk_blockAt_40 : decode b_Disk_blockAt 40 = .ok (.goto 4, 3) := by decide +kernel
theorem d_Disk_blockAt_43 : decode b_Disk_blockAt 43 = .ok (.iconst (-1), 1) := by decide +kernel
theorem d_Disk_blockAt_44 : decode b_Disk_blockAt 44 = .ok (.ireturn, 1) := by decide +kernel
def m_Disk_blockAt (x1 : Int) (x2 : Int) (pl : Int → Int) : Option (Int) :=
  jn (fun (z2 : Int) (z3 : Int) (z4 : Int) => ceq z4 0 (some ((-1))) (gd (zx ((z2 * 24) + z3) 96) (some ((pl ((z2 * 24) + z3)))))) (fun j1 => jn (fun (z8 : Int) (z9 : Int) => j1 z8 z9 0) (fun j7 => clt x1 0 (j7 x1 x2) (clt x1 4 (clt x2 0 (j7 x1 x2) (clt x2 24 (j1 x1 x2 1) (j7 x1 x2))) (j7 x1 x2))))
set_option maxHeartbeats 4000000 in
set_option maxRecDepth 100000 in
theorem c_Disk_blockAt (l : Launch) (D : va_G) (cI cB : ClassId) (a0 a1 a2 a3 a4 a5 a6 a7 a8 a9 : Nat) (ow : Int → Int) (bt : Int → Int) (ki : Int → Int) (pl : Int → Int) (va : Int → Int) (wr : Int → Int) (rm : Int) (rs : Int → Int) (rz : Int → Int) (x1 : Int) (x2 : Int) {o : Int} (h : m_Disk_blockAt x1 x2 pl = some o) : Ct l D cI cB y_Disk_blockAt b_Disk_blockAt 4 (some .int) { frames := 0, cells := 0, slots := 0, locals := 0 } [.ref a0, .int (zi x1), .int (zi x2)] (w_Disk cI cB a0 a1 a2 a3 a4 a5 a6 a7 a8 a9 ow bt ki pl va wr rm rs rz) (w_Disk cI cB a0 a1 a2 a3 a4 a5 a6 a7 a8 a9 ow bt ki pl va wr rm rs rz) (some (.int (zi o))) := by
  refine Ct.start (by decide) (Nat.le_of_ble_eq_true rfl) (fun G X hR => ?_)
  refine x_ls (ls2 := [(0, .ref a0), (1, .int (zi x1)), (2, .int (zi x2))]) [0, 1, 2] rfl ?_
  unfold m_Disk_blockAt at h
  refine x_iload_n (pc := 0) X d_Disk_blockAt_0 1 rfl rfl ?_
  obtain ⟨j1, hj5, h⟩ := jn_e h
  have J6 : ∀ (z2 : Int) (z3 : Int) (z4 : Int), j1 z2 z3 z4 = some o → Wx G 0 0 24 [(0, .ref a0), (1, .int (zi z2)), (2, .int (zi z3))] [.int (zi z4)] (w_Disk cI cB a0 a1 a2 a3 a4 a5 a6 a7 a8 a9 ow bt ki pl va wr rm rs rz) := by
    intro z2 z3 z4 h
    rw [hj5] at h
    (try dsimp only at h)
    refine x_istore_n (pc := 24) (ls2 := [(3, .int (zi z4)), (0, .ref a0), (1, .int (zi z2)), (2, .int (zi z3))]) X d_Disk_blockAt_24 rfl (Nat.le_of_ble_eq_true rfl) rfl ?_
    refine x_iload_n (pc := 25) X d_Disk_blockAt_25 0 rfl rfl ?_
    refine x_ifeq (pc := 26) (tgt := 43) X d_Disk_blockAt_26 rfl h (fun h => ?_) (fun h => ?_)
    · skip
      refine x_iconst (pc := 43) X d_Disk_blockAt_43  ?_
      cases h
      exact x_iret (pc := 44) X hR d_Disk_blockAt_44
    · skip
      refine x_aload_n (pc := 29) X d_Disk_blockAt_29 1 rfl rfl ?_
      refine x_get (pc := 30) X d_Disk_blockAt_30 0 rfl fl_Disk_21 rfl ?_
      refine x_iload_n (pc := 33) X d_Disk_blockAt_33 2 rfl rfl ?_
      refine x_bipush (pc := 34) (v := 24) X d_Disk_blockAt_34 rfl ?_
      refine x_imul (pc := 36) X d_Disk_blockAt_36  ?_
      refine x_iload_n (pc := 37) X d_Disk_blockAt_37 3 rfl rfl ?_
      refine x_iadd (pc := 38) X d_Disk_blockAt_38  ?_
      refine x_iald (pc := 39) X d_Disk_blockAt_39 4 rfl (Nat.le_of_ble_eq_true rfl) rfl h (fun h => ?_)
      refine x_goto (pc := 40) (tgt := 44) X d_Disk_blockAt_40 rfl ?_
      cases h
      exact x_iret (pc := 44) X hR d_Disk_blockAt_44
  clear hj5
  obtain ⟨j7, hj10, h⟩ := jn_e h
  have J11 : ∀ (z8 : Int) (z9 : Int), j7 z8 z9 = some o → Wx G 0 0 23 [(0, .ref a0), (1, .int (zi z8)), (2, .int (zi z9))] [] (w_Disk cI cB a0 a1 a2 a3 a4 a5 a6 a7 a8 a9 ow bt ki pl va wr rm rs rz) := by
    intro z8 z9 h
    rw [hj10] at h
    (try dsimp only at h)
    refine x_iconst (pc := 23) X d_Disk_blockAt_23  ?_
    exact J6 z8 z9 0 h
  clear hj10
  refine x_iflt (pc := 1) (tgt := 23) X d_Disk_blockAt_1 rfl h (fun h => ?_) (fun h => ?_)
  · skip
    exact J11 x1 x2 h
  · skip
    refine x_iload_n (pc := 4) X d_Disk_blockAt_4 1 rfl rfl ?_
    refine x_iconst (pc := 5) X d_Disk_blockAt_5  ?_
    refine x_icmpge (pc := 6) (tgt := 23) X d_Disk_blockAt_6 rfl h (fun h => ?_) (fun h => ?_)
    · skip
      exact J11 x1 x2 h
    · skip
      refine x_iload_n (pc := 9) X d_Disk_blockAt_9 2 rfl rfl ?_
      refine x_iflt (pc := 10) (tgt := 23) X d_Disk_blockAt_10 rfl h (fun h => ?_) (fun h => ?_)
      · skip
        exact J11 x1 x2 h
      · skip
        refine x_iload_n (pc := 13) X d_Disk_blockAt_13 2 rfl rfl ?_
        refine x_bipush (pc := 14) (v := 24) X d_Disk_blockAt_14 rfl ?_
        refine x_icmpge (pc := 16) (tgt := 23) X d_Disk_blockAt_16 rfl h (fun h => ?_) (fun h => ?_)
        · skip
          exact J11 x1 x2 h
        · skip
          refine x_iconst (pc := 19) X d_Disk_blockAt_19  ?_
          refine x_goto (pc := 20) (tgt := 24) X d_Disk_blockAt_20 rfl ?_
          exact J6 x1 x2 1 h
theorem d_Disk_valueAt_0 : decode b_Disk_valueAt 0 = .ok (.iload_n 1, 1) := by decide +kernel
theorem d_Disk_valueAt_1 : decode b_Disk_valueAt 1 = .ok (.ifCond .lt 22, 3) := by decide +kernel
theorem d_Disk_valueAt_4 : decode b_Disk_valueAt 4 = .ok (.iload_n 1, 1) := by decide +kernel
theorem d_Disk_valueAt_5 : decode b_Disk_valueAt 5 = .ok (.iconst 4, 1) := by decide +kernel
theorem d_Disk_valueAt_6 : decode b_Disk_valueAt 6 = .ok (.if_icmp .ge 17, 3) := by decide +kernel
theorem d_Disk_valueAt_9 : decode b_Disk_valueAt 9 = .ok (.iload_n 2, 1) := by decide +kernel
theorem d_Disk_valueAt_10 : decode b_Disk_valueAt 10 = .ok (.ifCond .lt 13, 3) := by decide +kernel
theorem d_Disk_valueAt_13 : decode b_Disk_valueAt 13 = .ok (.iload_n 2, 1) := by decide +kernel
theorem d_Disk_valueAt_14 : decode b_Disk_valueAt 14 = .ok (.bipush 24, 2) := by decide +kernel
theorem d_Disk_valueAt_16 : decode b_Disk_valueAt 16 = .ok (.if_icmp .ge 7, 3) := by decide +kernel
theorem d_Disk_valueAt_19 : decode b_Disk_valueAt 19 = .ok (.iconst 1, 1) := by decide +kernel
theorem d_Disk_valueAt_20 : decode b_Disk_valueAt 20 = .ok (.goto 4, 3) := by decide +kernel
theorem d_Disk_valueAt_23 : decode b_Disk_valueAt 23 = .ok (.iconst 0, 1) := by decide +kernel
theorem d_Disk_valueAt_24 : decode b_Disk_valueAt 24 = .ok (.istore_n 3, 1) := by decide +kernel
theorem d_Disk_valueAt_25 : decode b_Disk_valueAt 25 = .ok (.iload_n 3, 1) := by decide +kernel
theorem d_Disk_valueAt_26 : decode b_Disk_valueAt 26 = .ok (.ifCond .eq 17, 3) := by decide +kernel
theorem d_Disk_valueAt_29 : decode b_Disk_valueAt 29 = .ok (.aload_n 0, 1) := by decide +kernel
theorem d_Disk_valueAt_30 : decode b_Disk_valueAt 30 = .ok (.getfield 24, 3) := by decide +kernel
theorem d_Disk_valueAt_33 : decode b_Disk_valueAt 33 = .ok (.iload_n 1, 1) := by decide +kernel
theorem d_Disk_valueAt_34 : decode b_Disk_valueAt 34 = .ok (.bipush 24, 2) := by decide +kernel
theorem d_Disk_valueAt_36 : decode b_Disk_valueAt 36 = .ok (.imul, 1) := by decide +kernel
theorem d_Disk_valueAt_37 : decode b_Disk_valueAt 37 = .ok (.iload_n 2, 1) := by decide +kernel
theorem d_Disk_valueAt_38 : decode b_Disk_valueAt 38 = .ok (.iadd, 1) := by decide +kernel
theorem d_Disk_valueAt_39 : decode b_Disk_valueAt 39 = .ok (.iaload, 1) := by decide +kernel
theorem d_Disk_valueAt_40 : decode b_Disk_valueAt 40 = .ok (.goto 4, 3) := by decide +kernel
theorem d_Disk_valueAt_43 : decode b_Disk_valueAt 43 = .ok (.iconst (-1), 1) := by decide +kernel
theorem d_Disk_valueAt_44 : decode b_Disk_valueAt 44 = .ok (.ireturn, 1) := by decide +kernel
def m_Disk_valueAt (x1 : Int) (x2 : Int) (va : Int → Int) : Option (Int) :=
  jn (fun (z2 : Int) (z3 : Int) (z4 : Int) => ceq z4 0 (some ((-1))) (gd (zx ((z2 * 24) + z3) 96) (some ((va ((z2 * 24) + z3)))))) (fun j1 => jn (fun (z8 : Int) (z9 : Int) => j1 z8 z9 0) (fun j7 => clt x1 0 (j7 x1 x2) (clt x1 4 (clt x2 0 (j7 x1 x2) (clt x2 24 (j1 x1 x2 1) (j7 x1 x2))) (j7 x1 x2))))
set_option maxHeartbeats 4000000 in
set_option maxRecDepth 100000 in
theorem c_Disk_valueAt (l : Launch) (D : va_G) (cI cB : ClassId) (a0 a1 a2 a3 a4 a5 a6 a7 a8 a9 : Nat) (ow : Int → Int) (bt : Int → Int) (ki : Int → Int) (pl : Int → Int) (va : Int → Int) (wr : Int → Int) (rm : Int) (rs : Int → Int) (rz : Int → Int) (x1 : Int) (x2 : Int) {o : Int} (h : m_Disk_valueAt x1 x2 va = some o) : Ct l D cI cB y_Disk_valueAt b_Disk_valueAt 4 (some .int) { frames := 0, cells := 0, slots := 0, locals := 0 } [.ref a0, .int (zi x1), .int (zi x2)] (w_Disk cI cB a0 a1 a2 a3 a4 a5 a6 a7 a8 a9 ow bt ki pl va wr rm rs rz) (w_Disk cI cB a0 a1 a2 a3 a4 a5 a6 a7 a8 a9 ow bt ki pl va wr rm rs rz) (some (.int (zi o))) := by
  refine Ct.start (by decide) (Nat.le_of_ble_eq_true rfl) (fun G X hR => ?_)
  refine x_ls (ls2 := [(0, .ref a0), (1, .int (zi x1)), (2, .int (zi x2))]) [0, 1, 2] rfl ?_
  unfold m_Disk_valueAt at h
  refine x_iload_n (pc := 0) X d_Disk_valueAt_0 1 rfl rfl ?_
  obtain ⟨j1, hj5, h⟩ := jn_e h
  have J6 : ∀ (z2 : Int) (z3 : Int) (z4 : Int), j1 z2 z3 z4 = some o → Wx G 0 0 24 [(0, .ref a0), (1, .int (zi z2)), (2, .int (zi z3))] [.int (zi z4)] (w_Disk cI cB a0 a1 a2 a3 a4 a5 a6 a7 a8 a9 ow bt ki pl va wr rm rs rz) := by
    intro z2 z3 z4 h
    rw [hj5] at h
    (try dsimp only at h)
    refine x_istore_n (pc := 24) (ls2 := [(3, .int (zi z4)), (0, .ref a0), (1, .int (zi z2)), (2, .int (zi z3))]) X d_Disk_valueAt_24 rfl (Nat.le_of_ble_eq_true rfl) rfl ?_
    refine x_iload_n (pc := 25) X d_Disk_valueAt_25 0 rfl rfl ?_
    refine x_ifeq (pc := 26) (tgt := 43) X d_Disk_valueAt_26 rfl h (fun h => ?_) (fun h => ?_)
    · skip
      refine x_iconst (pc := 43) X d_Disk_valueAt_43  ?_
      cases h
      exact x_iret (pc := 44) X hR d_Disk_valueAt_44
    · skip
      refine x_aload_n (pc := 29) X d_Disk_valueAt_29 1 rfl rfl ?_
      refine x_get (pc := 30) X d_Disk_valueAt_30 0 rfl fl_Disk_24 rfl ?_
      refine x_iload_n (pc := 33) X d_Disk_valueAt_33 2 rfl rfl ?_
      refine x_bipush (pc := 34) (v := 24) X d_Disk_valueAt_34 rfl ?_
      refine x_imul (pc := 36) X d_Disk_valueAt_36  ?_
      refine x_iload_n (pc := 37) X d_Disk_valueAt_37 3 rfl rfl ?_
      refine x_iadd (pc := 38) X d_Disk_valueAt_38  ?_
      refine x_iald (pc := 39) X d_Disk_valueAt_39 5 rfl (Nat.le_of_ble_eq_true rfl) rfl h (fun h => ?_)
      refine x_goto (pc := 40) (tgt := 44) X d_Disk_valueAt_40 rfl ?_
      cases h
      exact x_iret (pc := 44) X hR d_Disk_valueAt_44
  clear hj5
  obtain ⟨j7, hj10, h⟩ := jn_e h
  have J11 : ∀ (z8 : Int) (z9 : Int), j7 z8 z9 = some o → Wx G 0 0 23 [(0, .ref a0), (1, .int (zi z8)), (2, .int (zi z9))] [] (w_Disk cI cB a0 a1 a2 a3 a4 a5 a6 a7 a8 a9 ow bt ki pl va wr rm rs rz) := by
    intro z8 z9 h
    rw [hj10] at h
    (try dsimp only at h)
    refine x_iconst (pc := 23) X d_Disk_valueAt_23  ?_
    exact J6 z8 z9 0 h
  clear hj10
  refine x_iflt (pc := 1) (tgt := 23) X d_Disk_valueAt_1 rfl h (fun h => ?_) (fun h => ?_)
  · skip
    exact J11 x1 x2 h
  · skip
    refine x_iload_n (pc := 4) X d_Disk_valueAt_4 1 rfl rfl ?_
    refine x_iconst (pc := 5) X d_Disk_valueAt_5  ?_
    refine x_icmpge (pc := 6) (tgt := 23) X d_Disk_valueAt_6 rfl h (fun h => ?_) (fun h => ?_)
    · skip
      exact J11 x1 x2 h
    · skip
      refine x_iload_n (pc := 9) X d_Disk_valueAt_9 2 rfl rfl ?_
      refine x_iflt (pc := 10) (tgt := 23) X d_Disk_valueAt_10 rfl h (fun h => ?_) (fun h => ?_)
      · skip
        exact J11 x1 x2 h
      · skip
        refine x_iload_n (pc := 13) X d_Disk_valueAt_13 2 rfl rfl ?_
        refine x_bipush (pc := 14) (v := 24) X d_Disk_valueAt_14 rfl ?_
        refine x_icmpge (pc := 16) (tgt := 23) X d_Disk_valueAt_16 rfl h (fun h => ?_) (fun h => ?_)
        · skip
          exact J11 x1 x2 h
        · skip
          refine x_iconst (pc := 19) X d_Disk_valueAt_19  ?_
          refine x_goto (pc := 20) (tgt := 24) X d_Disk_valueAt_20 rfl ?_
          exact J6 x1 x2 1 h
theorem d_Disk_isHole_0 : decode b_Disk_isHole 0 = .ok (.aload_n 0, 1) := by decide +kernel
theorem d_Disk_isHole_1 : decode b_Disk_isHole 1 = .ok (.iload_n 1, 1) := by decide +kernel
theorem d_Disk_isHole_2 : decode b_Disk_isHole 2 = .ok (.iload_n 2, 1) := by decide +kernel
theorem d_Disk_isHole_3 : decode b_Disk_isHole 3 = .ok (.invokevirtual 56, 3) := by decide +kernel
theorem d_Disk_isHole_6 : decode b_Disk_isHole 6 = .ok (.ifCond .ge 16, 3) := by decide +kernel
theorem d_Disk_isHole_9 : decode b_Disk_isHole 9 = .ok (.aload_n 0, 1) := by decide +kernel
theorem d_Disk_isHole_10 : decode b_Disk_isHole 10 = .ok (.iload_n 1, 1) := by decide +kernel
theorem d_Disk_isHole_11 : decode b_Disk_isHole 11 = .ok (.iload_n 2, 1) := by decide +kernel
theorem d_Disk_isHole_12 : decode b_Disk_isHole 12 = .ok (.invokevirtual 60, 3) := by decide +kernel
theorem d_Disk_isHole_15 : decode b_Disk_isHole 15 = .ok (.ifCond .ge 7, 3) := by decide +kernel
theorem d_Disk_isHole_18 : decode b_Disk_isHole 18 = .ok (.iconst 1, 1) := by decide +kernel
theorem d_Disk_isHole_19 : decode b_Disk_isHole 19 = .ok (.goto 4, 3) := by decide +kernel
theorem d_Disk_isHole_22 : decode b_Disk_isHole 22 = .ok (.iconst 0, 1) := by decide +kernel
theorem d_Disk_isHole_23 : decode b_Disk_isHole 23 = .ok (.ireturn, 1) := by decide +kernel
def m_Disk_isHole (x1 : Int) (x2 : Int) (pl : Int → Int) (va : Int → Int) : Option (Int) :=
  bnd (m_Disk_blockAt x1 x2 pl) (fun r1 => clt r1 0 (bnd (m_Disk_valueAt x1 x2 va) (fun r3 => clt r3 0 (some (1)) (some (0)))) (some (0)))
set_option maxHeartbeats 4000000 in
set_option maxRecDepth 100000 in
theorem c_Disk_isHole (l : Launch) (D : va_G) (cI cB : ClassId) (a0 a1 a2 a3 a4 a5 a6 a7 a8 a9 : Nat) (ow : Int → Int) (bt : Int → Int) (ki : Int → Int) (pl : Int → Int) (va : Int → Int) (wr : Int → Int) (rm : Int) (rs : Int → Int) (rz : Int → Int) (x1 : Int) (x2 : Int) {o : Int} (h : m_Disk_isHole x1 x2 pl va = some o) : Ct l D cI cB y_Disk_isHole b_Disk_isHole 3 (some .boolean) { frames := 1, cells := 0, slots := 0, locals := 23 } [.ref a0, .int (zi x1), .int (zi x2)] (w_Disk cI cB a0 a1 a2 a3 a4 a5 a6 a7 a8 a9 ow bt ki pl va wr rm rs rz) (w_Disk cI cB a0 a1 a2 a3 a4 a5 a6 a7 a8 a9 ow bt ki pl va wr rm rs rz) (some (.int (zi o))) := by
  refine Ct.start (by decide) (Nat.le_of_ble_eq_true rfl) (fun G X hR => ?_)
  refine x_ls (ls2 := [(0, .ref a0), (1, .int (zi x1)), (2, .int (zi x2))]) [0, 1, 2] rfl ?_
  unfold m_Disk_isHole at h
  refine x_aload_n (pc := 0) X d_Disk_isHole_0 0 rfl rfl ?_
  refine x_iload_n (pc := 1) X d_Disk_isHole_1 1 rfl rfl ?_
  refine x_iload_n (pc := 2) X d_Disk_isHole_2 2 rfl rfl ?_
  obtain ⟨r1, h2, h⟩ := bnd_e h
  refine x_callV (pc := 3) (As := [.int (zi x1), .int (zi x2)]) (rest := []) (w2 := (w_Disk cI cB a0 a1 a2 a3 a4 a5 a6 a7 a8 a9 ow bt ki pl va wr rm rs rz)) X d_Disk_isHole_3 lk_Disk_56 mv_Disk_blockAt (c_Disk_blockAt l D cI cB a0 a1 a2 a3 a4 a5 a6 a7 a8 a9 ow bt ki pl va wr rm rs rz x1 x2 h2) ⟨(Nat.le_of_ble_eq_true rfl), (Nat.le_of_ble_eq_true rfl), (Nat.le_of_ble_eq_true rfl), (Nat.le_of_ble_eq_true rfl)⟩ 0 rfl rfl [0, 1, 2, 3, 4, 5, 6, 7, 8, 9] rfl rfl rfl (Up.same rfl) rfl rfl (Nat.le_of_ble_eq_true rfl) ?_
  refine x_ifge (pc := 6) (tgt := 22) X d_Disk_isHole_6 rfl h (fun h => ?_) (fun h => ?_)
  · skip
    refine x_iconst (pc := 22) X d_Disk_isHole_22  ?_
    cases h
    exact x_zret (pc := 23) X hR d_Disk_isHole_23 (Or.inl rfl)
  · skip
    refine x_aload_n (pc := 9) X d_Disk_isHole_9 0 rfl rfl ?_
    refine x_iload_n (pc := 10) X d_Disk_isHole_10 1 rfl rfl ?_
    refine x_iload_n (pc := 11) X d_Disk_isHole_11 2 rfl rfl ?_
    obtain ⟨r3, h4, h⟩ := bnd_e h
    refine x_callV (pc := 12) (As := [.int (zi x1), .int (zi x2)]) (rest := []) (w2 := (w_Disk cI cB a0 a1 a2 a3 a4 a5 a6 a7 a8 a9 ow bt ki pl va wr rm rs rz)) X d_Disk_isHole_12 lk_Disk_60 mv_Disk_valueAt (c_Disk_valueAt l D cI cB a0 a1 a2 a3 a4 a5 a6 a7 a8 a9 ow bt ki pl va wr rm rs rz x1 x2 h4) ⟨(Nat.le_of_ble_eq_true rfl), (Nat.le_of_ble_eq_true rfl), (Nat.le_of_ble_eq_true rfl), (Nat.le_of_ble_eq_true rfl)⟩ 0 rfl rfl [0, 1, 2, 3, 4, 5, 6, 7, 8, 9] rfl rfl rfl (Up.same rfl) rfl rfl (Nat.le_of_ble_eq_true rfl) ?_
    refine x_ifge (pc := 15) (tgt := 22) X d_Disk_isHole_15 rfl h (fun h => ?_) (fun h => ?_)
    · skip
      refine x_iconst (pc := 22) X d_Disk_isHole_22  ?_
      cases h
      exact x_zret (pc := 23) X hR d_Disk_isHole_23 (Or.inl rfl)
    · skip
      refine x_iconst (pc := 18) X d_Disk_isHole_18  ?_
      refine x_goto (pc := 19) (tgt := 23) X d_Disk_isHole_19 rfl ?_
      cases h
      exact x_zret (pc := 23) X hR d_Disk_isHole_23 (Or.inr rfl)
theorem d_Disk_freeBlocks_0 : decode b_Disk_freeBlocks 0 = .ok (.iconst 0, 1) := by decide +kernel
theorem d_Disk_freeBlocks_1 : decode b_Disk_freeBlocks 1 = .ok (.istore_n 1, 1) := by decide +kernel
theorem d_Disk_freeBlocks_2 : decode b_Disk_freeBlocks 2 = .ok (.iconst 0, 1) := by decide +kernel
theorem d_Disk_freeBlocks_3 : decode b_Disk_freeBlocks 3 = .ok (.istore_n 2, 1) := by decide +kernel
theorem d_Disk_freeBlocks_4 : decode b_Disk_freeBlocks 4 = .ok (.iload_n 2, 1) := by decide +kernel
theorem d_Disk_freeBlocks_5 : decode b_Disk_freeBlocks 5 = .ok (.aload_n 0, 1) := by decide +kernel
theorem d_Disk_freeBlocks_6 : decode b_Disk_freeBlocks 6 = .ok (.getfield 9, 3) := by decide +kernel
theorem d_Disk_freeBlocks_9 : decode b_Disk_freeBlocks 9 = .ok (.arraylength, 1) := by decide +kernel
theorem d_Disk_freeBlocks_10 : decode b_Disk_freeBlocks 10 = .ok (.if_icmp .ge 22, 3) := by decide +kernel
theorem d_Disk_freeBlocks_13 : decode b_Disk_freeBlocks 13 = .ok (.aload_n 0, 1) := by decide +kernel
theorem d_Disk_freeBlocks_14 : decode b_Disk_freeBlocks 14 = .ok (.getfield 9, 3) := by decide +kernel
theorem d_Disk_freeBlocks_17 : decode b_Disk_freeBlocks 17 = .ok (.iload_n 2, 1) := by decide +kernel
theorem d_Disk_freeBlocks_18 : decode b_Disk_freeBlocks 18 = .ok (.iaload, 1) := by decide +kernel
theorem d_Disk_freeBlocks_19 : decode b_Disk_freeBlocks 19 = .ok (.iconst (-1), 1) := by decide +kernel
theorem d_Disk_freeBlocks_20 : decode b_Disk_freeBlocks 20 = .ok (.if_icmp .ne 6, 3) := by decide +kernel
theorem d_Disk_freeBlocks_23 : decode b_Disk_freeBlocks 23 = .ok (.iinc 1 1, 3) := by decide +kernel
theorem d_Disk_freeBlocks_26 : decode b_Disk_freeBlocks 26 = .ok (.iinc 2 1, 3) := by decide +kernel
theorem d_Disk_freeBlocks_29 : decode b_Disk_freeBlocks 29 = .ok (.goto (-25), 3) := by decide +kernel
theorem d_Disk_freeBlocks_32 : decode b_Disk_freeBlocks 32 = .ok (.iload_n 1, 1) := by decide +kernel
theorem d_Disk_freeBlocks_33 : decode b_Disk_freeBlocks 33 = .ok (.ireturn, 1) := by decide +kernel
def m_Disk_freeBlocks_4 : Nat → Int → Int → (Int → Int) → Option (Int)
  | 0, _, _, _ => none
  | fuel + 1, v1, v2, ow =>
  clt v2 64 (gd (zx v2 64) (ceq (ow v2) (-1) (m_Disk_freeBlocks_4 fuel (v1 + 1) (v2 + 1) ow) (m_Disk_freeBlocks_4 fuel v1 (v2 + 1) ow))) (some (v1))
def m_Disk_freeBlocks  (ow : Int → Int) : Option (Int) :=
  m_Disk_freeBlocks_4 5000 0 0 ow
set_option maxHeartbeats 4000000 in
set_option maxRecDepth 100000 in
theorem l_Disk_freeBlocks_4 {G : GT} {l : Launch} {D : va_G} {cI cB : ClassId} {a0 a1 a2 a3 a4 a5 a6 a7 a8 a9 : Nat} {bt : Int → Int} {ki : Int → Int} {pl : Int → Int} {va : Int → Int} {wr : Int → Int} {rm : Int} {rs : Int → Int} {rz : Int → Int} (X : Cx G l D cI cB b_Disk_freeBlocks y_Disk_freeBlocks.cls 3 { frames := 0, cells := 0, slots := 0, locals := 0 }) : ∀ (fuel : Nat) (v1 : Int) (v2 : Int) (ow : Int → Int) (o : Int), m_Disk_freeBlocks_4 fuel v1 v2 ow = some o → Rt G (some .int) (some (.int (zi o))) (w_Disk cI cB a0 a1 a2 a3 a4 a5 a6 a7 a8 a9 ow bt ki pl va wr rm rs rz) → Wx G 0 0 4 [(0, .ref a0), (1, .int (zi v1)), (2, .int (zi v2))] [] (w_Disk cI cB a0 a1 a2 a3 a4 a5 a6 a7 a8 a9 ow bt ki pl va wr rm rs rz) := by
  intro fuel
  induction fuel with
  | zero =>
    intro v1 v2 ow o h
    exact absurd h (by simp [m_Disk_freeBlocks_4])
  | succ fuel ih =>
    intro v1 v2 ow o h hR
    rw [m_Disk_freeBlocks_4] at h
    refine x_iload_n (pc := 4) X d_Disk_freeBlocks_4 2 rfl rfl ?_
    refine x_aload_n (pc := 5) X d_Disk_freeBlocks_5 0 rfl rfl ?_
    refine x_get (pc := 6) X d_Disk_freeBlocks_6 0 rfl fl_Disk_9 rfl ?_
    refine x_alen (pc := 9) (M := 64) X d_Disk_freeBlocks_9 1 rfl rfl ?_
    refine x_icmpge (pc := 10) (tgt := 32) X d_Disk_freeBlocks_10 rfl h (fun h => ?_) (fun h => ?_)
    · skip
      refine x_iload_n (pc := 32) X d_Disk_freeBlocks_32 1 rfl rfl ?_
      cases h
      exact x_iret (pc := 33) X hR d_Disk_freeBlocks_33
    · skip
      refine x_aload_n (pc := 13) X d_Disk_freeBlocks_13 0 rfl rfl ?_
      refine x_get (pc := 14) X d_Disk_freeBlocks_14 0 rfl fl_Disk_9 rfl ?_
      refine x_iload_n (pc := 17) X d_Disk_freeBlocks_17 2 rfl rfl ?_
      refine x_iald (pc := 18) X d_Disk_freeBlocks_18 1 rfl (Nat.le_of_ble_eq_true rfl) rfl h (fun h => ?_)
      refine x_iconst (pc := 19) X d_Disk_freeBlocks_19  ?_
      refine x_icmpne (pc := 20) (tgt := 26) X d_Disk_freeBlocks_20 rfl h (fun h => ?_) (fun h => ?_)
      · skip
        refine x_iinc (pc := 26) (ls2 := [(2, .int (zi (v2 + 1))), (0, .ref a0), (1, .int (zi v1))]) X d_Disk_freeBlocks_26 2 (Nat.le_of_ble_eq_true rfl) rfl rfl ?_
        refine x_goto (pc := 29) (tgt := 4) X d_Disk_freeBlocks_29 rfl ?_
        refine x_ls (ls2 := [(0, .ref a0), (1, .int (zi v1)), (2, .int (zi (v2 + 1)))]) [1, 2, 0] rfl ?_
        exact ih v1 (v2 + 1) ow o h hR
      · skip
        refine x_iinc (pc := 23) (ls2 := [(1, .int (zi (v1 + 1))), (0, .ref a0), (2, .int (zi v2))]) X d_Disk_freeBlocks_23 1 (Nat.le_of_ble_eq_true rfl) rfl rfl ?_
        refine x_iinc (pc := 26) (ls2 := [(2, .int (zi (v2 + 1))), (1, .int (zi (v1 + 1))), (0, .ref a0)]) X d_Disk_freeBlocks_26 2 (Nat.le_of_ble_eq_true rfl) rfl rfl ?_
        refine x_goto (pc := 29) (tgt := 4) X d_Disk_freeBlocks_29 rfl ?_
        refine x_ls (ls2 := [(0, .ref a0), (1, .int (zi (v1 + 1))), (2, .int (zi (v2 + 1)))]) [2, 1, 0] rfl ?_
        exact ih (v1 + 1) (v2 + 1) ow o h hR
set_option maxHeartbeats 4000000 in
set_option maxRecDepth 100000 in
theorem c_Disk_freeBlocks (l : Launch) (D : va_G) (cI cB : ClassId) (a0 a1 a2 a3 a4 a5 a6 a7 a8 a9 : Nat) (ow : Int → Int) (bt : Int → Int) (ki : Int → Int) (pl : Int → Int) (va : Int → Int) (wr : Int → Int) (rm : Int) (rs : Int → Int) (rz : Int → Int)  {o : Int} (h : m_Disk_freeBlocks ow = some o) : Ct l D cI cB y_Disk_freeBlocks b_Disk_freeBlocks 3 (some .int) { frames := 0, cells := 0, slots := 0, locals := 0 } [.ref a0] (w_Disk cI cB a0 a1 a2 a3 a4 a5 a6 a7 a8 a9 ow bt ki pl va wr rm rs rz) (w_Disk cI cB a0 a1 a2 a3 a4 a5 a6 a7 a8 a9 ow bt ki pl va wr rm rs rz) (some (.int (zi o))) := by
  refine Ct.start (by decide) (Nat.le_of_ble_eq_true rfl) (fun G X hR => ?_)
  refine x_ls (ls2 := [(0, .ref a0)]) [0] rfl ?_
  unfold m_Disk_freeBlocks at h
  refine x_iconst (pc := 0) X d_Disk_freeBlocks_0  ?_
  refine x_istore_n (pc := 1) (ls2 := [(1, .int (zi 0)), (0, .ref a0)]) X d_Disk_freeBlocks_1 rfl (Nat.le_of_ble_eq_true rfl) rfl ?_
  refine x_iconst (pc := 2) X d_Disk_freeBlocks_2  ?_
  refine x_istore_n (pc := 3) (ls2 := [(2, .int (zi 0)), (1, .int (zi 0)), (0, .ref a0)]) X d_Disk_freeBlocks_3 rfl (Nat.le_of_ble_eq_true rfl) rfl ?_
  refine x_ls (ls2 := [(0, .ref a0), (1, .int (zi 0)), (2, .int (zi 0))]) [2, 1, 0] rfl ?_
  exact l_Disk_freeBlocks_4 X 5000 0 0 ow o h hR
theorem d_Disk_promisedInAll_0 : decode b_Disk_promisedInAll 0 = .ok (.iconst 0, 1) := by decide +kernel
theorem d_Disk_promisedInAll_1 : decode b_Disk_promisedInAll 1 = .ok (.istore_n 1, 1) := by decide +kernel
theorem d_Disk_promisedInAll_2 : decode b_Disk_promisedInAll 2 = .ok (.iconst 0, 1) := by decide +kernel
theorem d_Disk_promisedInAll_3 : decode b_Disk_promisedInAll 3 = .ok (.istore_n 2, 1) := by decide +kernel
theorem d_Disk_promisedInAll_4 : decode b_Disk_promisedInAll 4 = .ok (.iload_n 2, 1) := by decide +kernel
theorem d_Disk_promisedInAll_5 : decode b_Disk_promisedInAll 5 = .ok (.aload_n 0, 1) := by decide +kernel
theorem d_Disk_promisedInAll_6 : decode b_Disk_promisedInAll 6 = .ok (.getfield 21, 3) := by decide +kernel
theorem d_Disk_promisedInAll_9 : decode b_Disk_promisedInAll 9 = .ok (.arraylength, 1) := by decide +kernel
theorem d_Disk_promisedInAll_10 : decode b_Disk_promisedInAll 10 = .ok (.if_icmp .ge 39, 3) := by decide +kernel
theorem d_Disk_promisedInAll_13 : decode b_Disk_promisedInAll 13 = .ok (.iload_n 2, 1) := by decide +kernel
theorem d_Disk_promisedInAll_14 : decode b_Disk_promisedInAll 14 = .ok (.aload_n 0, 1) := by decide +kernel
theorem d_Disk_promisedInAll_15 : decode b_Disk_promisedInAll 15 = .ok (.getfield 24, 3) := by decide +kernel
theorem d_Disk_promisedInAll_18 : decode b_Disk_promisedInAll 18 = .ok (.arraylength, 1) := by decide +kernel
theorem d_Disk_promisedInAll_19 : decode b_Disk_promisedInAll 19 = .ok (.if_icmp .ge 30, 3) := by decide +kernel
theorem d_Disk_promisedInAll_22 : decode b_Disk_promisedInAll 22 = .ok (.aload_n 0, 1) := by decide +kernel
theorem d_Disk_promisedInAll_23 : decode b_Disk_promisedInAll 23 = .ok (.getfield 21, 3) := by decide +kernel
theorem d_Disk_promisedInAll_26 : decode b_Disk_promisedInAll 26 = .ok (.iload_n 2, 1) := by decide +kernel
theorem d_Disk_promisedInAll_27 : decode b_Disk_promisedInAll 27 = .ok (.iaload, 1) := by decide +kernel
theorem d_Disk_promisedInAll_28 : decode b_Disk_promisedInAll 28 = .ok (.ifCond .ge 15, 3) := by decide +kernel
theorem d_Disk_promisedInAll_31 : decode b_Disk_promisedInAll 31 = .ok (.aload_n 0, 1) := by decide +kernel
theorem d_Disk_promisedInAll_32 : decode b_Disk_promisedInAll 32 = .ok (.getfield 24, 3) := by decide +kernel
theorem d_Disk_promisedInAll_35 : decode b_Disk_promisedInAll 35 = .ok (.iload_n 2, 1) := by decide +kernel
theorem d_Disk_promisedInAll_36 : decode b_Disk_promisedInAll 36 = .ok (.iaload, 1) := by decide +kernel
theorem d_Disk_promisedInAll_37 : decode b_Disk_promisedInAll 37 = .ok (.ifCond .lt 6, 3) := by decide +kernel
theorem d_Disk_promisedInAll_40 : decode b_Disk_promisedInAll 40 = .ok (.iinc 1 1, 3) := by decide +kernel
theorem d_Disk_promisedInAll_43 : decode b_Disk_promisedInAll 43 = .ok (.iinc 2 1, 3) := by decide +kernel
theorem d_Disk_promisedInAll_46 : decode b_Disk_promisedInAll 46 = .ok (.goto (-42), 3) := by decide +kernel
theorem d_Disk_promisedInAll_49 : decode b_Disk_promisedInAll 49 = .ok (.iload_n 1, 1) := by decide +kernel
theorem d_Disk_promisedInAll_50 : decode b_Disk_promisedInAll 50 = .ok (.ireturn, 1) := by decide +kernel
def m_Disk_promisedInAll_4 : Nat → Int → Int → (Int → Int) → (Int → Int) → Option (Int)
  | 0, _, _, _, _ => none
  | fuel + 1, v1, v2, pl, va =>
  clt v2 96 (clt v2 96 (gd (zx v2 96) (clt (pl v2) 0 (gd (zx v2 96) (clt (va v2) 0 (m_Disk_promisedInAll_4 fuel v1 (v2 + 1) pl va) (m_Disk_promisedInAll_4 fuel (v1 + 1) (v2 + 1) pl va))) (m_Disk_promisedInAll_4 fuel v1 (v2 + 1) pl va))) (some (v1))) (some (v1))
def m_Disk_promisedInAll  (pl : Int → Int) (va : Int → Int) : Option (Int) :=
  m_Disk_promisedInAll_4 5000 0 0 pl va
set_option maxHeartbeats 4000000 in
set_option maxRecDepth 100000 in
theorem l_Disk_promisedInAll_4 {G : GT} {l : Launch} {D : va_G} {cI cB : ClassId} {a0 a1 a2 a3 a4 a5 a6 a7 a8 a9 : Nat} {ow : Int → Int} {bt : Int → Int} {ki : Int → Int} {wr : Int → Int} {rm : Int} {rs : Int → Int} {rz : Int → Int} (X : Cx G l D cI cB b_Disk_promisedInAll y_Disk_promisedInAll.cls 3 { frames := 0, cells := 0, slots := 0, locals := 0 }) : ∀ (fuel : Nat) (v1 : Int) (v2 : Int) (pl : Int → Int) (va : Int → Int) (o : Int), m_Disk_promisedInAll_4 fuel v1 v2 pl va = some o → Rt G (some .int) (some (.int (zi o))) (w_Disk cI cB a0 a1 a2 a3 a4 a5 a6 a7 a8 a9 ow bt ki pl va wr rm rs rz) → Wx G 0 0 4 [(0, .ref a0), (1, .int (zi v1)), (2, .int (zi v2))] [] (w_Disk cI cB a0 a1 a2 a3 a4 a5 a6 a7 a8 a9 ow bt ki pl va wr rm rs rz) := by
  intro fuel
  induction fuel with
  | zero =>
    intro v1 v2 pl va o h
    exact absurd h (by simp [m_Disk_promisedInAll_4])
  | succ fuel ih =>
    intro v1 v2 pl va o h hR
    rw [m_Disk_promisedInAll_4] at h
    refine x_iload_n (pc := 4) X d_Disk_promisedInAll_4 2 rfl rfl ?_
    refine x_aload_n (pc := 5) X d_Disk_promisedInAll_5 0 rfl rfl ?_
    refine x_get (pc := 6) X d_Disk_promisedInAll_6 0 rfl fl_Disk_21 rfl ?_
    refine x_alen (pc := 9) (M := 96) X d_Disk_promisedInAll_9 4 rfl rfl ?_
    refine x_icmpge (pc := 10) (tgt := 49) X d_Disk_promisedInAll_10 rfl h (fun h => ?_) (fun h => ?_)
    · skip
      refine x_iload_n (pc := 49) X d_Disk_promisedInAll_49 1 rfl rfl ?_
      cases h
      exact x_iret (pc := 50) X hR d_Disk_promisedInAll_50
    · skip
      refine x_iload_n (pc := 13) X d_Disk_promisedInAll_13 2 rfl rfl ?_
      refine x_aload_n (pc := 14) X d_Disk_promisedInAll_14 0 rfl rfl ?_
      refine x_get (pc := 15) X d_Disk_promisedInAll_15 0 rfl fl_Disk_24 rfl ?_
      refine x_alen (pc := 18) (M := 96) X d_Disk_promisedInAll_18 5 rfl rfl ?_
      refine x_icmpge (pc := 19) (tgt := 49) X d_Disk_promisedInAll_19 rfl h (fun h => ?_) (fun h => ?_)
      · skip
        refine x_iload_n (pc := 49) X d_Disk_promisedInAll_49 1 rfl rfl ?_
        cases h
        exact x_iret (pc := 50) X hR d_Disk_promisedInAll_50
      · skip
        refine x_aload_n (pc := 22) X d_Disk_promisedInAll_22 0 rfl rfl ?_
        refine x_get (pc := 23) X d_Disk_promisedInAll_23 0 rfl fl_Disk_21 rfl ?_
        refine x_iload_n (pc := 26) X d_Disk_promisedInAll_26 2 rfl rfl ?_
        refine x_iald (pc := 27) X d_Disk_promisedInAll_27 4 rfl (Nat.le_of_ble_eq_true rfl) rfl h (fun h => ?_)
        refine x_ifge (pc := 28) (tgt := 43) X d_Disk_promisedInAll_28 rfl h (fun h => ?_) (fun h => ?_)
        · skip
          refine x_iinc (pc := 43) (ls2 := [(2, .int (zi (v2 + 1))), (0, .ref a0), (1, .int (zi v1))]) X d_Disk_promisedInAll_43 2 (Nat.le_of_ble_eq_true rfl) rfl rfl ?_
          refine x_goto (pc := 46) (tgt := 4) X d_Disk_promisedInAll_46 rfl ?_
          refine x_ls (ls2 := [(0, .ref a0), (1, .int (zi v1)), (2, .int (zi (v2 + 1)))]) [1, 2, 0] rfl ?_
          exact ih v1 (v2 + 1) pl va o h hR
        · skip
          refine x_aload_n (pc := 31) X d_Disk_promisedInAll_31 0 rfl rfl ?_
          refine x_get (pc := 32) X d_Disk_promisedInAll_32 0 rfl fl_Disk_24 rfl ?_
          refine x_iload_n (pc := 35) X d_Disk_promisedInAll_35 2 rfl rfl ?_
          refine x_iald (pc := 36) X d_Disk_promisedInAll_36 5 rfl (Nat.le_of_ble_eq_true rfl) rfl h (fun h => ?_)
          refine x_iflt (pc := 37) (tgt := 43) X d_Disk_promisedInAll_37 rfl h (fun h => ?_) (fun h => ?_)
          · skip
            refine x_iinc (pc := 43) (ls2 := [(2, .int (zi (v2 + 1))), (0, .ref a0), (1, .int (zi v1))]) X d_Disk_promisedInAll_43 2 (Nat.le_of_ble_eq_true rfl) rfl rfl ?_
            refine x_goto (pc := 46) (tgt := 4) X d_Disk_promisedInAll_46 rfl ?_
            refine x_ls (ls2 := [(0, .ref a0), (1, .int (zi v1)), (2, .int (zi (v2 + 1)))]) [1, 2, 0] rfl ?_
            exact ih v1 (v2 + 1) pl va o h hR
          · skip
            refine x_iinc (pc := 40) (ls2 := [(1, .int (zi (v1 + 1))), (0, .ref a0), (2, .int (zi v2))]) X d_Disk_promisedInAll_40 1 (Nat.le_of_ble_eq_true rfl) rfl rfl ?_
            refine x_iinc (pc := 43) (ls2 := [(2, .int (zi (v2 + 1))), (1, .int (zi (v1 + 1))), (0, .ref a0)]) X d_Disk_promisedInAll_43 2 (Nat.le_of_ble_eq_true rfl) rfl rfl ?_
            refine x_goto (pc := 46) (tgt := 4) X d_Disk_promisedInAll_46 rfl ?_
            refine x_ls (ls2 := [(0, .ref a0), (1, .int (zi (v1 + 1))), (2, .int (zi (v2 + 1)))]) [2, 1, 0] rfl ?_
            exact ih (v1 + 1) (v2 + 1) pl va o h hR
set_option maxHeartbeats 4000000 in
set_option maxRecDepth 100000 in
theorem c_Disk_promisedInAll (l : Launch) (D : va_G) (cI cB : ClassId) (a0 a1 a2 a3 a4 a5 a6 a7 a8 a9 : Nat) (ow : Int → Int) (bt : Int → Int) (ki : Int → Int) (pl : Int → Int) (va : Int → Int) (wr : Int → Int) (rm : Int) (rs : Int → Int) (rz : Int → Int)  {o : Int} (h : m_Disk_promisedInAll pl va = some o) : Ct l D cI cB y_Disk_promisedInAll b_Disk_promisedInAll 3 (some .int) { frames := 0, cells := 0, slots := 0, locals := 0 } [.ref a0] (w_Disk cI cB a0 a1 a2 a3 a4 a5 a6 a7 a8 a9 ow bt ki pl va wr rm rs rz) (w_Disk cI cB a0 a1 a2 a3 a4 a5 a6 a7 a8 a9 ow bt ki pl va wr rm rs rz) (some (.int (zi o))) := by
  refine Ct.start (by decide) (Nat.le_of_ble_eq_true rfl) (fun G X hR => ?_)
  refine x_ls (ls2 := [(0, .ref a0)]) [0] rfl ?_
  unfold m_Disk_promisedInAll at h
  refine x_iconst (pc := 0) X d_Disk_promisedInAll_0  ?_
  refine x_istore_n (pc := 1) (ls2 := [(1, .int (zi 0)), (0, .ref a0)]) X d_Disk_promisedInAll_1 rfl (Nat.le_of_ble_eq_true rfl) rfl ?_
  refine x_iconst (pc := 2) X d_Disk_promisedInAll_2  ?_
  refine x_istore_n (pc := 3) (ls2 := [(2, .int (zi 0)), (1, .int (zi 0)), (0, .ref a0)]) X d_Disk_promisedInAll_3 rfl (Nat.le_of_ble_eq_true rfl) rfl ?_
  refine x_ls (ls2 := [(0, .ref a0), (1, .int (zi 0)), (2, .int (zi 0))]) [2, 1, 0] rfl ?_
  exact l_Disk_promisedInAll_4 X 5000 0 0 pl va o h hR
theorem d_Disk_roomLeft_0 : decode b_Disk_roomLeft 0 = .ok (.iconst 0, 1) := by decide +kernel
theorem d_Disk_roomLeft_1 : decode b_Disk_roomLeft 1 = .ok (.aload_n 0, 1) := by decide +kernel
theorem d_Disk_roomLeft_2 : decode b_Disk_roomLeft 2 = .ok (.invokevirtual 73, 3) := by decide +kernel
theorem d_Disk_roomLeft_5 : decode b_Disk_roomLeft 5 = .ok (.aload_n 0, 1) := by decide +kernel
theorem d_Disk_roomLeft_6 : decode b_Disk_roomLeft 6 = .ok (.invokevirtual 82, 3) := by decide +kernel
theorem d_Disk_roomLeft_9 : decode b_Disk_roomLeft 9 = .ok (.isub, 1) := by decide +kernel
theorem d_Disk_roomLeft_10 : decode b_Disk_roomLeft 10 = .ok (.invokestatic 85, 3) := by decide +kernel
theorem d_Disk_roomLeft_13 : decode b_Disk_roomLeft 13 = .ok (.ireturn, 1) := by decide +kernel
def m_Disk_roomLeft  (ow : Int → Int) (pl : Int → Int) (va : Int → Int) : Option (Int) :=
  bnd (m_Disk_freeBlocks ow) (fun r1 => bnd (m_Disk_promisedInAll pl va) (fun r3 => gd (zr 0 ∧ zr (r1 - r3)) (some ((max 0 (r1 - r3))))))
set_option maxHeartbeats 4000000 in
set_option maxRecDepth 100000 in
theorem c_Disk_roomLeft (l : Launch) (D : va_G) (cI cB : ClassId) (a0 a1 a2 a3 a4 a5 a6 a7 a8 a9 : Nat) (ow : Int → Int) (bt : Int → Int) (ki : Int → Int) (pl : Int → Int) (va : Int → Int) (wr : Int → Int) (rm : Int) (rs : Int → Int) (rz : Int → Int)  {o : Int} (h : m_Disk_roomLeft ow pl va = some o) : Ct l D cI cB y_Disk_roomLeft b_Disk_roomLeft 1 (some .int) { frames := 1, cells := 0, slots := 0, locals := 22 } [.ref a0] (w_Disk cI cB a0 a1 a2 a3 a4 a5 a6 a7 a8 a9 ow bt ki pl va wr rm rs rz) (w_Disk cI cB a0 a1 a2 a3 a4 a5 a6 a7 a8 a9 ow bt ki pl va wr rm rs rz) (some (.int (zi o))) := by
  refine Ct.start (by decide) (Nat.le_of_ble_eq_true rfl) (fun G X hR => ?_)
  refine x_ls (ls2 := [(0, .ref a0)]) [0] rfl ?_
  unfold m_Disk_roomLeft at h
  refine x_iconst (pc := 0) X d_Disk_roomLeft_0  ?_
  refine x_aload_n (pc := 1) X d_Disk_roomLeft_1 0 rfl rfl ?_
  obtain ⟨r1, h2, h⟩ := bnd_e h
  refine x_callV (pc := 2) (As := []) (rest := [.int (zi 0)]) (w2 := (w_Disk cI cB a0 a1 a2 a3 a4 a5 a6 a7 a8 a9 ow bt ki pl va wr rm rs rz)) X d_Disk_roomLeft_2 lk_Disk_73 mv_Disk_freeBlocks (c_Disk_freeBlocks l D cI cB a0 a1 a2 a3 a4 a5 a6 a7 a8 a9 ow bt ki pl va wr rm rs rz h2) ⟨(Nat.le_of_ble_eq_true rfl), (Nat.le_of_ble_eq_true rfl), (Nat.le_of_ble_eq_true rfl), (Nat.le_of_ble_eq_true rfl)⟩ 0 rfl rfl [0, 1, 2, 3, 4, 5, 6, 7, 8, 9] rfl rfl rfl (Up.same rfl) rfl rfl (Nat.le_of_ble_eq_true rfl) ?_
  refine x_aload_n (pc := 5) X d_Disk_roomLeft_5 0 rfl rfl ?_
  obtain ⟨r3, h4, h⟩ := bnd_e h
  refine x_callV (pc := 6) (As := []) (rest := [.int (zi r1), .int (zi 0)]) (w2 := (w_Disk cI cB a0 a1 a2 a3 a4 a5 a6 a7 a8 a9 ow bt ki pl va wr rm rs rz)) X d_Disk_roomLeft_6 lk_Disk_82 mv_Disk_promisedInAll (c_Disk_promisedInAll l D cI cB a0 a1 a2 a3 a4 a5 a6 a7 a8 a9 ow bt ki pl va wr rm rs rz h4) ⟨(Nat.le_of_ble_eq_true rfl), (Nat.le_of_ble_eq_true rfl), (Nat.le_of_ble_eq_true rfl), (Nat.le_of_ble_eq_true rfl)⟩ 0 rfl rfl [0, 1, 2, 3, 4, 5, 6, 7, 8, 9] rfl rfl rfl (Up.same rfl) rfl rfl (Nat.le_of_ble_eq_true rfl) ?_
  refine x_isub (pc := 9) X d_Disk_roomLeft_9  ?_
  refine x_mmax (pc := 10) X d_Disk_roomLeft_10 (tm_1 _ (List.mem_of_getElem? (i := 231) rfl)) mm_max ⟨(Nat.le_of_ble_eq_true rfl), (Nat.le_of_ble_eq_true rfl), (Nat.le_of_ble_eq_true rfl), (Nat.le_of_ble_eq_true rfl)⟩ h (fun h => ?_)
  cases h
  exact x_iret (pc := 13) X hR d_Disk_roomLeft_13
theorem d_Disk_sayAt_0 : decode b_Disk_sayAt 0 = .ok (.iload_n 1, 1) := by decide +kernel
theorem d_Disk_sayAt_1 : decode b_Disk_sayAt 1 = .ok (.invokestatic 99, 3) := by decide +kernel
theorem d_Disk_sayAt_4 : decode b_Disk_sayAt 4 = .ok (.ifCond .eq 27, 3) := by decide +kernel
theorem d_Disk_sayAt_7 : decode b_Disk_sayAt 7 = .ok (.iload_n 2, 1) := by decide +kernel
theorem d_Disk_sayAt_8 : decode b_Disk_sayAt 8 = .ok (.invokestatic 103, 3) := by decide +kernel
theorem d_Disk_sayAt_11 : decode b_Disk_sayAt 11 = .ok (.ifCond .eq 20, 3) := by decide +kernel
theorem d_Disk_sayAt_14 : decode b_Disk_sayAt 14 = .ok (.aload_n 0, 1) := by decide +kernel
theorem d_Disk_sayAt_15 : decode b_Disk_sayAt 15 = .ok (.iload_n 1, 1) := by decide +kernel
theorem d_Disk_sayAt_16 : decode b_Disk_sayAt 16 = .ok (.iload_n 2, 1) := by decide +kernel
theorem d_Disk_sayAt_17 : decode b_Disk_sayAt 17 = .ok (.invokevirtual 96, 3) := by decide +kernel
theorem d_Disk_sayAt_20 : decode b_Disk_sayAt 20 = .ok (.ifCond .eq 13, 3) := by decide +kernel
theorem d_Disk_sayAt_23 : decode b_Disk_sayAt 23 = .ok (.aload_n 0, 1) := by decide +kernel
theorem d_Disk_sayAt_24 : decode b_Disk_sayAt 24 = .ok (.invokevirtual 106, 3) := by decide +kernel
theorem d_Disk_sayAt_27 : decode b_Disk_sayAt 27 = .ok (.iconst 1, 1) := by decide +kernel
theorem d_Disk_sayAt_28 : decode b_Disk_sayAt 28 = .ok (.if_icmp .ge 5, 3) := by decide +kernel
theorem d_Disk_sayAt_31 : decode b_Disk_sayAt 31 = .ok (.iconst 0, 1) := by decide +kernel
theorem d_Disk_sayAt_32 : decode b_Disk_sayAt 32 = .ok (.ireturn, 1) := by decide +kernel
theorem d_Disk_sayAt_33 : decode b_Disk_sayAt 33 = .ok (.aload_n 0, 1) := by decide +kernel
theorem d_Disk_sayAt_34 : decode b_Disk_sayAt 34 = .ok (.getfield 24, 3) := by decide +kernel
theorem d_Disk_sayAt_37 : decode b_Disk_sayAt 37 = .ok (.iload_n 1, 1) := by decide +kernel
theorem d_Disk_sayAt_38 : decode b_Disk_sayAt 38 = .ok (.bipush 24, 2) := by decide +kernel
theorem d_Disk_sayAt_40 : decode b_Disk_sayAt 40 = .ok (.imul, 1) := by decide +kernel
theorem d_Disk_sayAt_41 : decode b_Disk_sayAt 41 = .ok (.iload_n 2, 1) := by decide +kernel
theorem d_Disk_sayAt_42 : decode b_Disk_sayAt 42 = .ok (.iadd, 1) := by decide +kernel
theorem d_Disk_sayAt_43 : decode b_Disk_sayAt 43 = .ok (.iload_n 3, 1) := by decide +kernel
theorem d_Disk_sayAt_44 : decode b_Disk_sayAt 44 = .ok (.iastore, 1) := by decide +kernel
theorem d_Disk_sayAt_45 : decode b_Disk_sayAt 45 = .ok (.iconst 1, 1) := by decide +kernel
theorem d_Disk_sayAt_46 : decode b_Disk_sayAt 46 = .ok (.ireturn, 1) := by decide +kernel
def m_Disk_sayAt (x1 : Int) (x2 : Int) (x3 : Int) (ow : Int → Int) (pl : Int → Int) (va : Int → Int) : Option (Int × (Int → Int)) :=
  bnd (m_Vol_isFile x1) (fun r1 => ceq r1 0 (some (0, va)) (bnd (m_Vol_isPage x2) (fun r3 => ceq r3 0 (some (0, va)) (bnd (m_Disk_isHole x1 x2 pl va) (fun r5 => jn (fun (z8 : Int) (z9 : Int) (z10 : Int) (c11 : Int → Int) => gd (zx ((z8 * 24) + z9) 96) (some (1, (uf c11 ((z8 * 24) + z9) z10)))) (fun j7 => ceq r5 0 (j7 x1 x2 x3 va) (bnd (m_Disk_roomLeft ow pl va) (fun r14 => clt r14 1 (some (0, va)) (j7 x1 x2 x3 va)))))))))
set_option maxHeartbeats 4000000 in
set_option maxRecDepth 100000 in
theorem c_Disk_sayAt (l : Launch) (D : va_G) (cI cB : ClassId) (a0 a1 a2 a3 a4 a5 a6 a7 a8 a9 : Nat) (ow : Int → Int) (bt : Int → Int) (ki : Int → Int) (pl : Int → Int) (va : Int → Int) (wr : Int → Int) (rm : Int) (rs : Int → Int) (rz : Int → Int) (x1 : Int) (x2 : Int) (x3 : Int) {o : Int × (Int → Int)} (h : m_Disk_sayAt x1 x2 x3 ow pl va = some o) : Ct l D cI cB y_Disk_sayAt b_Disk_sayAt 4 (some .boolean) { frames := 2, cells := 0, slots := 0, locals := 45 } [.ref a0, .int (zi x1), .int (zi x2), .int (zi x3)] (w_Disk cI cB a0 a1 a2 a3 a4 a5 a6 a7 a8 a9 ow bt ki pl va wr rm rs rz) (w_Disk cI cB a0 a1 a2 a3 a4 a5 a6 a7 a8 a9 ow bt ki pl o.2 wr rm rs rz) (some (.int (zi o.1))) := by
  refine Ct.start (by decide) (Nat.le_of_ble_eq_true rfl) (fun G X hR => ?_)
  refine x_ls (ls2 := [(0, .ref a0), (1, .int (zi x1)), (2, .int (zi x2)), (3, .int (zi x3))]) [0, 1, 2, 3] rfl ?_
  unfold m_Disk_sayAt at h
  refine x_iload_n (pc := 0) X d_Disk_sayAt_0 1 rfl rfl ?_
  obtain ⟨r1, h2, h⟩ := bnd_e h
  refine x_callS (pc := 1) (As := [.int (zi x1)]) (rest := []) (w2 := (w_Disk cI cB a0 a1 a2 a3 a4 a5 a6 a7 a8 a9 ow bt ki pl va wr rm rs rz)) X d_Disk_sayAt_1 lk_Disk_99 mv_Vol_isFile (c_Vol_isFile l D cI cB x1 h2) ⟨(Nat.le_of_ble_eq_true rfl), (Nat.le_of_ble_eq_true rfl), (Nat.le_of_ble_eq_true rfl), (Nat.le_of_ble_eq_true rfl)⟩ [] rfl rfl rfl (Up.same rfl) rfl rfl (Nat.le_of_ble_eq_true rfl) ?_
  refine x_ifeq (pc := 4) (tgt := 31) X d_Disk_sayAt_4 rfl h (fun h => ?_) (fun h => ?_)
  · skip
    refine x_iconst (pc := 31) X d_Disk_sayAt_31  ?_
    cases h
    exact x_zret (pc := 32) X hR d_Disk_sayAt_32 (Or.inl rfl)
  · skip
    refine x_iload_n (pc := 7) X d_Disk_sayAt_7 2 rfl rfl ?_
    obtain ⟨r3, h4, h⟩ := bnd_e h
    refine x_callS (pc := 8) (As := [.int (zi x2)]) (rest := []) (w2 := (w_Disk cI cB a0 a1 a2 a3 a4 a5 a6 a7 a8 a9 ow bt ki pl va wr rm rs rz)) X d_Disk_sayAt_8 lk_Disk_103 mv_Vol_isPage (c_Vol_isPage l D cI cB x2 h4) ⟨(Nat.le_of_ble_eq_true rfl), (Nat.le_of_ble_eq_true rfl), (Nat.le_of_ble_eq_true rfl), (Nat.le_of_ble_eq_true rfl)⟩ [] rfl rfl rfl (Up.same rfl) rfl rfl (Nat.le_of_ble_eq_true rfl) ?_
    refine x_ifeq (pc := 11) (tgt := 31) X d_Disk_sayAt_11 rfl h (fun h => ?_) (fun h => ?_)
    · skip
      refine x_iconst (pc := 31) X d_Disk_sayAt_31  ?_
      cases h
      exact x_zret (pc := 32) X hR d_Disk_sayAt_32 (Or.inl rfl)
    · skip
      refine x_aload_n (pc := 14) X d_Disk_sayAt_14 0 rfl rfl ?_
      refine x_iload_n (pc := 15) X d_Disk_sayAt_15 1 rfl rfl ?_
      refine x_iload_n (pc := 16) X d_Disk_sayAt_16 2 rfl rfl ?_
      obtain ⟨r5, h6, h⟩ := bnd_e h
      refine x_callV (pc := 17) (As := [.int (zi x1), .int (zi x2)]) (rest := []) (w2 := (w_Disk cI cB a0 a1 a2 a3 a4 a5 a6 a7 a8 a9 ow bt ki pl va wr rm rs rz)) X d_Disk_sayAt_17 lk_Disk_96 mv_Disk_isHole (c_Disk_isHole l D cI cB a0 a1 a2 a3 a4 a5 a6 a7 a8 a9 ow bt ki pl va wr rm rs rz x1 x2 h6) ⟨(Nat.le_of_ble_eq_true rfl), (Nat.le_of_ble_eq_true rfl), (Nat.le_of_ble_eq_true rfl), (Nat.le_of_ble_eq_true rfl)⟩ 0 rfl rfl [0, 1, 2, 3, 4, 5, 6, 7, 8, 9] rfl rfl rfl (Up.same rfl) rfl rfl (Nat.le_of_ble_eq_true rfl) ?_
      obtain ⟨j7, hj12, h⟩ := jn_e h
      have J13 : ∀ (z8 : Int) (z9 : Int) (z10 : Int) (c11 : Int → Int), j7 z8 z9 z10 c11 = some o → Wx G 0 0 33 [(0, .ref a0), (1, .int (zi z8)), (2, .int (zi z9)), (3, .int (zi z10))] [] (w_Disk cI cB a0 a1 a2 a3 a4 a5 a6 a7 a8 a9 ow bt ki pl c11 wr rm rs rz) := by
        intro z8 z9 z10 c11 h
        rw [hj12] at h
        (try dsimp only at h)
        refine x_aload_n (pc := 33) X d_Disk_sayAt_33 0 rfl rfl ?_
        refine x_get (pc := 34) X d_Disk_sayAt_34 0 rfl fl_Disk_24 rfl ?_
        refine x_iload_n (pc := 37) X d_Disk_sayAt_37 1 rfl rfl ?_
        refine x_bipush (pc := 38) (v := 24) X d_Disk_sayAt_38 rfl ?_
        refine x_imul (pc := 40) X d_Disk_sayAt_40  ?_
        refine x_iload_n (pc := 41) X d_Disk_sayAt_41 2 rfl rfl ?_
        refine x_iadd (pc := 42) X d_Disk_sayAt_42  ?_
        refine x_iload_n (pc := 43) X d_Disk_sayAt_43 3 rfl rfl ?_
        refine x_iast (pc := 44) (w2 := (w_Disk cI cB a0 a1 a2 a3 a4 a5 a6 a7 a8 a9 ow bt ki pl (uf c11 ((z8 * 24) + z9) z10) wr rm rs rz)) X d_Disk_sayAt_44 5 rfl (Nat.le_of_ble_eq_true rfl) rfl rfl h (fun h => ?_)
        refine x_iconst (pc := 45) X d_Disk_sayAt_45  ?_
        cases h
        exact x_zret (pc := 46) X hR d_Disk_sayAt_46 (Or.inr rfl)
      clear hj12
      refine x_ifeq (pc := 20) (tgt := 33) X d_Disk_sayAt_20 rfl h (fun h => ?_) (fun h => ?_)
      · skip
        exact J13 x1 x2 x3 va h
      · skip
        refine x_aload_n (pc := 23) X d_Disk_sayAt_23 0 rfl rfl ?_
        obtain ⟨r14, h15, h⟩ := bnd_e h
        refine x_callV (pc := 24) (As := []) (rest := []) (w2 := (w_Disk cI cB a0 a1 a2 a3 a4 a5 a6 a7 a8 a9 ow bt ki pl va wr rm rs rz)) X d_Disk_sayAt_24 lk_Disk_106 mv_Disk_roomLeft (c_Disk_roomLeft l D cI cB a0 a1 a2 a3 a4 a5 a6 a7 a8 a9 ow bt ki pl va wr rm rs rz h15) ⟨(Nat.le_of_ble_eq_true rfl), (Nat.le_of_ble_eq_true rfl), (Nat.le_of_ble_eq_true rfl), (Nat.le_of_ble_eq_true rfl)⟩ 0 rfl rfl [0, 1, 2, 3, 4, 5, 6, 7, 8, 9] rfl rfl rfl (Up.same rfl) rfl rfl (Nat.le_of_ble_eq_true rfl) ?_
        refine x_iconst (pc := 27) X d_Disk_sayAt_27  ?_
        refine x_icmpge (pc := 28) (tgt := 33) X d_Disk_sayAt_28 rfl h (fun h => ?_) (fun h => ?_)
        · skip
          exact J13 x1 x2 x3 va h
        · skip
          refine x_iconst (pc := 31) X d_Disk_sayAt_31  ?_
          cases h
          exact x_zret (pc := 32) X hR d_Disk_sayAt_32 (Or.inl rfl)
theorem d_Disk_placedIn_0 : decode b_Disk_placedIn 0 = .ok (.iconst 0, 1) := by decide +kernel
theorem d_Disk_placedIn_1 : decode b_Disk_placedIn 1 = .ok (.istore_n 2, 1) := by decide +kernel
theorem d_Disk_placedIn_2 : decode b_Disk_placedIn 2 = .ok (.iconst 0, 1) := by decide +kernel
theorem d_Disk_placedIn_3 : decode b_Disk_placedIn 3 = .ok (.istore_n 3, 1) := by decide +kernel
theorem d_Disk_placedIn_4 : decode b_Disk_placedIn 4 = .ok (.iload_n 3, 1) := by decide +kernel
theorem d_Disk_placedIn_5 : decode b_Disk_placedIn 5 = .ok (.bipush 24, 2) := by decide +kernel
theorem d_Disk_placedIn_7 : decode b_Disk_placedIn 7 = .ok (.if_icmp .ge 21, 3) := by decide +kernel
theorem d_Disk_placedIn_10 : decode b_Disk_placedIn 10 = .ok (.aload_n 0, 1) := by decide +kernel
theorem d_Disk_placedIn_11 : decode b_Disk_placedIn 11 = .ok (.iload_n 1, 1) := by decide +kernel
theorem d_Disk_placedIn_12 : decode b_Disk_placedIn 12 = .ok (.iload_n 3, 1) := by decide +kernel
theorem d_Disk_placedIn_13 : decode b_Disk_placedIn 13 = .ok (.invokevirtual 56, 3) := by decide +kernel
theorem d_Disk_placedIn_16 : decode b_Disk_placedIn 16 = .ok (.ifCond .lt 6, 3) := by decide +kernel
theorem d_Disk_placedIn_19 : decode b_Disk_placedIn 19 = .ok (.iinc 2 1, 3) := by decide +kernel
theorem d_Disk_placedIn_22 : decode b_Disk_placedIn 22 = .ok (.iinc 3 1, 3) := by decide +kernel
theorem d_Disk_placedIn_25 : decode b_Disk_placedIn 25 = .ok (.goto (-21), 3) := by decide +kernel
theorem d_Disk_placedIn_28 : decode b_Disk_placedIn 28 = .ok (.iload_n 2, 1) := by decide +kernel
theorem d_Disk_placedIn_29 : decode b_Disk_placedIn 29 = .ok (.ireturn, 1) := by decide +kernel
def m_Disk_placedIn_4 : Nat → Int → Int → Int → (Int → Int) → Option (Int)
  | 0, _, _, _, _ => none
  | fuel + 1, v1, v2, v3, pl =>
  clt v3 24 (bnd (m_Disk_blockAt v1 v3 pl) (fun r1 => clt r1 0 (m_Disk_placedIn_4 fuel v1 v2 (v3 + 1) pl) (m_Disk_placedIn_4 fuel v1 (v2 + 1) (v3 + 1) pl))) (some (v2))
def m_Disk_placedIn (x1 : Int) (pl : Int → Int) : Option (Int) :=
  m_Disk_placedIn_4 5000 x1 0 0 pl
set_option maxHeartbeats 4000000 in
set_option maxRecDepth 100000 in
theorem l_Disk_placedIn_4 {G : GT} {l : Launch} {D : va_G} {cI cB : ClassId} {a0 a1 a2 a3 a4 a5 a6 a7 a8 a9 : Nat} {ow : Int → Int} {bt : Int → Int} {ki : Int → Int} {va : Int → Int} {wr : Int → Int} {rm : Int} {rs : Int → Int} {rz : Int → Int} (X : Cx G l D cI cB b_Disk_placedIn y_Disk_placedIn.cls 4 { frames := 1, cells := 0, slots := 0, locals := 23 }) : ∀ (fuel : Nat) (v1 : Int) (v2 : Int) (v3 : Int) (pl : Int → Int) (o : Int), m_Disk_placedIn_4 fuel v1 v2 v3 pl = some o → Rt G (some .int) (some (.int (zi o))) (w_Disk cI cB a0 a1 a2 a3 a4 a5 a6 a7 a8 a9 ow bt ki pl va wr rm rs rz) → Wx G 0 0 4 [(0, .ref a0), (1, .int (zi v1)), (2, .int (zi v2)), (3, .int (zi v3))] [] (w_Disk cI cB a0 a1 a2 a3 a4 a5 a6 a7 a8 a9 ow bt ki pl va wr rm rs rz) := by
  intro fuel
  induction fuel with
  | zero =>
    intro v1 v2 v3 pl o h
    exact absurd h (by simp [m_Disk_placedIn_4])
  | succ fuel ih =>
    intro v1 v2 v3 pl o h hR
    rw [m_Disk_placedIn_4] at h
    refine x_iload_n (pc := 4) X d_Disk_placedIn_4 3 rfl rfl ?_
    refine x_bipush (pc := 5) (v := 24) X d_Disk_placedIn_5 rfl ?_
    refine x_icmpge (pc := 7) (tgt := 28) X d_Disk_placedIn_7 rfl h (fun h => ?_) (fun h => ?_)
    · skip
      refine x_iload_n (pc := 28) X d_Disk_placedIn_28 2 rfl rfl ?_
      cases h
      exact x_iret (pc := 29) X hR d_Disk_placedIn_29
    · skip
      refine x_aload_n (pc := 10) X d_Disk_placedIn_10 0 rfl rfl ?_
      refine x_iload_n (pc := 11) X d_Disk_placedIn_11 1 rfl rfl ?_
      refine x_iload_n (pc := 12) X d_Disk_placedIn_12 3 rfl rfl ?_
      obtain ⟨r1, h2, h⟩ := bnd_e h
      refine x_callV (pc := 13) (As := [.int (zi v1), .int (zi v3)]) (rest := []) (w2 := (w_Disk cI cB a0 a1 a2 a3 a4 a5 a6 a7 a8 a9 ow bt ki pl va wr rm rs rz)) X d_Disk_placedIn_13 lk_Disk_56 mv_Disk_blockAt (c_Disk_blockAt l D cI cB a0 a1 a2 a3 a4 a5 a6 a7 a8 a9 ow bt ki pl va wr rm rs rz v1 v3 h2) ⟨(Nat.le_of_ble_eq_true rfl), (Nat.le_of_ble_eq_true rfl), (Nat.le_of_ble_eq_true rfl), (Nat.le_of_ble_eq_true rfl)⟩ 0 rfl rfl [0, 1, 2, 3, 4, 5, 6, 7, 8, 9] rfl rfl rfl (Up.same rfl) rfl rfl (Nat.le_of_ble_eq_true rfl) ?_
      refine x_iflt (pc := 16) (tgt := 22) X d_Disk_placedIn_16 rfl h (fun h => ?_) (fun h => ?_)
      · skip
        refine x_iinc (pc := 22) (ls2 := [(3, .int (zi (v3 + 1))), (0, .ref a0), (1, .int (zi v1)), (2, .int (zi v2))]) X d_Disk_placedIn_22 3 (Nat.le_of_ble_eq_true rfl) rfl rfl ?_
        refine x_goto (pc := 25) (tgt := 4) X d_Disk_placedIn_25 rfl ?_
        refine x_ls (ls2 := [(0, .ref a0), (1, .int (zi v1)), (2, .int (zi v2)), (3, .int (zi (v3 + 1)))]) [1, 2, 3, 0] rfl ?_
        exact ih v1 v2 (v3 + 1) pl o h hR
      · skip
        refine x_iinc (pc := 19) (ls2 := [(2, .int (zi (v2 + 1))), (0, .ref a0), (1, .int (zi v1)), (3, .int (zi v3))]) X d_Disk_placedIn_19 2 (Nat.le_of_ble_eq_true rfl) rfl rfl ?_
        refine x_iinc (pc := 22) (ls2 := [(3, .int (zi (v3 + 1))), (2, .int (zi (v2 + 1))), (0, .ref a0), (1, .int (zi v1))]) X d_Disk_placedIn_22 3 (Nat.le_of_ble_eq_true rfl) rfl rfl ?_
        refine x_goto (pc := 25) (tgt := 4) X d_Disk_placedIn_25 rfl ?_
        refine x_ls (ls2 := [(0, .ref a0), (1, .int (zi v1)), (2, .int (zi (v2 + 1))), (3, .int (zi (v3 + 1)))]) [2, 3, 1, 0] rfl ?_
        exact ih v1 (v2 + 1) (v3 + 1) pl o h hR
set_option maxHeartbeats 4000000 in
set_option maxRecDepth 100000 in
theorem c_Disk_placedIn (l : Launch) (D : va_G) (cI cB : ClassId) (a0 a1 a2 a3 a4 a5 a6 a7 a8 a9 : Nat) (ow : Int → Int) (bt : Int → Int) (ki : Int → Int) (pl : Int → Int) (va : Int → Int) (wr : Int → Int) (rm : Int) (rs : Int → Int) (rz : Int → Int) (x1 : Int) {o : Int} (h : m_Disk_placedIn x1 pl = some o) : Ct l D cI cB y_Disk_placedIn b_Disk_placedIn 4 (some .int) { frames := 1, cells := 0, slots := 0, locals := 23 } [.ref a0, .int (zi x1)] (w_Disk cI cB a0 a1 a2 a3 a4 a5 a6 a7 a8 a9 ow bt ki pl va wr rm rs rz) (w_Disk cI cB a0 a1 a2 a3 a4 a5 a6 a7 a8 a9 ow bt ki pl va wr rm rs rz) (some (.int (zi o))) := by
  refine Ct.start (by decide) (Nat.le_of_ble_eq_true rfl) (fun G X hR => ?_)
  refine x_ls (ls2 := [(0, .ref a0), (1, .int (zi x1))]) [0, 1] rfl ?_
  unfold m_Disk_placedIn at h
  refine x_iconst (pc := 0) X d_Disk_placedIn_0  ?_
  refine x_istore_n (pc := 1) (ls2 := [(2, .int (zi 0)), (0, .ref a0), (1, .int (zi x1))]) X d_Disk_placedIn_1 rfl (Nat.le_of_ble_eq_true rfl) rfl ?_
  refine x_iconst (pc := 2) X d_Disk_placedIn_2  ?_
  refine x_istore_n (pc := 3) (ls2 := [(3, .int (zi 0)), (2, .int (zi 0)), (0, .ref a0), (1, .int (zi x1))]) X d_Disk_placedIn_3 rfl (Nat.le_of_ble_eq_true rfl) rfl ?_
  refine x_ls (ls2 := [(0, .ref a0), (1, .int (zi x1)), (2, .int (zi 0)), (3, .int (zi 0))]) [2, 3, 1, 0] rfl ?_
  exact l_Disk_placedIn_4 X 5000 x1 0 0 pl o h hR
theorem d_Disk_place_0 : decode b_Disk_place 0 = .ok (.iload_n 1, 1) := by decide +kernel
theorem d_Disk_place_1 : decode b_Disk_place 1 = .ok (.invokestatic 99, 3) := by decide +kernel
theorem d_Disk_place_4 : decode b_Disk_place 4 = .ok (.ifCond .eq 41, 3) := by decide +kernel
theorem d_Disk_place_7 : decode b_Disk_place 7 = .ok (.iload_n 2, 1) := by decide +kernel
theorem d_Disk_place_8 : decode b_Disk_place 8 = .ok (.invokestatic 103, 3) := by decide +kernel
theorem d_Disk_place_11 : decode b_Disk_place 11 = .ok (.ifCond .eq 34, 3) := by decide +kernel
theorem d_Disk_place_14 : decode b_Disk_place 14 = .ok (.iload_n 3, 1) := by decide +kernel
theorem d_Disk_place_15 : decode b_Disk_place 15 = .ok (.invokestatic 138, 3) := by decide +kernel
theorem d_Disk_place_18 : decode b_Disk_place 18 = .ok (.ifCond .eq 27, 3) := by decide +kernel
theorem d_Disk_place_21 : decode b_Disk_place 21 = .ok (.aload_n 0, 1) := by decide +kernel
theorem d_Disk_place_22 : decode b_Disk_place 22 = .ok (.getfield 21, 3) := by decide +kernel
theorem d_Disk_place_25 : decode b_Disk_place 25 = .ok (.iload_n 1, 1) := by decide +kernel
theorem d_Disk_place_26 : decode b_Disk_place 26 = .ok (.bipush 24, 2) := by decide +kernel
theorem d_Disk_place_28 : decode b_Disk_place 28 = .ok (.imul, 1) := by decide +kernel
theorem d_Disk_place_29 : decode b_Disk_place 29 = .ok (.iload_n 2, 1) := by decide +kernel
theorem d_Disk_place_30 : decode b_Disk_place 30 = .ok (.iadd, 1) := by decide +kernel
theorem d_Disk_place_31 : decode b_Disk_place 31 = .ok (.iload_n 3, 1) := by decide +kernel
theorem d_Disk_place_32 : decode b_Disk_place 32 = .ok (.iastore, 1) := by decide +kernel
theorem d_Disk_place_33 : decode b_Disk_place 33 = .ok (.aload_n 0, 1) := by decide +kernel
theorem d_Disk_place_34 : decode b_Disk_place 34 = .ok (.getfield 9, 3) := by decide +kernel
theorem d_Disk_place_37 : decode b_Disk_place 37 = .ok (.iload_n 3, 1) := by decide +kernel
theorem d_Disk_place_38 : decode b_Disk_place 38 = .ok (.iload_n 1, 1) := by decide +kernel
theorem d_Disk_place_39 : decode b_Disk_place 39 = .ok (.bipush 24, 2) := by decide +kernel
theorem d_Disk_place_41 : decode b_Disk_place 41 = .ok (.imul, 1) := by decide +kernel
theorem d_Disk_place_42 : decode b_Disk_place 42 = .ok (.iload_n 2, 1) := by decide +kernel
theorem d_Disk_place_43 : decode b_Disk_place 43 = .ok (.iadd, 1) := by decide +kernel
theorem d_Disk_place_44 : decode b_Disk_place 44 = .ok (.iastore, 1) := by decide +kernel
theorem d_Disk_place_45 : decode b_Disk_place 45 = .ok (.return_, 1) := by decide +kernel
def m_Disk_place (x1 : Int) (x2 : Int) (x3 : Int) (ow : Int → Int) (pl : Int → Int) : Option ((Int → Int) × (Int → Int)) :=
  bnd (m_Vol_isFile x1) (fun r1 => ceq r1 0 (some (ow, pl)) (bnd (m_Vol_isPage x2) (fun r3 => ceq r3 0 (some (ow, pl)) (bnd (m_Vol_isBlock x3) (fun r5 => ceq r5 0 (some (ow, pl)) (gd (zx ((x1 * 24) + x2) 96) (gd (zx x3 64) (some ((uf ow x3 ((x1 * 24) + x2)), (uf pl ((x1 * 24) + x2) x3))))))))))
set_option maxHeartbeats 4000000 in
set_option maxRecDepth 100000 in
theorem c_Disk_place (l : Launch) (D : va_G) (cI cB : ClassId) (a0 a1 a2 a3 a4 a5 a6 a7 a8 a9 : Nat) (ow : Int → Int) (bt : Int → Int) (ki : Int → Int) (pl : Int → Int) (va : Int → Int) (wr : Int → Int) (rm : Int) (rs : Int → Int) (rz : Int → Int) (x1 : Int) (x2 : Int) (x3 : Int) {o : (Int → Int) × (Int → Int)} (h : m_Disk_place x1 x2 x3 ow pl = some o) : Ct l D cI cB y_Disk_place b_Disk_place 4 none { frames := 1, cells := 0, slots := 0, locals := 20 } [.ref a0, .int (zi x1), .int (zi x2), .int (zi x3)] (w_Disk cI cB a0 a1 a2 a3 a4 a5 a6 a7 a8 a9 ow bt ki pl va wr rm rs rz) (w_Disk cI cB a0 a1 a2 a3 a4 a5 a6 a7 a8 a9 o.1 bt ki o.2 va wr rm rs rz) none := by
  refine Ct.start (by decide) (Nat.le_of_ble_eq_true rfl) (fun G X hR => ?_)
  refine x_ls (ls2 := [(0, .ref a0), (1, .int (zi x1)), (2, .int (zi x2)), (3, .int (zi x3))]) [0, 1, 2, 3] rfl ?_
  unfold m_Disk_place at h
  refine x_iload_n (pc := 0) X d_Disk_place_0 1 rfl rfl ?_
  obtain ⟨r1, h2, h⟩ := bnd_e h
  refine x_callS (pc := 1) (As := [.int (zi x1)]) (rest := []) (w2 := (w_Disk cI cB a0 a1 a2 a3 a4 a5 a6 a7 a8 a9 ow bt ki pl va wr rm rs rz)) X d_Disk_place_1 lk_Disk_99 mv_Vol_isFile (c_Vol_isFile l D cI cB x1 h2) ⟨(Nat.le_of_ble_eq_true rfl), (Nat.le_of_ble_eq_true rfl), (Nat.le_of_ble_eq_true rfl), (Nat.le_of_ble_eq_true rfl)⟩ [] rfl rfl rfl (Up.same rfl) rfl rfl (Nat.le_of_ble_eq_true rfl) ?_
  refine x_ifeq (pc := 4) (tgt := 45) X d_Disk_place_4 rfl h (fun h => ?_) (fun h => ?_)
  · skip
    cases h
    exact x_vret (pc := 45) X hR d_Disk_place_45
  · skip
    refine x_iload_n (pc := 7) X d_Disk_place_7 2 rfl rfl ?_
    obtain ⟨r3, h4, h⟩ := bnd_e h
    refine x_callS (pc := 8) (As := [.int (zi x2)]) (rest := []) (w2 := (w_Disk cI cB a0 a1 a2 a3 a4 a5 a6 a7 a8 a9 ow bt ki pl va wr rm rs rz)) X d_Disk_place_8 lk_Disk_103 mv_Vol_isPage (c_Vol_isPage l D cI cB x2 h4) ⟨(Nat.le_of_ble_eq_true rfl), (Nat.le_of_ble_eq_true rfl), (Nat.le_of_ble_eq_true rfl), (Nat.le_of_ble_eq_true rfl)⟩ [] rfl rfl rfl (Up.same rfl) rfl rfl (Nat.le_of_ble_eq_true rfl) ?_
    refine x_ifeq (pc := 11) (tgt := 45) X d_Disk_place_11 rfl h (fun h => ?_) (fun h => ?_)
    · skip
      cases h
      exact x_vret (pc := 45) X hR d_Disk_place_45
    · skip
      refine x_iload_n (pc := 14) X d_Disk_place_14 3 rfl rfl ?_
      obtain ⟨r5, h6, h⟩ := bnd_e h
      refine x_callS (pc := 15) (As := [.int (zi x3)]) (rest := []) (w2 := (w_Disk cI cB a0 a1 a2 a3 a4 a5 a6 a7 a8 a9 ow bt ki pl va wr rm rs rz)) X d_Disk_place_15 lk_Disk_138 mv_Vol_isBlock (c_Vol_isBlock l D cI cB x3 h6) ⟨(Nat.le_of_ble_eq_true rfl), (Nat.le_of_ble_eq_true rfl), (Nat.le_of_ble_eq_true rfl), (Nat.le_of_ble_eq_true rfl)⟩ [] rfl rfl rfl (Up.same rfl) rfl rfl (Nat.le_of_ble_eq_true rfl) ?_
      refine x_ifeq (pc := 18) (tgt := 45) X d_Disk_place_18 rfl h (fun h => ?_) (fun h => ?_)
      · skip
        cases h
        exact x_vret (pc := 45) X hR d_Disk_place_45
      · skip
        refine x_aload_n (pc := 21) X d_Disk_place_21 0 rfl rfl ?_
        refine x_get (pc := 22) X d_Disk_place_22 0 rfl fl_Disk_21 rfl ?_
        refine x_iload_n (pc := 25) X d_Disk_place_25 1 rfl rfl ?_
        refine x_bipush (pc := 26) (v := 24) X d_Disk_place_26 rfl ?_
        refine x_imul (pc := 28) X d_Disk_place_28  ?_
        refine x_iload_n (pc := 29) X d_Disk_place_29 2 rfl rfl ?_
        refine x_iadd (pc := 30) X d_Disk_place_30  ?_
        refine x_iload_n (pc := 31) X d_Disk_place_31 3 rfl rfl ?_
        refine x_iast (pc := 32) (w2 := (w_Disk cI cB a0 a1 a2 a3 a4 a5 a6 a7 a8 a9 ow bt ki (uf pl ((x1 * 24) + x2) x3) va wr rm rs rz)) X d_Disk_place_32 4 rfl (Nat.le_of_ble_eq_true rfl) rfl rfl h (fun h => ?_)
        refine x_aload_n (pc := 33) X d_Disk_place_33 0 rfl rfl ?_
        refine x_get (pc := 34) X d_Disk_place_34 0 rfl fl_Disk_9 rfl ?_
        refine x_iload_n (pc := 37) X d_Disk_place_37 3 rfl rfl ?_
        refine x_iload_n (pc := 38) X d_Disk_place_38 1 rfl rfl ?_
        refine x_bipush (pc := 39) (v := 24) X d_Disk_place_39 rfl ?_
        refine x_imul (pc := 41) X d_Disk_place_41  ?_
        refine x_iload_n (pc := 42) X d_Disk_place_42 2 rfl rfl ?_
        refine x_iadd (pc := 43) X d_Disk_place_43  ?_
        refine x_iast (pc := 44) (w2 := (w_Disk cI cB a0 a1 a2 a3 a4 a5 a6 a7 a8 a9 (uf ow x3 ((x1 * 24) + x2)) bt ki (uf pl ((x1 * 24) + x2) x3) va wr rm rs rz)) X d_Disk_place_44 1 rfl (Nat.le_of_ble_eq_true rfl) rfl rfl h (fun h => ?_)
        cases h
        exact x_vret (pc := 45) X hR d_Disk_place_45
theorem d_Disk_move_0 : decode b_Disk_move 0 = .ok (.aload_n 0, 1) := by decide +kernel
theorem d_Disk_move_1 : decode b_Disk_move 1 = .ok (.iload_n 1, 1) := by decide +kernel
theorem d_Disk_move_2 : decode b_Disk_move 2 = .ok (.iload_n 2, 1) := by decide +kernel
theorem d_Disk_move_3 : decode b_Disk_move 3 = .ok (.invokevirtual 56, 3) := by decide +kernel
theorem d_Disk_move_6 : decode b_Disk_move 6 = .ok (.istore 4, 2) := by decide +kernel
theorem d_Disk_move_8 : decode b_Disk_move 8 = .ok (.iload 4, 2) := by decide +kernel
theorem d_Disk_move_10 : decode b_Disk_move 10 = .ok (.invokestatic 138, 3) := by decide +kernel
theorem d_Disk_move_13 : decode b_Disk_move 13 = .ok (.ifCond .eq 38, 3) := by decide +kernel
theorem d_Disk_move_16 : decode b_Disk_move 16 = .ok (.iload_n 3, 1) := by decide +kernel
theorem d_Disk_move_17 : decode b_Disk_move 17 = .ok (.invokestatic 138, 3) := by decide +kernel
theorem d_Disk_move_20 : decode b_Disk_move 20 = .ok (.ifCond .eq 31, 3) := by decide +kernel
theorem d_Disk_move_23 : decode b_Disk_move 23 = .ok (.aload_n 0, 1) := by decide +kernel
theorem d_Disk_move_24 : decode b_Disk_move 24 = .ok (.getfield 15, 3) := by decide +kernel
theorem d_Disk_move_27 : decode b_Disk_move 27 = .ok (.iload_n 3, 1) := by decide +kernel
theorem d_Disk_move_28 : decode b_Disk_move 28 = .ok (.aload_n 0, 1) := by decide +kernel
theorem d_Disk_move_29 : decode b_Disk_move 29 = .ok (.getfield 15, 3) := by decide +kernel
theorem d_Disk_move_32 : decode b_Disk_move 32 = .ok (.iload 4, 2) := by decide +kernel
theorem d_Disk_move_34 : decode b_Disk_move 34 = .ok (.iaload, 1) := by decide +kernel
theorem d_Disk_move_35 : decode b_Disk_move 35 = .ok (.iastore, 1) := by decide +kernel
theorem d_Disk_move_36 : decode b_Disk_move 36 = .ok (.aload_n 0, 1) := by decide +kernel
theorem d_Disk_move_37 : decode b_Disk_move 37 = .ok (.getfield 9, 3) := by decide +kernel
theorem d_Disk_move_40 : decode b_Disk_move 40 = .ok (.iload 4, 2) := by decide +kernel
theorem d_Disk_move_42 : decode b_Disk_move 42 = .ok (.iconst (-1), 1) := by decide +kernel
theorem d_Disk_move_43 : decode b_Disk_move 43 = .ok (.iastore, 1) := by decide +kernel
theorem d_Disk_move_44 : decode b_Disk_move 44 = .ok (.aload_n 0, 1) := by decide +kernel
theorem d_Disk_move_45 : decode b_Disk_move 45 = .ok (.iload_n 1, 1) := by decide +kernel
theorem d_Disk_move_46 : decode b_Disk_move 46 = .ok (.iload_n 2, 1) := by decide +kernel
theorem d_Disk_move_47 : decode b_Disk_move 47 = .ok (.iload_n 3, 1) := by decide +kernel
theorem d_Disk_move_48 : decode b_Disk_move 48 = .ok (.invokevirtual 134, 3) := by decide +kernel
theorem d_Disk_move_51 : decode b_Disk_move 51 = .ok (.return_, 1) := by decide +kernel
def m_Disk_move (x1 : Int) (x2 : Int) (x3 : Int) (ow : Int → Int) (bt : Int → Int) (pl : Int → Int) : Option ((Int → Int) × (Int → Int) × (Int → Int)) :=
  bnd (m_Disk_blockAt x1 x2 pl) (fun r1 => bnd (m_Vol_isBlock r1) (fun r3 => ceq r3 0 (some (ow, bt, pl)) (bnd (m_Vol_isBlock x3) (fun r5 => ceq r5 0 (some (ow, bt, pl)) (gd (zx r1 64) (gd (zx x3 64) (gd (zx r1 64) (bnd (m_Disk_place x1 x2 x3 (uf ow r1 (-1)) pl) (fun r7 => some (r7.1, (uf bt x3 (bt r1)), r7.2))))))))))
set_option maxHeartbeats 4000000 in
set_option maxRecDepth 100000 in
theorem c_Disk_move (l : Launch) (D : va_G) (cI cB : ClassId) (a0 a1 a2 a3 a4 a5 a6 a7 a8 a9 : Nat) (ow : Int → Int) (bt : Int → Int) (ki : Int → Int) (pl : Int → Int) (va : Int → Int) (wr : Int → Int) (rm : Int) (rs : Int → Int) (rz : Int → Int) (x1 : Int) (x2 : Int) (x3 : Int) {o : (Int → Int) × (Int → Int) × (Int → Int)} (h : m_Disk_move x1 x2 x3 ow bt pl = some o) : Ct l D cI cB y_Disk_move b_Disk_move 5 none { frames := 2, cells := 0, slots := 0, locals := 43 } [.ref a0, .int (zi x1), .int (zi x2), .int (zi x3)] (w_Disk cI cB a0 a1 a2 a3 a4 a5 a6 a7 a8 a9 ow bt ki pl va wr rm rs rz) (w_Disk cI cB a0 a1 a2 a3 a4 a5 a6 a7 a8 a9 o.1 o.2.1 ki o.2.2 va wr rm rs rz) none := by
  refine Ct.start (by decide) (Nat.le_of_ble_eq_true rfl) (fun G X hR => ?_)
  refine x_ls (ls2 := [(0, .ref a0), (1, .int (zi x1)), (2, .int (zi x2)), (3, .int (zi x3))]) [0, 1, 2, 3] rfl ?_
  unfold m_Disk_move at h
  refine x_aload_n (pc := 0) X d_Disk_move_0 0 rfl rfl ?_
  refine x_iload_n (pc := 1) X d_Disk_move_1 1 rfl rfl ?_
  refine x_iload_n (pc := 2) X d_Disk_move_2 2 rfl rfl ?_
  obtain ⟨r1, h2, h⟩ := bnd_e h
  refine x_callV (pc := 3) (As := [.int (zi x1), .int (zi x2)]) (rest := []) (w2 := (w_Disk cI cB a0 a1 a2 a3 a4 a5 a6 a7 a8 a9 ow bt ki pl va wr rm rs rz)) X d_Disk_move_3 lk_Disk_56 mv_Disk_blockAt (c_Disk_blockAt l D cI cB a0 a1 a2 a3 a4 a5 a6 a7 a8 a9 ow bt ki pl va wr rm rs rz x1 x2 h2) ⟨(Nat.le_of_ble_eq_true rfl), (Nat.le_of_ble_eq_true rfl), (Nat.le_of_ble_eq_true rfl), (Nat.le_of_ble_eq_true rfl)⟩ 0 rfl rfl [0, 1, 2, 3, 4, 5, 6, 7, 8, 9] rfl rfl rfl (Up.same rfl) rfl rfl (Nat.le_of_ble_eq_true rfl) ?_
  refine x_istore (pc := 6) (ls2 := [(4, .int (zi r1)), (0, .ref a0), (1, .int (zi x1)), (2, .int (zi x2)), (3, .int (zi x3))]) X d_Disk_move_6 (Nat.le_of_ble_eq_true rfl) rfl ?_
  refine x_iload (pc := 8) X d_Disk_move_8 0 rfl ?_
  obtain ⟨r3, h4, h⟩ := bnd_e h
  refine x_callS (pc := 10) (As := [.int (zi r1)]) (rest := []) (w2 := (w_Disk cI cB a0 a1 a2 a3 a4 a5 a6 a7 a8 a9 ow bt ki pl va wr rm rs rz)) X d_Disk_move_10 lk_Disk_138 mv_Vol_isBlock (c_Vol_isBlock l D cI cB r1 h4) ⟨(Nat.le_of_ble_eq_true rfl), (Nat.le_of_ble_eq_true rfl), (Nat.le_of_ble_eq_true rfl), (Nat.le_of_ble_eq_true rfl)⟩ [] rfl rfl rfl (Up.same rfl) rfl rfl (Nat.le_of_ble_eq_true rfl) ?_
  refine x_ifeq (pc := 13) (tgt := 51) X d_Disk_move_13 rfl h (fun h => ?_) (fun h => ?_)
  · skip
    cases h
    exact x_vret (pc := 51) X hR d_Disk_move_51
  · skip
    refine x_iload_n (pc := 16) X d_Disk_move_16 4 rfl rfl ?_
    obtain ⟨r5, h6, h⟩ := bnd_e h
    refine x_callS (pc := 17) (As := [.int (zi x3)]) (rest := []) (w2 := (w_Disk cI cB a0 a1 a2 a3 a4 a5 a6 a7 a8 a9 ow bt ki pl va wr rm rs rz)) X d_Disk_move_17 lk_Disk_138 mv_Vol_isBlock (c_Vol_isBlock l D cI cB x3 h6) ⟨(Nat.le_of_ble_eq_true rfl), (Nat.le_of_ble_eq_true rfl), (Nat.le_of_ble_eq_true rfl), (Nat.le_of_ble_eq_true rfl)⟩ [] rfl rfl rfl (Up.same rfl) rfl rfl (Nat.le_of_ble_eq_true rfl) ?_
    refine x_ifeq (pc := 20) (tgt := 51) X d_Disk_move_20 rfl h (fun h => ?_) (fun h => ?_)
    · skip
      cases h
      exact x_vret (pc := 51) X hR d_Disk_move_51
    · skip
      refine x_aload_n (pc := 23) X d_Disk_move_23 1 rfl rfl ?_
      refine x_get (pc := 24) X d_Disk_move_24 0 rfl fl_Disk_15 rfl ?_
      refine x_iload_n (pc := 27) X d_Disk_move_27 4 rfl rfl ?_
      refine x_aload_n (pc := 28) X d_Disk_move_28 1 rfl rfl ?_
      refine x_get (pc := 29) X d_Disk_move_29 0 rfl fl_Disk_15 rfl ?_
      refine x_iload (pc := 32) X d_Disk_move_32 0 rfl ?_
      refine x_iald (pc := 34) X d_Disk_move_34 2 rfl (Nat.le_of_ble_eq_true rfl) rfl h (fun h => ?_)
      refine x_iast (pc := 35) (w2 := (w_Disk cI cB a0 a1 a2 a3 a4 a5 a6 a7 a8 a9 ow (uf bt x3 (bt r1)) ki pl va wr rm rs rz)) X d_Disk_move_35 2 rfl (Nat.le_of_ble_eq_true rfl) rfl rfl h (fun h => ?_)
      refine x_aload_n (pc := 36) X d_Disk_move_36 1 rfl rfl ?_
      refine x_get (pc := 37) X d_Disk_move_37 0 rfl fl_Disk_9 rfl ?_
      refine x_iload (pc := 40) X d_Disk_move_40 0 rfl ?_
      refine x_iconst (pc := 42) X d_Disk_move_42  ?_
      refine x_iast (pc := 43) (w2 := (w_Disk cI cB a0 a1 a2 a3 a4 a5 a6 a7 a8 a9 (uf ow r1 (-1)) (uf bt x3 (bt r1)) ki pl va wr rm rs rz)) X d_Disk_move_43 1 rfl (Nat.le_of_ble_eq_true rfl) rfl rfl h (fun h => ?_)
      refine x_aload_n (pc := 44) X d_Disk_move_44 1 rfl rfl ?_
      refine x_iload_n (pc := 45) X d_Disk_move_45 2 rfl rfl ?_
      refine x_iload_n (pc := 46) X d_Disk_move_46 3 rfl rfl ?_
      refine x_iload_n (pc := 47) X d_Disk_move_47 4 rfl rfl ?_
      obtain ⟨r7, h8, h⟩ := bnd_e h
      refine x_callV (pc := 48) (As := [.int (zi x1), .int (zi x2), .int (zi x3)]) (rest := []) (w2 := (w_Disk cI cB a0 a1 a2 a3 a4 a5 a6 a7 a8 a9 r7.1 (uf bt x3 (bt r1)) ki r7.2 va wr rm rs rz)) X d_Disk_move_48 lk_Disk_134 mv_Disk_place (c_Disk_place l D cI cB a0 a1 a2 a3 a4 a5 a6 a7 a8 a9 (uf ow r1 (-1)) (uf bt x3 (bt r1)) ki pl va wr rm rs rz x1 x2 x3 h8) ⟨(Nat.le_of_ble_eq_true rfl), (Nat.le_of_ble_eq_true rfl), (Nat.le_of_ble_eq_true rfl), (Nat.le_of_ble_eq_true rfl)⟩ 0 rfl rfl [0, 1, 2, 3, 4, 5, 6, 7, 8, 9] rfl rfl rfl (Up.of [] [] rfl rfl rfl 10 rfl (by decide +kernel)) rfl rfl (Nat.le_of_ble_eq_true rfl) ?_
      cases h
      exact x_vret (pc := 51) X hR d_Disk_move_51
theorem d_Disk_settleDown_0 : decode b_Disk_settleDown 0 = .ok (.aload_n 0, 1) := by decide +kernel
theorem d_Disk_settleDown_1 : decode b_Disk_settleDown 1 = .ok (.iload_n 1, 1) := by decide +kernel
theorem d_Disk_settleDown_2 : decode b_Disk_settleDown 2 = .ok (.invokevirtual 150, 3) := by decide +kernel
theorem d_Disk_settleDown_5 : decode b_Disk_settleDown 5 = .ok (.istore_n 2, 1) := by decide +kernel
theorem d_Disk_settleDown_6 : decode b_Disk_settleDown 6 = .ok (.iload_n 2, 1) := by decide +kernel
theorem d_Disk_settleDown_7 : decode b_Disk_settleDown 7 = .ok (.ifCond .ne 5, 3) := by decide +kernel
theorem d_Disk_settleDown_10 : decode b_Disk_settleDown 10 = .ok (.iconst (-1), 1) := by decide +kernel
theorem d_Disk_settleDown_11 : decode b_Disk_settleDown 11 = .ok (.ireturn, 1) := by decide +kernel
theorem d_Disk_settleDown_12 : decode b_Disk_settleDown 12 = .ok (.aload_n 0, 1) := by decide +kernel
theorem d_Disk_settleDown_13 : decode b_Disk_settleDown 13 = .ok (.getfield 34, 3) := by decide +kernel
theorem d_Disk_settleDown_16 : decode b_Disk_settleDown 16 = .ok (.aload_n 0, 1) := by decide +kernel
theorem d_Disk_settleDown_17 : decode b_Disk_settleDown 17 = .ok (.getfield 9, 3) := by decide +kernel
theorem d_Disk_settleDown_20 : decode b_Disk_settleDown 20 = .ok (.invokevirtual 44, 3) := by decide +kernel
theorem d_Disk_settleDown_23 : decode b_Disk_settleDown 23 = .ok (.aload_n 0, 1) := by decide +kernel
theorem d_Disk_settleDown_24 : decode b_Disk_settleDown 24 = .ok (.getfield 34, 3) := by decide +kernel
theorem d_Disk_settleDown_27 : decode b_Disk_settleDown 27 = .ok (.aload_n 0, 1) := by decide +kernel
theorem d_Disk_settleDown_28 : decode b_Disk_settleDown 28 = .ok (.getfield 34, 3) := by decide +kernel
theorem d_Disk_settleDown_31 : decode b_Disk_settleDown 31 = .ok (.iload_n 2, 1) := by decide +kernel
theorem d_Disk_settleDown_32 : decode b_Disk_settleDown 32 = .ok (.invokevirtual 119, 3) := by decide +kernel
theorem d_Disk_settleDown_35 : decode b_Disk_settleDown 35 = .ok (.invokevirtual 131, 3) := by decide +kernel
theorem d_Disk_settleDown_38 : decode b_Disk_settleDown 38 = .ok (.istore_n 3, 1) := by decide +kernel
theorem d_Disk_settleDown_39 : decode b_Disk_settleDown 39 = .ok (.iload_n 3, 1) := by decide +kernel
theorem d_Disk_settleDown_40 : decode b_Disk_settleDown 40 = .ok (.istore 4, 2) := by decide +kernel
theorem d_Disk_settleDown_42 : decode b_Disk_settleDown 42 = .ok (.iconst 0, 1) := by decide +kernel
theorem d_Disk_settleDown_43 : decode b_Disk_settleDown 43 = .ok (.istore 5, 2) := by decide +kernel
theorem d_Disk_settleDown_45 : decode b_Disk_settleDown 45 = .ok (.iload 5, 2) := by decide +kernel
theorem d_Disk_settleDown_47 : decode b_Disk_settleDown 47 = .ok (.bipush 24, 2) := by decide +kernel
theorem d_Disk_settleDown_49 : decode b_Disk_settleDown 49 = .ok (.if_icmp .ge 35, 3) := by decide +kernel
theorem d_Disk_settleDown_52 : decode b_Disk_settleDown 52 = .ok (.iload_n 3, 1) := by decide +kernel
theorem d_Disk_settleDown_53 : decode b_Disk_settleDown 53 = .ok (.ifCond .lt 31, 3) := by decide +kernel
theorem d_Disk_settleDown_56 : decode b_Disk_settleDown 56 = .ok (.aload_n 0, 1) := by decide +kernel
theorem d_Disk_settleDown_57 : decode b_Disk_settleDown 57 = .ok (.iload_n 1, 1) := by decide +kernel
theorem d_Disk_settleDown_58 : decode b_Disk_settleDown 58 = .ok (.iload 5, 2) := by decide +kernel
theorem d_Disk_settleDown_60 : decode b_Disk_settleDown 60 = .ok (.invokevirtual 56, 3) := by decide +kernel
theorem d_Disk_settleDown_63 : decode b_Disk_settleDown 63 = .ok (.ifCond .lt 15, 3) := by decide +kernel
theorem d_Disk_settleDown_66 : decode b_Disk_settleDown 66 = .ok (.aload_n 0, 1) := by decide +kernel
theorem d_Disk_settleDown_67 : decode b_Disk_settleDown 67 = .ok (.iload_n 1, 1) := by decide +kernel
theorem d_Disk_settleDown_68 : decode b_Disk_settleDown 68 = .ok (.iload 5, 2) := by decide +kernel
theorem d_Disk_settleDown_70 : decode b_Disk_settleDown 70 = .ok (.iload 4, 2) := by decide +kernel
theorem d_Disk_settleDown_72 : decode b_Disk_settleDown 72 = .ok (.invokevirtual 153, 3) := by decide +kernel
theorem d_Disk_settleDown_75 : decode b_Disk_settleDown 75 = .ok (.iinc 4 1, 3) := by decide +kernel
theorem d_Disk_settleDown_78 : decode b_Disk_settleDown 78 = .ok (.iinc 5 1, 3) := by decide +kernel
theorem d_Disk_settleDown_81 : decode b_Disk_settleDown 81 = .ok (.goto (-36), 3) := by decide +kernel
theorem d_Disk_settleDown_84 : decode b_Disk_settleDown 84 = .ok (.iload_n 3, 1) := by decide +kernel
theorem d_Disk_settleDown_85 : decode b_Disk_settleDown 85 = .ok (.ireturn, 1) := by decide +kernel
def m_Disk_settleDown_45 : Nat → Int → Int → Int → Int → (Int → Int) → (Int → Int) → (Int → Int) → Int → (Int → Int) → (Int → Int) → Option (Int × (Int → Int) × (Int → Int) × (Int → Int) × Int × (Int → Int) × (Int → Int))
  | 0, _, _, _, _, _, _, _, _, _, _ => none
  | fuel + 1, v1, v3, v4, v5, ow, bt, pl, rm, rs, rz =>
  clt v5 24 (clt v3 0 (some (v3, ow, bt, pl, rm, rs, rz)) (bnd (m_Disk_blockAt v1 v5 pl) (fun r9 => clt r9 0 (m_Disk_settleDown_45 fuel v1 v3 v4 (v5 + 1) ow bt pl rm rs rz) (bnd (m_Disk_move v1 v5 v4 ow bt pl) (fun r11 => m_Disk_settleDown_45 fuel v1 v3 (v4 + 1) (v5 + 1) r11.1 r11.2.1 r11.2.2 rm rs rz))))) (some (v3, ow, bt, pl, rm, rs, rz))
def m_Disk_settleDown (x1 : Int) (ow : Int → Int) (bt : Int → Int) (pl : Int → Int) (rm : Int) (rs : Int → Int) (rz : Int → Int) : Option (Int × (Int → Int) × (Int → Int) × (Int → Int) × Int × (Int → Int) × (Int → Int)) :=
  bnd (m_Disk_placedIn x1 pl) (fun r1 => ceq r1 0 (some ((-1), ow, bt, pl, rm, rs, rz)) (bnd (m_Runs_lookAt rm rs rz ow) (fun r3 => bnd (m_Runs_leastFor r1 r3.1 r3.2.2) (fun r5 => bnd (m_Runs_startAt r5 r3.1 r3.2.1) (fun r7 => m_Disk_settleDown_45 5000 x1 r7 r7 0 ow bt pl r3.1 r3.2.1 r3.2.2)))))
set_option maxHeartbeats 4000000 in
set_option maxRecDepth 100000 in
theorem l_Disk_settleDown_45 {G : GT} {l : Launch} {D : va_G} {cI cB : ClassId} {a0 a1 a2 a3 a4 a5 a6 a7 a8 a9 : Nat} {ki : Int → Int} {va : Int → Int} {wr : Int → Int} (X : Cx G l D cI cB b_Disk_settleDown y_Disk_settleDown.cls 6 { frames := 3, cells := 0, slots := 0, locals := 67 }) : ∀ (fuel : Nat) (v1 : Int) (v3 : Int) (v4 : Int) (v5 : Int) (ow : Int → Int) (bt : Int → Int) (pl : Int → Int) (rm : Int) (rs : Int → Int) (rz : Int → Int) (o : Int × (Int → Int) × (Int → Int) × (Int → Int) × Int × (Int → Int) × (Int → Int)), m_Disk_settleDown_45 fuel v1 v3 v4 v5 ow bt pl rm rs rz = some o → Rt G (some .int) (some (.int (zi o.1))) (w_Disk cI cB a0 a1 a2 a3 a4 a5 a6 a7 a8 a9 o.2.1 o.2.2.1 ki o.2.2.2.1 va wr o.2.2.2.2.1 o.2.2.2.2.2.1 o.2.2.2.2.2.2) → Wx G 0 0 45 [(0, .ref a0), (1, .int (zi v1)), (3, .int (zi v3)), (4, .int (zi v4)), (5, .int (zi v5))] [] (w_Disk cI cB a0 a1 a2 a3 a4 a5 a6 a7 a8 a9 ow bt ki pl va wr rm rs rz) := by
  intro fuel
  induction fuel with
  | zero =>
    intro v1 v3 v4 v5 ow bt pl rm rs rz o h
    exact absurd h (by simp [m_Disk_settleDown_45])
  | succ fuel ih =>
    intro v1 v3 v4 v5 ow bt pl rm rs rz o h hR
    rw [m_Disk_settleDown_45] at h
    refine x_iload (pc := 45) X d_Disk_settleDown_45 4 rfl ?_
    refine x_bipush (pc := 47) (v := 24) X d_Disk_settleDown_47 rfl ?_
    refine x_icmpge (pc := 49) (tgt := 84) X d_Disk_settleDown_49 rfl h (fun h => ?_) (fun h => ?_)
    · skip
      refine x_iload_n (pc := 84) X d_Disk_settleDown_84 2 rfl rfl ?_
      cases h
      exact x_iret (pc := 85) X hR d_Disk_settleDown_85
    · skip
      refine x_iload_n (pc := 52) X d_Disk_settleDown_52 2 rfl rfl ?_
      refine x_iflt (pc := 53) (tgt := 84) X d_Disk_settleDown_53 rfl h (fun h => ?_) (fun h => ?_)
      · skip
        refine x_iload_n (pc := 84) X d_Disk_settleDown_84 2 rfl rfl ?_
        cases h
        exact x_iret (pc := 85) X hR d_Disk_settleDown_85
      · skip
        refine x_aload_n (pc := 56) X d_Disk_settleDown_56 0 rfl rfl ?_
        refine x_iload_n (pc := 57) X d_Disk_settleDown_57 1 rfl rfl ?_
        refine x_iload (pc := 58) X d_Disk_settleDown_58 4 rfl ?_
        obtain ⟨r9, h10, h⟩ := bnd_e h
        refine x_callV (pc := 60) (As := [.int (zi v1), .int (zi v5)]) (rest := []) (w2 := (w_Disk cI cB a0 a1 a2 a3 a4 a5 a6 a7 a8 a9 ow bt ki pl va wr rm rs rz)) X d_Disk_settleDown_60 lk_Disk_56 mv_Disk_blockAt (c_Disk_blockAt l D cI cB a0 a1 a2 a3 a4 a5 a6 a7 a8 a9 ow bt ki pl va wr rm rs rz v1 v5 h10) ⟨(Nat.le_of_ble_eq_true rfl), (Nat.le_of_ble_eq_true rfl), (Nat.le_of_ble_eq_true rfl), (Nat.le_of_ble_eq_true rfl)⟩ 0 rfl rfl [0, 1, 2, 3, 4, 5, 6, 7, 8, 9] rfl rfl rfl (Up.same rfl) rfl rfl (Nat.le_of_ble_eq_true rfl) ?_
        refine x_iflt (pc := 63) (tgt := 78) X d_Disk_settleDown_63 rfl h (fun h => ?_) (fun h => ?_)
        · skip
          refine x_iinc (pc := 78) (ls2 := [(5, .int (zi (v5 + 1))), (0, .ref a0), (1, .int (zi v1)), (3, .int (zi v3)), (4, .int (zi v4))]) X d_Disk_settleDown_78 4 (Nat.le_of_ble_eq_true rfl) rfl rfl ?_
          refine x_goto (pc := 81) (tgt := 45) X d_Disk_settleDown_81 rfl ?_
          refine x_ls (ls2 := [(0, .ref a0), (1, .int (zi v1)), (3, .int (zi v3)), (4, .int (zi v4)), (5, .int (zi (v5 + 1)))]) [1, 2, 3, 4, 0] rfl ?_
          exact ih v1 v3 v4 (v5 + 1) ow bt pl rm rs rz o h hR
        · skip
          refine x_aload_n (pc := 66) X d_Disk_settleDown_66 0 rfl rfl ?_
          refine x_iload_n (pc := 67) X d_Disk_settleDown_67 1 rfl rfl ?_
          refine x_iload (pc := 68) X d_Disk_settleDown_68 4 rfl ?_
          refine x_iload (pc := 70) X d_Disk_settleDown_70 3 rfl ?_
          obtain ⟨r11, h12, h⟩ := bnd_e h
          refine x_callV (pc := 72) (As := [.int (zi v1), .int (zi v5), .int (zi v4)]) (rest := []) (w2 := (w_Disk cI cB a0 a1 a2 a3 a4 a5 a6 a7 a8 a9 r11.1 r11.2.1 ki r11.2.2 va wr rm rs rz)) X d_Disk_settleDown_72 lk_Disk_153 mv_Disk_move (c_Disk_move l D cI cB a0 a1 a2 a3 a4 a5 a6 a7 a8 a9 ow bt ki pl va wr rm rs rz v1 v5 v4 h12) ⟨(Nat.le_of_ble_eq_true rfl), (Nat.le_of_ble_eq_true rfl), (Nat.le_of_ble_eq_true rfl), (Nat.le_of_ble_eq_true rfl)⟩ 0 rfl rfl [0, 1, 2, 3, 4, 5, 6, 7, 8, 9] rfl rfl rfl (Up.of [] [] rfl rfl rfl 10 rfl (by decide +kernel)) rfl rfl (Nat.le_of_ble_eq_true rfl) ?_
          refine x_iinc (pc := 75) (ls2 := [(4, .int (zi (v4 + 1))), (0, .ref a0), (1, .int (zi v1)), (3, .int (zi v3)), (5, .int (zi v5))]) X d_Disk_settleDown_75 3 (Nat.le_of_ble_eq_true rfl) rfl rfl ?_
          refine x_iinc (pc := 78) (ls2 := [(5, .int (zi (v5 + 1))), (4, .int (zi (v4 + 1))), (0, .ref a0), (1, .int (zi v1)), (3, .int (zi v3))]) X d_Disk_settleDown_78 4 (Nat.le_of_ble_eq_true rfl) rfl rfl ?_
          refine x_goto (pc := 81) (tgt := 45) X d_Disk_settleDown_81 rfl ?_
          refine x_ls (ls2 := [(0, .ref a0), (1, .int (zi v1)), (3, .int (zi v3)), (4, .int (zi (v4 + 1))), (5, .int (zi (v5 + 1)))]) [2, 3, 4, 1, 0] rfl ?_
          exact ih v1 v3 (v4 + 1) (v5 + 1) r11.1 r11.2.1 r11.2.2 rm rs rz o h hR
set_option maxHeartbeats 4000000 in
set_option maxRecDepth 100000 in
theorem c_Disk_settleDown (l : Launch) (D : va_G) (cI cB : ClassId) (a0 a1 a2 a3 a4 a5 a6 a7 a8 a9 : Nat) (ow : Int → Int) (bt : Int → Int) (ki : Int → Int) (pl : Int → Int) (va : Int → Int) (wr : Int → Int) (rm : Int) (rs : Int → Int) (rz : Int → Int) (x1 : Int) {o : Int × (Int → Int) × (Int → Int) × (Int → Int) × Int × (Int → Int) × (Int → Int)} (h : m_Disk_settleDown x1 ow bt pl rm rs rz = some o) : Ct l D cI cB y_Disk_settleDown b_Disk_settleDown 6 (some .int) { frames := 3, cells := 0, slots := 0, locals := 67 } [.ref a0, .int (zi x1)] (w_Disk cI cB a0 a1 a2 a3 a4 a5 a6 a7 a8 a9 ow bt ki pl va wr rm rs rz) (w_Disk cI cB a0 a1 a2 a3 a4 a5 a6 a7 a8 a9 o.2.1 o.2.2.1 ki o.2.2.2.1 va wr o.2.2.2.2.1 o.2.2.2.2.2.1 o.2.2.2.2.2.2) (some (.int (zi o.1))) := by
  refine Ct.start (by decide) (Nat.le_of_ble_eq_true rfl) (fun G X hR => ?_)
  refine x_ls (ls2 := [(0, .ref a0), (1, .int (zi x1))]) [0, 1] rfl ?_
  unfold m_Disk_settleDown at h
  refine x_aload_n (pc := 0) X d_Disk_settleDown_0 0 rfl rfl ?_
  refine x_iload_n (pc := 1) X d_Disk_settleDown_1 1 rfl rfl ?_
  obtain ⟨r1, h2, h⟩ := bnd_e h
  refine x_callV (pc := 2) (As := [.int (zi x1)]) (rest := []) (w2 := (w_Disk cI cB a0 a1 a2 a3 a4 a5 a6 a7 a8 a9 ow bt ki pl va wr rm rs rz)) X d_Disk_settleDown_2 lk_Disk_150 mv_Disk_placedIn (c_Disk_placedIn l D cI cB a0 a1 a2 a3 a4 a5 a6 a7 a8 a9 ow bt ki pl va wr rm rs rz x1 h2) ⟨(Nat.le_of_ble_eq_true rfl), (Nat.le_of_ble_eq_true rfl), (Nat.le_of_ble_eq_true rfl), (Nat.le_of_ble_eq_true rfl)⟩ 0 rfl rfl [0, 1, 2, 3, 4, 5, 6, 7, 8, 9] rfl rfl rfl (Up.same rfl) rfl rfl (Nat.le_of_ble_eq_true rfl) ?_
  refine x_istore_n (pc := 5) (ls2 := [(2, .int (zi r1)), (0, .ref a0), (1, .int (zi x1))]) X d_Disk_settleDown_5 rfl (Nat.le_of_ble_eq_true rfl) rfl ?_
  refine x_iload_n (pc := 6) X d_Disk_settleDown_6 0 rfl rfl ?_
  refine x_ifne (pc := 7) (tgt := 12) X d_Disk_settleDown_7 rfl h (fun h => ?_) (fun h => ?_)
  · skip
    refine x_aload_n (pc := 12) X d_Disk_settleDown_12 1 rfl rfl ?_
    refine x_get (pc := 13) X d_Disk_settleDown_13 0 rfl fl_Disk_34 rfl ?_
    refine x_aload_n (pc := 16) X d_Disk_settleDown_16 1 rfl rfl ?_
    refine x_get (pc := 17) X d_Disk_settleDown_17 0 rfl fl_Disk_9 rfl ?_
    obtain ⟨r3, h4, h⟩ := bnd_e h
    refine x_callV (pc := 20) (As := [.ref a1]) (rest := []) (w2 := (w_Disk cI cB a0 a1 a2 a3 a4 a5 a6 a7 a8 a9 ow bt ki pl va wr r3.1 r3.2.1 r3.2.2)) X d_Disk_settleDown_20 lk_Disk_44 mv_Runs_lookAt (c_Runs_lookAt l D cI cB a7 a8 a9 a1 rm rs rz ow h4) ⟨(Nat.le_of_ble_eq_true rfl), (Nat.le_of_ble_eq_true rfl), (Nat.le_of_ble_eq_true rfl), (Nat.le_of_ble_eq_true rfl)⟩ 7 rfl rfl [7, 8, 9, 1] rfl rfl rfl (Up.of [0, 2, 3, 4, 5, 6] [(a0, .inr (0, [.ref a1, .ref a2, .ref a3, .ref a4, .ref a5, .ref a6, .ref a7])), (a2, zA cI 64 bt), (a3, zA cI 4 ki), (a4, zA cI 96 pl), (a5, zA cI 96 va), (a6, zA cB 96 wr)] rfl rfl rfl 10 rfl (by decide +kernel)) rfl rfl (Nat.le_of_ble_eq_true rfl) ?_
    refine x_aload_n (pc := 23) X d_Disk_settleDown_23 1 rfl rfl ?_
    refine x_get (pc := 24) X d_Disk_settleDown_24 0 rfl fl_Disk_34 rfl ?_
    refine x_aload_n (pc := 27) X d_Disk_settleDown_27 1 rfl rfl ?_
    refine x_get (pc := 28) X d_Disk_settleDown_28 0 rfl fl_Disk_34 rfl ?_
    refine x_iload_n (pc := 31) X d_Disk_settleDown_31 0 rfl rfl ?_
    obtain ⟨r5, h6, h⟩ := bnd_e h
    refine x_callV (pc := 32) (As := [.int (zi r1)]) (rest := [.ref a7]) (w2 := (w_Disk cI cB a0 a1 a2 a3 a4 a5 a6 a7 a8 a9 ow bt ki pl va wr r3.1 r3.2.1 r3.2.2)) X d_Disk_settleDown_32 lk_Disk_119 mv_Runs_leastFor (c_Runs_leastFor l D cI cB a7 a8 a9 r3.1 r3.2.1 r3.2.2 r1 h6) ⟨(Nat.le_of_ble_eq_true rfl), (Nat.le_of_ble_eq_true rfl), (Nat.le_of_ble_eq_true rfl), (Nat.le_of_ble_eq_true rfl)⟩ 7 rfl rfl [7, 8, 9] rfl rfl rfl (Up.same rfl) rfl rfl (Nat.le_of_ble_eq_true rfl) ?_
    obtain ⟨r7, h8, h⟩ := bnd_e h
    refine x_callV (pc := 35) (As := [.int (zi r5)]) (rest := []) (w2 := (w_Disk cI cB a0 a1 a2 a3 a4 a5 a6 a7 a8 a9 ow bt ki pl va wr r3.1 r3.2.1 r3.2.2)) X d_Disk_settleDown_35 lk_Disk_131 mv_Runs_startAt (c_Runs_startAt l D cI cB a7 a8 a9 r3.1 r3.2.1 r3.2.2 r5 h8) ⟨(Nat.le_of_ble_eq_true rfl), (Nat.le_of_ble_eq_true rfl), (Nat.le_of_ble_eq_true rfl), (Nat.le_of_ble_eq_true rfl)⟩ 7 rfl rfl [7, 8, 9] rfl rfl rfl (Up.same rfl) rfl rfl (Nat.le_of_ble_eq_true rfl) ?_
    refine x_istore_n (pc := 38) (ls2 := [(3, .int (zi r7)), (2, .int (zi r1)), (0, .ref a0), (1, .int (zi x1))]) X d_Disk_settleDown_38 rfl (Nat.le_of_ble_eq_true rfl) rfl ?_
    refine x_iload_n (pc := 39) X d_Disk_settleDown_39 0 rfl rfl ?_
    refine x_istore (pc := 40) (ls2 := [(4, .int (zi r7)), (3, .int (zi r7)), (2, .int (zi r1)), (0, .ref a0), (1, .int (zi x1))]) X d_Disk_settleDown_40 (Nat.le_of_ble_eq_true rfl) rfl ?_
    refine x_iconst (pc := 42) X d_Disk_settleDown_42  ?_
    refine x_istore (pc := 43) (ls2 := [(5, .int (zi 0)), (4, .int (zi r7)), (3, .int (zi r7)), (2, .int (zi r1)), (0, .ref a0), (1, .int (zi x1))]) X d_Disk_settleDown_43 (Nat.le_of_ble_eq_true rfl) rfl ?_
    refine x_ls (ls2 := [(0, .ref a0), (1, .int (zi x1)), (3, .int (zi r7)), (4, .int (zi r7)), (5, .int (zi 0))]) [4, 5, 2, 1, 0] rfl ?_
    exact l_Disk_settleDown_45 X 5000 x1 r7 r7 0 ow bt pl r3.1 r3.2.1 r3.2.2 o h hR
  · skip
    refine x_iconst (pc := 10) X d_Disk_settleDown_10  ?_
    cases h
    exact x_iret (pc := 11) X hR d_Disk_settleDown_11
theorem d_Disk_punchOne_0 : decode b_Disk_punchOne 0 = .ok (.aload_n 0, 1) := by decide +kernel
theorem d_Disk_punchOne_1 : decode b_Disk_punchOne 1 = .ok (.iload_n 1, 1) := by decide +kernel
theorem d_Disk_punchOne_2 : decode b_Disk_punchOne 2 = .ok (.iload_n 2, 1) := by decide +kernel
theorem d_Disk_punchOne_3 : decode b_Disk_punchOne 3 = .ok (.invokevirtual 56, 3) := by decide +kernel
theorem d_Disk_punchOne_6 : decode b_Disk_punchOne 6 = .ok (.istore_n 3, 1) := by decide +kernel
theorem d_Disk_punchOne_7 : decode b_Disk_punchOne 7 = .ok (.iload_n 1, 1) := by decide +kernel
theorem d_Disk_punchOne_8 : decode b_Disk_punchOne 8 = .ok (.invokestatic 99, 3) := by decide +kernel
theorem d_Disk_punchOne_11 : decode b_Disk_punchOne 11 = .ok (.ifCond .eq 46, 3) := by decide +kernel
theorem d_Disk_punchOne_14 : decode b_Disk_punchOne 14 = .ok (.iload_n 2, 1) := by decide +kernel
theorem d_Disk_punchOne_15 : decode b_Disk_punchOne 15 = .ok (.invokestatic 103, 3) := by decide +kernel
theorem d_Disk_punchOne_18 : decode b_Disk_punchOne 18 = .ok (.ifCond .eq 39, 3) := by decide +kernel
theorem d_Disk_punchOne_21 : decode b_Disk_punchOne 21 = .ok (.aload_n 0, 1) := by decide +kernel
theorem d_Disk_punchOne_22 : decode b_Disk_punchOne 22 = .ok (.getfield 21, 3) := by decide +kernel
theorem d_Disk_punchOne_25 : decode b_Disk_punchOne 25 = .ok (.iload_n 1, 1) := by decide +kernel
theorem d_Disk_punchOne_26 : decode b_Disk_punchOne 26 = .ok (.bipush 24, 2) := by decide +kernel
theorem d_Disk_punchOne_28 : decode b_Disk_punchOne 28 = .ok (.imul, 1) := by decide +kernel
theorem d_Disk_punchOne_29 : decode b_Disk_punchOne 29 = .ok (.iload_n 2, 1) := by decide +kernel
theorem d_Disk_punchOne_30 : decode b_Disk_punchOne 30 = .ok (.iadd, 1) := by decide +kernel
theorem d_Disk_punchOne_31 : decode b_Disk_punchOne 31 = .ok (.iconst (-1), 1) := by decide +kernel
theorem d_Disk_punchOne_32 : decode b_Disk_punchOne 32 = .ok (.iastore, 1) := by decide +kernel
theorem d_Disk_punchOne_33 : decode b_Disk_punchOne 33 = .ok (.aload_n 0, 1) := by decide +kernel
theorem d_Disk_punchOne_34 : decode b_Disk_punchOne 34 = .ok (.getfield 24, 3) := by decide +kernel
theorem d_Disk_punchOne_37 : decode b_Disk_punchOne 37 = .ok (.iload_n 1, 1) := by decide +kernel
theorem d_Disk_punchOne_38 : decode b_Disk_punchOne 38 = .ok (.bipush 24, 2) := by decide +kernel
theorem d_Disk_punchOne_40 : decode b_Disk_punchOne 40 = .ok (.imul, 1) := by decide +kernel
theorem d_Disk_punchOne_41 : decode b_Disk_punchOne 41 = .ok (.iload_n 2, 1) := by decide +kernel
theorem d_Disk_punchOne_42 : decode b_Disk_punchOne 42 = .ok (.iadd, 1) := by decide +kernel
theorem d_Disk_punchOne_43 : decode b_Disk_punchOne 43 = .ok (.iconst (-1), 1) := by decide +kernel
theorem d_Disk_punchOne_44 : decode b_Disk_punchOne 44 = .ok (.iastore, 1) := by decide +kernel
theorem d_Disk_punchOne_45 : decode b_Disk_punchOne 45 = .ok (.aload_n 0, 1) := by decide +kernel
theorem d_Disk_punchOne_46 : decode b_Disk_punchOne 46 = .ok (.getfield 27, 3) := by decide +kernel
theorem d_Disk_punchOne_49 : decode b_Disk_punchOne 49 = .ok (.iload_n 1, 1) := by decide +kernel
theorem d_Disk_punchOne_50 : decode b_Disk_punchOne 50 = .ok (.bipush 24, 2) := by decide +kernel
theorem d_Disk_punchOne_52 : decode b_Disk_punchOne 52 = .ok (.imul, 1) := by decide +kernel
theorem d_Disk_punchOne_53 : decode b_Disk_punchOne 53 = .ok (.iload_n 2, 1) := by decide +kernel
theorem d_Disk_punchOne_54 : decode b_Disk_punchOne 54 = .ok (.iadd, 1) := by decide +kernel
theorem d_Disk_punchOne_55 : decode b_Disk_punchOne 55 = .ok (.iconst 0, 1) := by decide +kernel
theorem d_Disk_punchOne_56 : decode b_Disk_punchOne 56 = .ok (.bastore, 1) := by decide +kernel
theorem d_Disk_punchOne_57 : decode b_Disk_punchOne 57 = .ok (.iload_n 3, 1) := by decide +kernel
theorem d_Disk_punchOne_58 : decode b_Disk_punchOne 58 = .ok (.invokestatic 138, 3) := by decide +kernel
theorem d_Disk_punchOne_61 : decode b_Disk_punchOne 61 = .ok (.ifCond .eq 12, 3) := by decide +kernel
theorem d_Disk_punchOne_64 : decode b_Disk_punchOne 64 = .ok (.aload_n 0, 1) := by decide +kernel
theorem d_Disk_punchOne_65 : decode b_Disk_punchOne 65 = .ok (.getfield 9, 3) := by decide +kernel
theorem d_Disk_punchOne_68 : decode b_Disk_punchOne 68 = .ok (.iload_n 3, 1) := by decide +kernel
theorem d_Disk_punchOne_69 : decode b_Disk_punchOne 69 = .ok (.iconst (-1), 1) := by decide +kernel
theorem d_Disk_punchOne_70 : decode b_Disk_punchOne 70 = .ok (.iastore, 1) := by decide +kernel
theorem d_Disk_punchOne_71 : decode b_Disk_punchOne 71 = .ok (.iconst 1, 1) := by decide +kernel
theorem d_Disk_punchOne_72 : decode b_Disk_punchOne 72 = .ok (.ireturn, 1) := by decide +kernel
theorem d_Disk_punchOne_73 : decode b_Disk_punchOne 73 = .ok (.iconst 0, 1) := by decide +kernel
theorem d_Disk_punchOne_74 : decode b_Disk_punchOne 74 = .ok (.ireturn, 1) := by decide +kernel
def m_Disk_punchOne (x1 : Int) (x2 : Int) (ow : Int → Int) (pl : Int → Int) (va : Int → Int) (wr : Int → Int) : Option (Int × (Int → Int) × (Int → Int) × (Int → Int) × (Int → Int)) :=
  bnd (m_Disk_blockAt x1 x2 pl) (fun r1 => bnd (m_Vol_isFile x1) (fun r3 => jn (fun (z6 : Int) (c7 : Int → Int) (c8 : Int → Int) (c9 : Int → Int) (c10 : Int → Int) => bnd (m_Vol_isBlock z6) (fun r11 => ceq r11 0 (some (0, c7, c8, c9, c10)) (gd (zx z6 64) (some (1, (uf c7 z6 (-1)), c8, c9, c10))))) (fun j5 => ceq r3 0 (j5 r1 ow pl va wr) (bnd (m_Vol_isPage x2) (fun r15 => ceq r15 0 (j5 r1 ow pl va wr) (gd (zx ((x1 * 24) + x2) 96) (gd (zx ((x1 * 24) + x2) 96) (gd (zx ((x1 * 24) + x2) 96 ∧ zb 0) (j5 r1 ow (uf pl ((x1 * 24) + x2) (-1)) (uf va ((x1 * 24) + x2) (-1)) (uf wr ((x1 * 24) + x2) 0))))))))))
set_option maxHeartbeats 4000000 in
set_option maxRecDepth 100000 in
theorem c_Disk_punchOne (l : Launch) (D : va_G) (cI cB : ClassId) (a0 a1 a2 a3 a4 a5 a6 a7 a8 a9 : Nat) (ow : Int → Int) (bt : Int → Int) (ki : Int → Int) (pl : Int → Int) (va : Int → Int) (wr : Int → Int) (rm : Int) (rs : Int → Int) (rz : Int → Int) (x1 : Int) (x2 : Int) {o : Int × (Int → Int) × (Int → Int) × (Int → Int) × (Int → Int)} (h : m_Disk_punchOne x1 x2 ow pl va wr = some o) : Ct l D cI cB y_Disk_punchOne b_Disk_punchOne 4 (some .int) { frames := 1, cells := 0, slots := 0, locals := 23 } [.ref a0, .int (zi x1), .int (zi x2)] (w_Disk cI cB a0 a1 a2 a3 a4 a5 a6 a7 a8 a9 ow bt ki pl va wr rm rs rz) (w_Disk cI cB a0 a1 a2 a3 a4 a5 a6 a7 a8 a9 o.2.1 bt ki o.2.2.1 o.2.2.2.1 o.2.2.2.2 rm rs rz) (some (.int (zi o.1))) := by
  refine Ct.start (by decide) (Nat.le_of_ble_eq_true rfl) (fun G X hR => ?_)
  refine x_ls (ls2 := [(0, .ref a0), (1, .int (zi x1)), (2, .int (zi x2))]) [0, 1, 2] rfl ?_
  unfold m_Disk_punchOne at h
  refine x_aload_n (pc := 0) X d_Disk_punchOne_0 0 rfl rfl ?_
  refine x_iload_n (pc := 1) X d_Disk_punchOne_1 1 rfl rfl ?_
  refine x_iload_n (pc := 2) X d_Disk_punchOne_2 2 rfl rfl ?_
  obtain ⟨r1, h2, h⟩ := bnd_e h
  refine x_callV (pc := 3) (As := [.int (zi x1), .int (zi x2)]) (rest := []) (w2 := (w_Disk cI cB a0 a1 a2 a3 a4 a5 a6 a7 a8 a9 ow bt ki pl va wr rm rs rz)) X d_Disk_punchOne_3 lk_Disk_56 mv_Disk_blockAt (c_Disk_blockAt l D cI cB a0 a1 a2 a3 a4 a5 a6 a7 a8 a9 ow bt ki pl va wr rm rs rz x1 x2 h2) ⟨(Nat.le_of_ble_eq_true rfl), (Nat.le_of_ble_eq_true rfl), (Nat.le_of_ble_eq_true rfl), (Nat.le_of_ble_eq_true rfl)⟩ 0 rfl rfl [0, 1, 2, 3, 4, 5, 6, 7, 8, 9] rfl rfl rfl (Up.same rfl) rfl rfl (Nat.le_of_ble_eq_true rfl) ?_
  refine x_istore_n (pc := 6) (ls2 := [(3, .int (zi r1)), (0, .ref a0), (1, .int (zi x1)), (2, .int (zi x2))]) X d_Disk_punchOne_6 rfl (Nat.le_of_ble_eq_true rfl) rfl ?_
  refine x_iload_n (pc := 7) X d_Disk_punchOne_7 2 rfl rfl ?_
  obtain ⟨r3, h4, h⟩ := bnd_e h
  refine x_callS (pc := 8) (As := [.int (zi x1)]) (rest := []) (w2 := (w_Disk cI cB a0 a1 a2 a3 a4 a5 a6 a7 a8 a9 ow bt ki pl va wr rm rs rz)) X d_Disk_punchOne_8 lk_Disk_99 mv_Vol_isFile (c_Vol_isFile l D cI cB x1 h4) ⟨(Nat.le_of_ble_eq_true rfl), (Nat.le_of_ble_eq_true rfl), (Nat.le_of_ble_eq_true rfl), (Nat.le_of_ble_eq_true rfl)⟩ [] rfl rfl rfl (Up.same rfl) rfl rfl (Nat.le_of_ble_eq_true rfl) ?_
  obtain ⟨j5, hj13, h⟩ := jn_e h
  have J14 : ∀ (z6 : Int) (c7 : Int → Int) (c8 : Int → Int) (c9 : Int → Int) (c10 : Int → Int), j5 z6 c7 c8 c9 c10 = some o → Wx G 0 0 57 [(0, .ref a0), (3, .int (zi z6))] [] (w_Disk cI cB a0 a1 a2 a3 a4 a5 a6 a7 a8 a9 c7 bt ki c8 c9 c10 rm rs rz) := by
    intro z6 c7 c8 c9 c10 h
    rw [hj13] at h
    (try dsimp only at h)
    refine x_iload_n (pc := 57) X d_Disk_punchOne_57 1 rfl rfl ?_
    obtain ⟨r11, h12, h⟩ := bnd_e h
    refine x_callS (pc := 58) (As := [.int (zi z6)]) (rest := []) (w2 := (w_Disk cI cB a0 a1 a2 a3 a4 a5 a6 a7 a8 a9 c7 bt ki c8 c9 c10 rm rs rz)) X d_Disk_punchOne_58 lk_Disk_138 mv_Vol_isBlock (c_Vol_isBlock l D cI cB z6 h12) ⟨(Nat.le_of_ble_eq_true rfl), (Nat.le_of_ble_eq_true rfl), (Nat.le_of_ble_eq_true rfl), (Nat.le_of_ble_eq_true rfl)⟩ [] rfl rfl rfl (Up.same rfl) rfl rfl (Nat.le_of_ble_eq_true rfl) ?_
    refine x_ifeq (pc := 61) (tgt := 73) X d_Disk_punchOne_61 rfl h (fun h => ?_) (fun h => ?_)
    · skip
      refine x_iconst (pc := 73) X d_Disk_punchOne_73  ?_
      cases h
      exact x_iret (pc := 74) X hR d_Disk_punchOne_74
    · skip
      refine x_aload_n (pc := 64) X d_Disk_punchOne_64 0 rfl rfl ?_
      refine x_get (pc := 65) X d_Disk_punchOne_65 0 rfl fl_Disk_9 rfl ?_
      refine x_iload_n (pc := 68) X d_Disk_punchOne_68 1 rfl rfl ?_
      refine x_iconst (pc := 69) X d_Disk_punchOne_69  ?_
      refine x_iast (pc := 70) (w2 := (w_Disk cI cB a0 a1 a2 a3 a4 a5 a6 a7 a8 a9 (uf c7 z6 (-1)) bt ki c8 c9 c10 rm rs rz)) X d_Disk_punchOne_70 1 rfl (Nat.le_of_ble_eq_true rfl) rfl rfl h (fun h => ?_)
      refine x_iconst (pc := 71) X d_Disk_punchOne_71  ?_
      cases h
      exact x_iret (pc := 72) X hR d_Disk_punchOne_72
  clear hj13
  refine x_ifeq (pc := 11) (tgt := 57) X d_Disk_punchOne_11 rfl h (fun h => ?_) (fun h => ?_)
  · skip
    refine x_ls (ls2 := [(0, .ref a0), (3, .int (zi r1))]) [1, 0] rfl ?_
    exact J14 r1 ow pl va wr h
  · skip
    refine x_iload_n (pc := 14) X d_Disk_punchOne_14 3 rfl rfl ?_
    obtain ⟨r15, h16, h⟩ := bnd_e h
    refine x_callS (pc := 15) (As := [.int (zi x2)]) (rest := []) (w2 := (w_Disk cI cB a0 a1 a2 a3 a4 a5 a6 a7 a8 a9 ow bt ki pl va wr rm rs rz)) X d_Disk_punchOne_15 lk_Disk_103 mv_Vol_isPage (c_Vol_isPage l D cI cB x2 h16) ⟨(Nat.le_of_ble_eq_true rfl), (Nat.le_of_ble_eq_true rfl), (Nat.le_of_ble_eq_true rfl), (Nat.le_of_ble_eq_true rfl)⟩ [] rfl rfl rfl (Up.same rfl) rfl rfl (Nat.le_of_ble_eq_true rfl) ?_
    refine x_ifeq (pc := 18) (tgt := 57) X d_Disk_punchOne_18 rfl h (fun h => ?_) (fun h => ?_)
    · skip
      refine x_ls (ls2 := [(0, .ref a0), (3, .int (zi r1))]) [1, 0] rfl ?_
      exact J14 r1 ow pl va wr h
    · skip
      refine x_aload_n (pc := 21) X d_Disk_punchOne_21 1 rfl rfl ?_
      refine x_get (pc := 22) X d_Disk_punchOne_22 0 rfl fl_Disk_21 rfl ?_
      refine x_iload_n (pc := 25) X d_Disk_punchOne_25 2 rfl rfl ?_
      refine x_bipush (pc := 26) (v := 24) X d_Disk_punchOne_26 rfl ?_
      refine x_imul (pc := 28) X d_Disk_punchOne_28  ?_
      refine x_iload_n (pc := 29) X d_Disk_punchOne_29 3 rfl rfl ?_
      refine x_iadd (pc := 30) X d_Disk_punchOne_30  ?_
      refine x_iconst (pc := 31) X d_Disk_punchOne_31  ?_
      refine x_iast (pc := 32) (w2 := (w_Disk cI cB a0 a1 a2 a3 a4 a5 a6 a7 a8 a9 ow bt ki (uf pl ((x1 * 24) + x2) (-1)) va wr rm rs rz)) X d_Disk_punchOne_32 4 rfl (Nat.le_of_ble_eq_true rfl) rfl rfl h (fun h => ?_)
      refine x_aload_n (pc := 33) X d_Disk_punchOne_33 1 rfl rfl ?_
      refine x_get (pc := 34) X d_Disk_punchOne_34 0 rfl fl_Disk_24 rfl ?_
      refine x_iload_n (pc := 37) X d_Disk_punchOne_37 2 rfl rfl ?_
      refine x_bipush (pc := 38) (v := 24) X d_Disk_punchOne_38 rfl ?_
      refine x_imul (pc := 40) X d_Disk_punchOne_40  ?_
      refine x_iload_n (pc := 41) X d_Disk_punchOne_41 3 rfl rfl ?_
      refine x_iadd (pc := 42) X d_Disk_punchOne_42  ?_
      refine x_iconst (pc := 43) X d_Disk_punchOne_43  ?_
      refine x_iast (pc := 44) (w2 := (w_Disk cI cB a0 a1 a2 a3 a4 a5 a6 a7 a8 a9 ow bt ki (uf pl ((x1 * 24) + x2) (-1)) (uf va ((x1 * 24) + x2) (-1)) wr rm rs rz)) X d_Disk_punchOne_44 5 rfl (Nat.le_of_ble_eq_true rfl) rfl rfl h (fun h => ?_)
      refine x_aload_n (pc := 45) X d_Disk_punchOne_45 1 rfl rfl ?_
      refine x_get (pc := 46) X d_Disk_punchOne_46 0 rfl fl_Disk_27 rfl ?_
      refine x_iload_n (pc := 49) X d_Disk_punchOne_49 2 rfl rfl ?_
      refine x_bipush (pc := 50) (v := 24) X d_Disk_punchOne_50 rfl ?_
      refine x_imul (pc := 52) X d_Disk_punchOne_52  ?_
      refine x_iload_n (pc := 53) X d_Disk_punchOne_53 3 rfl rfl ?_
      refine x_iadd (pc := 54) X d_Disk_punchOne_54  ?_
      refine x_iconst (pc := 55) X d_Disk_punchOne_55  ?_
      refine x_zast (pc := 56) (w2 := (w_Disk cI cB a0 a1 a2 a3 a4 a5 a6 a7 a8 a9 ow bt ki (uf pl ((x1 * 24) + x2) (-1)) (uf va ((x1 * 24) + x2) (-1)) (uf wr ((x1 * 24) + x2) 0) rm rs rz)) X d_Disk_punchOne_56 6 rfl (Nat.le_of_ble_eq_true rfl) rfl rfl h (fun h => ?_)
      refine x_ls (ls2 := [(0, .ref a0), (3, .int (zi r1))]) [1, 0] rfl ?_
      exact J14 r1 ow (uf pl ((x1 * 24) + x2) (-1)) (uf va ((x1 * 24) + x2) (-1)) (uf wr ((x1 * 24) + x2) 0) h
theorem d_Disk_punchOut_0 : decode b_Disk_punchOut 0 = .ok (.iconst 0, 1) := by decide +kernel
theorem d_Disk_punchOut_1 : decode b_Disk_punchOut 1 = .ok (.istore 4, 2) := by decide +kernel
theorem d_Disk_punchOut_3 : decode b_Disk_punchOut 3 = .ok (.iconst 0, 1) := by decide +kernel
theorem d_Disk_punchOut_4 : decode b_Disk_punchOut 4 = .ok (.istore 5, 2) := by decide +kernel
theorem d_Disk_punchOut_6 : decode b_Disk_punchOut 6 = .ok (.iload 5, 2) := by decide +kernel
theorem d_Disk_punchOut_8 : decode b_Disk_punchOut 8 = .ok (.iload_n 3, 1) := by decide +kernel
theorem d_Disk_punchOut_9 : decode b_Disk_punchOut 9 = .ok (.if_icmp .ge 23, 3) := by decide +kernel
theorem d_Disk_punchOut_12 : decode b_Disk_punchOut 12 = .ok (.iload 4, 2) := by decide +kernel
theorem d_Disk_punchOut_14 : decode b_Disk_punchOut 14 = .ok (.aload_n 0, 1) := by decide +kernel
theorem d_Disk_punchOut_15 : decode b_Disk_punchOut 15 = .ok (.iload_n 1, 1) := by decide +kernel
theorem d_Disk_punchOut_16 : decode b_Disk_punchOut 16 = .ok (.iload_n 2, 1) := by decide +kernel
theorem d_Disk_punchOut_17 : decode b_Disk_punchOut 17 = .ok (.iload 5, 2) := by decide +kernel
theorem d_Disk_punchOut_19 : decode b_Disk_punchOut 19 = .ok (.iadd, 1) := by decide +kernel
theorem d_Disk_punchOut_20 : decode b_Disk_punchOut 20 = .ok (.invokevirtual 141, 3) := by decide +kernel
theorem d_Disk_punchOut_23 : decode b_Disk_punchOut 23 = .ok (.iadd, 1) := by decide +kernel
theorem d_Disk_punchOut_24 : decode b_Disk_punchOut 24 = .ok (.istore 4, 2) := by decide +kernel
theorem d_Disk_punchOut_26 : decode b_Disk_punchOut 26 = .ok (.iinc 5 1, 3) := by decide +kernel
theorem d_Disk_punchOut_29 : decode b_Disk_punchOut 29 = .ok (.goto (-23), 3) := by decide +kernel
theorem d_Disk_punchOut_32 : decode b_Disk_punchOut 32 = .ok (.iload 4, 2) := by decide +kernel
theorem d_Disk_punchOut_34 : decode b_Disk_punchOut 34 = .ok (.ireturn, 1) := by decide +kernel
def m_Disk_punchOut_6 : Nat → Int → Int → Int → Int → Int → (Int → Int) → (Int → Int) → (Int → Int) → (Int → Int) → Option (Int × (Int → Int) × (Int → Int) × (Int → Int) × (Int → Int))
  | 0, _, _, _, _, _, _, _, _, _ => none
  | fuel + 1, v1, v2, v3, v4, v5, ow, pl, va, wr =>
  clt v5 v3 (bnd (m_Disk_punchOne v1 (v2 + v5) ow pl va wr) (fun r1 => m_Disk_punchOut_6 fuel v1 v2 v3 (v4 + r1.1) (v5 + 1) r1.2.1 r1.2.2.1 r1.2.2.2.1 r1.2.2.2.2)) (some (v4, ow, pl, va, wr))
def m_Disk_punchOut (x1 : Int) (x2 : Int) (x3 : Int) (ow : Int → Int) (pl : Int → Int) (va : Int → Int) (wr : Int → Int) : Option (Int × (Int → Int) × (Int → Int) × (Int → Int) × (Int → Int)) :=
  m_Disk_punchOut_6 5000 x1 x2 x3 0 0 ow pl va wr
set_option maxHeartbeats 4000000 in
set_option maxRecDepth 100000 in
theorem l_Disk_punchOut_6 {G : GT} {l : Launch} {D : va_G} {cI cB : ClassId} {a0 a1 a2 a3 a4 a5 a6 a7 a8 a9 : Nat} {bt : Int → Int} {ki : Int → Int} {rm : Int} {rs : Int → Int} {rz : Int → Int} (X : Cx G l D cI cB b_Disk_punchOut y_Disk_punchOut.cls 6 { frames := 2, cells := 0, slots := 0, locals := 46 }) : ∀ (fuel : Nat) (v1 : Int) (v2 : Int) (v3 : Int) (v4 : Int) (v5 : Int) (ow : Int → Int) (pl : Int → Int) (va : Int → Int) (wr : Int → Int) (o : Int × (Int → Int) × (Int → Int) × (Int → Int) × (Int → Int)), m_Disk_punchOut_6 fuel v1 v2 v3 v4 v5 ow pl va wr = some o → Rt G (some .int) (some (.int (zi o.1))) (w_Disk cI cB a0 a1 a2 a3 a4 a5 a6 a7 a8 a9 o.2.1 bt ki o.2.2.1 o.2.2.2.1 o.2.2.2.2 rm rs rz) → Wx G 0 0 6 [(0, .ref a0), (1, .int (zi v1)), (2, .int (zi v2)), (3, .int (zi v3)), (4, .int (zi v4)), (5, .int (zi v5))] [] (w_Disk cI cB a0 a1 a2 a3 a4 a5 a6 a7 a8 a9 ow bt ki pl va wr rm rs rz) := by
  intro fuel
  induction fuel with
  | zero =>
    intro v1 v2 v3 v4 v5 ow pl va wr o h
    exact absurd h (by simp [m_Disk_punchOut_6])
  | succ fuel ih =>
    intro v1 v2 v3 v4 v5 ow pl va wr o h hR
    rw [m_Disk_punchOut_6] at h
    refine x_iload (pc := 6) X d_Disk_punchOut_6 5 rfl ?_
    refine x_iload_n (pc := 8) X d_Disk_punchOut_8 3 rfl rfl ?_
    refine x_icmpge (pc := 9) (tgt := 32) X d_Disk_punchOut_9 rfl h (fun h => ?_) (fun h => ?_)
    · skip
      refine x_iload (pc := 32) X d_Disk_punchOut_32 4 rfl ?_
      cases h
      exact x_iret (pc := 34) X hR d_Disk_punchOut_34
    · skip
      refine x_iload (pc := 12) X d_Disk_punchOut_12 4 rfl ?_
      refine x_aload_n (pc := 14) X d_Disk_punchOut_14 0 rfl rfl ?_
      refine x_iload_n (pc := 15) X d_Disk_punchOut_15 1 rfl rfl ?_
      refine x_iload_n (pc := 16) X d_Disk_punchOut_16 2 rfl rfl ?_
      refine x_iload (pc := 17) X d_Disk_punchOut_17 5 rfl ?_
      refine x_iadd (pc := 19) X d_Disk_punchOut_19  ?_
      obtain ⟨r1, h2, h⟩ := bnd_e h
      refine x_callV (pc := 20) (As := [.int (zi v1), .int (zi (v2 + v5))]) (rest := [.int (zi v4)]) (w2 := (w_Disk cI cB a0 a1 a2 a3 a4 a5 a6 a7 a8 a9 r1.2.1 bt ki r1.2.2.1 r1.2.2.2.1 r1.2.2.2.2 rm rs rz)) X d_Disk_punchOut_20 lk_Disk_141 mv_Disk_punchOne (c_Disk_punchOne l D cI cB a0 a1 a2 a3 a4 a5 a6 a7 a8 a9 ow bt ki pl va wr rm rs rz v1 (v2 + v5) h2) ⟨(Nat.le_of_ble_eq_true rfl), (Nat.le_of_ble_eq_true rfl), (Nat.le_of_ble_eq_true rfl), (Nat.le_of_ble_eq_true rfl)⟩ 0 rfl rfl [0, 1, 2, 3, 4, 5, 6, 7, 8, 9] rfl rfl rfl (Up.of [] [] rfl rfl rfl 10 rfl (by decide +kernel)) rfl rfl (Nat.le_of_ble_eq_true rfl) ?_
      refine x_iadd (pc := 23) X d_Disk_punchOut_23  ?_
      refine x_istore (pc := 24) (ls2 := [(4, .int (zi (v4 + r1.1))), (0, .ref a0), (1, .int (zi v1)), (2, .int (zi v2)), (3, .int (zi v3)), (5, .int (zi v5))]) X d_Disk_punchOut_24 (Nat.le_of_ble_eq_true rfl) rfl ?_
      refine x_iinc (pc := 26) (ls2 := [(5, .int (zi (v5 + 1))), (4, .int (zi (v4 + r1.1))), (0, .ref a0), (1, .int (zi v1)), (2, .int (zi v2)), (3, .int (zi v3))]) X d_Disk_punchOut_26 5 (Nat.le_of_ble_eq_true rfl) rfl rfl ?_
      refine x_goto (pc := 29) (tgt := 6) X d_Disk_punchOut_29 rfl ?_
      refine x_ls (ls2 := [(0, .ref a0), (1, .int (zi v1)), (2, .int (zi v2)), (3, .int (zi v3)), (4, .int (zi (v4 + r1.1))), (5, .int (zi (v5 + 1)))]) [2, 3, 4, 5, 1, 0] rfl ?_
      exact ih v1 v2 v3 (v4 + r1.1) (v5 + 1) r1.2.1 r1.2.2.1 r1.2.2.2.1 r1.2.2.2.2 o h hR
set_option maxHeartbeats 4000000 in
set_option maxRecDepth 100000 in
theorem c_Disk_punchOut (l : Launch) (D : va_G) (cI cB : ClassId) (a0 a1 a2 a3 a4 a5 a6 a7 a8 a9 : Nat) (ow : Int → Int) (bt : Int → Int) (ki : Int → Int) (pl : Int → Int) (va : Int → Int) (wr : Int → Int) (rm : Int) (rs : Int → Int) (rz : Int → Int) (x1 : Int) (x2 : Int) (x3 : Int) {o : Int × (Int → Int) × (Int → Int) × (Int → Int) × (Int → Int)} (h : m_Disk_punchOut x1 x2 x3 ow pl va wr = some o) : Ct l D cI cB y_Disk_punchOut b_Disk_punchOut 6 (some .int) { frames := 2, cells := 0, slots := 0, locals := 46 } [.ref a0, .int (zi x1), .int (zi x2), .int (zi x3)] (w_Disk cI cB a0 a1 a2 a3 a4 a5 a6 a7 a8 a9 ow bt ki pl va wr rm rs rz) (w_Disk cI cB a0 a1 a2 a3 a4 a5 a6 a7 a8 a9 o.2.1 bt ki o.2.2.1 o.2.2.2.1 o.2.2.2.2 rm rs rz) (some (.int (zi o.1))) := by
  refine Ct.start (by decide) (Nat.le_of_ble_eq_true rfl) (fun G X hR => ?_)
  refine x_ls (ls2 := [(0, .ref a0), (1, .int (zi x1)), (2, .int (zi x2)), (3, .int (zi x3))]) [0, 1, 2, 3] rfl ?_
  unfold m_Disk_punchOut at h
  refine x_iconst (pc := 0) X d_Disk_punchOut_0  ?_
  refine x_istore (pc := 1) (ls2 := [(4, .int (zi 0)), (0, .ref a0), (1, .int (zi x1)), (2, .int (zi x2)), (3, .int (zi x3))]) X d_Disk_punchOut_1 (Nat.le_of_ble_eq_true rfl) rfl ?_
  refine x_iconst (pc := 3) X d_Disk_punchOut_3  ?_
  refine x_istore (pc := 4) (ls2 := [(5, .int (zi 0)), (4, .int (zi 0)), (0, .ref a0), (1, .int (zi x1)), (2, .int (zi x2)), (3, .int (zi x3))]) X d_Disk_punchOut_4 (Nat.le_of_ble_eq_true rfl) rfl ?_
  refine x_ls (ls2 := [(0, .ref a0), (1, .int (zi x1)), (2, .int (zi x2)), (3, .int (zi x3)), (4, .int (zi 0)), (5, .int (zi 0))]) [2, 3, 4, 5, 1, 0] rfl ?_
  exact l_Disk_punchOut_6 X 5000 x1 x2 x3 0 0 ow pl va wr o h hR
theorem d_Disk_isPromised_0 : decode b_Disk_isPromised 0 = .ok (.aload_n 0, 1) := by decide +kernel
theorem d_Disk_isPromised_1 : decode b_Disk_isPromised 1 = .ok (.iload_n 1, 1) := by decide +kernel
theorem d_Disk_isPromised_2 : decode b_Disk_isPromised 2 = .ok (.iload_n 2, 1) := by decide +kernel
theorem d_Disk_isPromised_3 : decode b_Disk_isPromised 3 = .ok (.invokevirtual 56, 3) := by decide +kernel
theorem d_Disk_isPromised_6 : decode b_Disk_isPromised 6 = .ok (.ifCond .ge 16, 3) := by decide +kernel
theorem d_Disk_isPromised_9 : decode b_Disk_isPromised 9 = .ok (.aload_n 0, 1) := by decide +kernel
theorem d_Disk_isPromised_10 : decode b_Disk_isPromised 10 = .ok (.iload_n 1, 1) := by decide +kernel
theorem d_Disk_isPromised_11 : decode b_Disk_isPromised 11 = .ok (.iload_n 2, 1) := by decide +kernel
theorem d_Disk_isPromised_12 : decode b_Disk_isPromised 12 = .ok (.invokevirtual 60, 3) := by decide +kernel
theorem d_Disk_isPromised_15 : decode b_Disk_isPromised 15 = .ok (.ifCond .lt 7, 3) := by decide +kernel
theorem d_Disk_isPromised_18 : decode b_Disk_isPromised 18 = .ok (.iconst 1, 1) := by decide +kernel
theorem d_Disk_isPromised_19 : decode b_Disk_isPromised 19 = .ok (.goto 4, 3) := by decide +kernel
theorem d_Disk_isPromised_22 : decode b_Disk_isPromised 22 = .ok (.iconst 0, 1) := by decide +kernel
theorem d_Disk_isPromised_23 : decode b_Disk_isPromised 23 = .ok (.ireturn, 1) := by decide +kernel
def m_Disk_isPromised (x1 : Int) (x2 : Int) (pl : Int → Int) (va : Int → Int) : Option (Int) :=
  bnd (m_Disk_blockAt x1 x2 pl) (fun r1 => clt r1 0 (bnd (m_Disk_valueAt x1 x2 va) (fun r3 => clt r3 0 (some (0)) (some (1)))) (some (0)))
set_option maxHeartbeats 4000000 in
set_option maxRecDepth 100000 in
theorem c_Disk_isPromised (l : Launch) (D : va_G) (cI cB : ClassId) (a0 a1 a2 a3 a4 a5 a6 a7 a8 a9 : Nat) (ow : Int → Int) (bt : Int → Int) (ki : Int → Int) (pl : Int → Int) (va : Int → Int) (wr : Int → Int) (rm : Int) (rs : Int → Int) (rz : Int → Int) (x1 : Int) (x2 : Int) {o : Int} (h : m_Disk_isPromised x1 x2 pl va = some o) : Ct l D cI cB y_Disk_isPromised b_Disk_isPromised 3 (some .boolean) { frames := 1, cells := 0, slots := 0, locals := 23 } [.ref a0, .int (zi x1), .int (zi x2)] (w_Disk cI cB a0 a1 a2 a3 a4 a5 a6 a7 a8 a9 ow bt ki pl va wr rm rs rz) (w_Disk cI cB a0 a1 a2 a3 a4 a5 a6 a7 a8 a9 ow bt ki pl va wr rm rs rz) (some (.int (zi o))) := by
  refine Ct.start (by decide) (Nat.le_of_ble_eq_true rfl) (fun G X hR => ?_)
  refine x_ls (ls2 := [(0, .ref a0), (1, .int (zi x1)), (2, .int (zi x2))]) [0, 1, 2] rfl ?_
  unfold m_Disk_isPromised at h
  refine x_aload_n (pc := 0) X d_Disk_isPromised_0 0 rfl rfl ?_
  refine x_iload_n (pc := 1) X d_Disk_isPromised_1 1 rfl rfl ?_
  refine x_iload_n (pc := 2) X d_Disk_isPromised_2 2 rfl rfl ?_
  obtain ⟨r1, h2, h⟩ := bnd_e h
  refine x_callV (pc := 3) (As := [.int (zi x1), .int (zi x2)]) (rest := []) (w2 := (w_Disk cI cB a0 a1 a2 a3 a4 a5 a6 a7 a8 a9 ow bt ki pl va wr rm rs rz)) X d_Disk_isPromised_3 lk_Disk_56 mv_Disk_blockAt (c_Disk_blockAt l D cI cB a0 a1 a2 a3 a4 a5 a6 a7 a8 a9 ow bt ki pl va wr rm rs rz x1 x2 h2) ⟨(Nat.le_of_ble_eq_true rfl), (Nat.le_of_ble_eq_true rfl), (Nat.le_of_ble_eq_true rfl), (Nat.le_of_ble_eq_true rfl)⟩ 0 rfl rfl [0, 1, 2, 3, 4, 5, 6, 7, 8, 9] rfl rfl rfl (Up.same rfl) rfl rfl (Nat.le_of_ble_eq_true rfl) ?_
  refine x_ifge (pc := 6) (tgt := 22) X d_Disk_isPromised_6 rfl h (fun h => ?_) (fun h => ?_)
  · skip
    refine x_iconst (pc := 22) X d_Disk_isPromised_22  ?_
    cases h
    exact x_zret (pc := 23) X hR d_Disk_isPromised_23 (Or.inl rfl)
  · skip
    refine x_aload_n (pc := 9) X d_Disk_isPromised_9 0 rfl rfl ?_
    refine x_iload_n (pc := 10) X d_Disk_isPromised_10 1 rfl rfl ?_
    refine x_iload_n (pc := 11) X d_Disk_isPromised_11 2 rfl rfl ?_
    obtain ⟨r3, h4, h⟩ := bnd_e h
    refine x_callV (pc := 12) (As := [.int (zi x1), .int (zi x2)]) (rest := []) (w2 := (w_Disk cI cB a0 a1 a2 a3 a4 a5 a6 a7 a8 a9 ow bt ki pl va wr rm rs rz)) X d_Disk_isPromised_12 lk_Disk_60 mv_Disk_valueAt (c_Disk_valueAt l D cI cB a0 a1 a2 a3 a4 a5 a6 a7 a8 a9 ow bt ki pl va wr rm rs rz x1 x2 h4) ⟨(Nat.le_of_ble_eq_true rfl), (Nat.le_of_ble_eq_true rfl), (Nat.le_of_ble_eq_true rfl), (Nat.le_of_ble_eq_true rfl)⟩ 0 rfl rfl [0, 1, 2, 3, 4, 5, 6, 7, 8, 9] rfl rfl rfl (Up.same rfl) rfl rfl (Nat.le_of_ble_eq_true rfl) ?_
    refine x_iflt (pc := 15) (tgt := 22) X d_Disk_isPromised_15 rfl h (fun h => ?_) (fun h => ?_)
    · skip
      refine x_iconst (pc := 22) X d_Disk_isPromised_22  ?_
      cases h
      exact x_zret (pc := 23) X hR d_Disk_isPromised_23 (Or.inl rfl)
    · skip
      refine x_iconst (pc := 18) X d_Disk_isPromised_18  ?_
      refine x_goto (pc := 19) (tgt := 23) X d_Disk_isPromised_19 rfl ?_
      cases h
      exact x_zret (pc := 23) X hR d_Disk_isPromised_23 (Or.inr rfl)
theorem d_Disk_promisedFrom_0 : decode b_Disk_promisedFrom 0 = .ok (.iconst 0, 1) := by decide +kernel
theorem d_Disk_promisedFrom_1 : decode b_Disk_promisedFrom 1 = .ok (.istore_n 3, 1) := by decide +kernel
theorem d_Disk_promisedFrom_2 : decode b_Disk_promisedFrom 2 = .ok (.iload_n 2, 1) := by decide +kernel
theorem d_Disk_promisedFrom_3 : decode b_Disk_promisedFrom 3 = .ok (.istore 4, 2) := by decide +kernel
theorem d_Disk_promisedFrom_5 : decode b_Disk_promisedFrom 5 = .ok (.iload 4, 2) := by decide +kernel
theorem d_Disk_promisedFrom_7 : decode b_Disk_promisedFrom 7 = .ok (.bipush 24, 2) := by decide +kernel
theorem d_Disk_promisedFrom_9 : decode b_Disk_promisedFrom 9 = .ok (.if_icmp .ge 22, 3) := by decide +kernel
theorem d_Disk_promisedFrom_12 : decode b_Disk_promisedFrom 12 = .ok (.aload_n 0, 1) := by decide +kernel
theorem d_Disk_promisedFrom_13 : decode b_Disk_promisedFrom 13 = .ok (.iload_n 1, 1) := by decide +kernel
theorem d_Disk_promisedFrom_14 : decode b_Disk_promisedFrom 14 = .ok (.iload 4, 2) := by decide +kernel
theorem d_Disk_promisedFrom_16 : decode b_Disk_promisedFrom 16 = .ok (.invokevirtual 79, 3) := by decide +kernel
theorem d_Disk_promisedFrom_19 : decode b_Disk_promisedFrom 19 = .ok (.ifCond .eq 12, 3) := by decide +kernel
theorem d_Disk_promisedFrom_22 : decode b_Disk_promisedFrom 22 = .ok (.iinc 3 1, 3) := by decide +kernel
theorem d_Disk_promisedFrom_25 : decode b_Disk_promisedFrom 25 = .ok (.iinc 4 1, 3) := by decide +kernel
theorem d_Disk_promisedFrom_28 : decode b_Disk_promisedFrom 28 = .ok (.goto (-23), 3) := by decide +kernel
theorem d_Disk_promisedFrom_31 : decode b_Disk_promisedFrom 31 = .ok (.iload_n 3, 1) := by decide +kernel
theorem d_Disk_promisedFrom_32 : decode b_Disk_promisedFrom 32 = .ok (.ireturn, 1) := by decide +kernel
def m_Disk_promisedFrom_5 : Nat → Int → Int → Int → (Int → Int) → (Int → Int) → Option (Int)
  | 0, _, _, _, _, _ => none
  | fuel + 1, v1, v3, v4, pl, va =>
  clt v4 24 (bnd (m_Disk_isPromised v1 v4 pl va) (fun r1 => ceq r1 0 (some (v3)) (m_Disk_promisedFrom_5 fuel v1 (v3 + 1) (v4 + 1) pl va))) (some (v3))
def m_Disk_promisedFrom (x1 : Int) (x2 : Int) (pl : Int → Int) (va : Int → Int) : Option (Int) :=
  m_Disk_promisedFrom_5 5000 x1 0 x2 pl va
set_option maxHeartbeats 4000000 in
set_option maxRecDepth 100000 in
theorem l_Disk_promisedFrom_5 {G : GT} {l : Launch} {D : va_G} {cI cB : ClassId} {a0 a1 a2 a3 a4 a5 a6 a7 a8 a9 : Nat} {ow : Int → Int} {bt : Int → Int} {ki : Int → Int} {wr : Int → Int} {rm : Int} {rs : Int → Int} {rz : Int → Int} (X : Cx G l D cI cB b_Disk_promisedFrom y_Disk_promisedFrom.cls 5 { frames := 2, cells := 0, slots := 0, locals := 45 }) : ∀ (fuel : Nat) (v1 : Int) (v3 : Int) (v4 : Int) (pl : Int → Int) (va : Int → Int) (o : Int), m_Disk_promisedFrom_5 fuel v1 v3 v4 pl va = some o → Rt G (some .int) (some (.int (zi o))) (w_Disk cI cB a0 a1 a2 a3 a4 a5 a6 a7 a8 a9 ow bt ki pl va wr rm rs rz) → Wx G 0 0 5 [(0, .ref a0), (1, .int (zi v1)), (3, .int (zi v3)), (4, .int (zi v4))] [] (w_Disk cI cB a0 a1 a2 a3 a4 a5 a6 a7 a8 a9 ow bt ki pl va wr rm rs rz) := by
  intro fuel
  induction fuel with
  | zero =>
    intro v1 v3 v4 pl va o h
    exact absurd h (by simp [m_Disk_promisedFrom_5])
  | succ fuel ih =>
    intro v1 v3 v4 pl va o h hR
    rw [m_Disk_promisedFrom_5] at h
    refine x_iload (pc := 5) X d_Disk_promisedFrom_5 3 rfl ?_
    refine x_bipush (pc := 7) (v := 24) X d_Disk_promisedFrom_7 rfl ?_
    refine x_icmpge (pc := 9) (tgt := 31) X d_Disk_promisedFrom_9 rfl h (fun h => ?_) (fun h => ?_)
    · skip
      refine x_iload_n (pc := 31) X d_Disk_promisedFrom_31 2 rfl rfl ?_
      cases h
      exact x_iret (pc := 32) X hR d_Disk_promisedFrom_32
    · skip
      refine x_aload_n (pc := 12) X d_Disk_promisedFrom_12 0 rfl rfl ?_
      refine x_iload_n (pc := 13) X d_Disk_promisedFrom_13 1 rfl rfl ?_
      refine x_iload (pc := 14) X d_Disk_promisedFrom_14 3 rfl ?_
      obtain ⟨r1, h2, h⟩ := bnd_e h
      refine x_callV (pc := 16) (As := [.int (zi v1), .int (zi v4)]) (rest := []) (w2 := (w_Disk cI cB a0 a1 a2 a3 a4 a5 a6 a7 a8 a9 ow bt ki pl va wr rm rs rz)) X d_Disk_promisedFrom_16 lk_Disk_79 mv_Disk_isPromised (c_Disk_isPromised l D cI cB a0 a1 a2 a3 a4 a5 a6 a7 a8 a9 ow bt ki pl va wr rm rs rz v1 v4 h2) ⟨(Nat.le_of_ble_eq_true rfl), (Nat.le_of_ble_eq_true rfl), (Nat.le_of_ble_eq_true rfl), (Nat.le_of_ble_eq_true rfl)⟩ 0 rfl rfl [0, 1, 2, 3, 4, 5, 6, 7, 8, 9] rfl rfl rfl (Up.same rfl) rfl rfl (Nat.le_of_ble_eq_true rfl) ?_
      refine x_ifeq (pc := 19) (tgt := 31) X d_Disk_promisedFrom_19 rfl h (fun h => ?_) (fun h => ?_)
      · skip
        refine x_iload_n (pc := 31) X d_Disk_promisedFrom_31 2 rfl rfl ?_
        cases h
        exact x_iret (pc := 32) X hR d_Disk_promisedFrom_32
      · skip
        refine x_iinc (pc := 22) (ls2 := [(3, .int (zi (v3 + 1))), (0, .ref a0), (1, .int (zi v1)), (4, .int (zi v4))]) X d_Disk_promisedFrom_22 2 (Nat.le_of_ble_eq_true rfl) rfl rfl ?_
        refine x_iinc (pc := 25) (ls2 := [(4, .int (zi (v4 + 1))), (3, .int (zi (v3 + 1))), (0, .ref a0), (1, .int (zi v1))]) X d_Disk_promisedFrom_25 3 (Nat.le_of_ble_eq_true rfl) rfl rfl ?_
        refine x_goto (pc := 28) (tgt := 5) X d_Disk_promisedFrom_28 rfl ?_
        refine x_ls (ls2 := [(0, .ref a0), (1, .int (zi v1)), (3, .int (zi (v3 + 1))), (4, .int (zi (v4 + 1)))]) [2, 3, 1, 0] rfl ?_
        exact ih v1 (v3 + 1) (v4 + 1) pl va o h hR
set_option maxHeartbeats 4000000 in
set_option maxRecDepth 100000 in
theorem c_Disk_promisedFrom (l : Launch) (D : va_G) (cI cB : ClassId) (a0 a1 a2 a3 a4 a5 a6 a7 a8 a9 : Nat) (ow : Int → Int) (bt : Int → Int) (ki : Int → Int) (pl : Int → Int) (va : Int → Int) (wr : Int → Int) (rm : Int) (rs : Int → Int) (rz : Int → Int) (x1 : Int) (x2 : Int) {o : Int} (h : m_Disk_promisedFrom x1 x2 pl va = some o) : Ct l D cI cB y_Disk_promisedFrom b_Disk_promisedFrom 5 (some .int) { frames := 2, cells := 0, slots := 0, locals := 45 } [.ref a0, .int (zi x1), .int (zi x2)] (w_Disk cI cB a0 a1 a2 a3 a4 a5 a6 a7 a8 a9 ow bt ki pl va wr rm rs rz) (w_Disk cI cB a0 a1 a2 a3 a4 a5 a6 a7 a8 a9 ow bt ki pl va wr rm rs rz) (some (.int (zi o))) := by
  refine Ct.start (by decide) (Nat.le_of_ble_eq_true rfl) (fun G X hR => ?_)
  refine x_ls (ls2 := [(0, .ref a0), (1, .int (zi x1)), (2, .int (zi x2))]) [0, 1, 2] rfl ?_
  unfold m_Disk_promisedFrom at h
  refine x_iconst (pc := 0) X d_Disk_promisedFrom_0  ?_
  refine x_istore_n (pc := 1) (ls2 := [(3, .int (zi 0)), (0, .ref a0), (1, .int (zi x1)), (2, .int (zi x2))]) X d_Disk_promisedFrom_1 rfl (Nat.le_of_ble_eq_true rfl) rfl ?_
  refine x_iload_n (pc := 2) X d_Disk_promisedFrom_2 3 rfl rfl ?_
  refine x_istore (pc := 3) (ls2 := [(4, .int (zi x2)), (3, .int (zi 0)), (0, .ref a0), (1, .int (zi x1)), (2, .int (zi x2))]) X d_Disk_promisedFrom_3 (Nat.le_of_ble_eq_true rfl) rfl ?_
  refine x_ls (ls2 := [(0, .ref a0), (1, .int (zi x1)), (3, .int (zi 0)), (4, .int (zi x2))]) [2, 3, 1, 0] rfl ?_
  exact l_Disk_promisedFrom_5 X 5000 x1 0 x2 pl va o h hR
theorem d_Disk_kindAt_0 : decode b_Disk_kindAt 0 = .ok (.iload_n 1, 1) := by decide +kernel
theorem d_Disk_kindAt_1 : decode b_Disk_kindAt 1 = .ok (.ifCond .lt 21, 3) := by decide +kernel
theorem d_Disk_kindAt_4 : decode b_Disk_kindAt 4 = .ok (.iload_n 1, 1) := by decide +kernel
theorem d_Disk_kindAt_5 : decode b_Disk_kindAt 5 = .ok (.aload_n 0, 1) := by decide +kernel
theorem d_Disk_kindAt_6 : decode b_Disk_kindAt 6 = .ok (.getfield 18, 3) := by decide +kernel
theorem d_Disk_kindAt_9 : decode b_Disk_kindAt 9 = .ok (.arraylength, 1) := by decide +kernel
theorem d_Disk_kindAt_10 : decode b_Disk_kindAt 10 = .ok (.if_icmp .ge 12, 3) := by decide +kernel
theorem d_Disk_kindAt_13 : decode b_Disk_kindAt 13 = .ok (.aload_n 0, 1) := by decide +kernel
theorem d_Disk_kindAt_14 : decode b_Disk_kindAt 14 = .ok (.getfield 18, 3) := by decide +kernel
theorem d_Disk_kindAt_17 : decode b_Disk_kindAt 17 = .ok (.iload_n 1, 1) := by decide +kernel
theorem d_Disk_kindAt_18 : decode b_Disk_kindAt 18 = .ok (.iaload, 1) := by decide +kernel
theorem d_Disk_kindAt_19 : decode b_Disk_kindAt 19 = .ok (.goto 4, 3) := by decide +kernel
theorem d_Disk_kindAt_22 : decode b_Disk_kindAt 22 = .ok (.iconst 0, 1) := by decide +kernel
theorem d_Disk_kindAt_23 : decode b_Disk_kindAt 23 = .ok (.ireturn, 1) := by decide +kernel
def m_Disk_kindAt (x1 : Int) (ki : Int → Int) : Option (Int) :=
  clt x1 0 (some (0)) (clt x1 4 (gd (zx x1 4) (some ((ki x1)))) (some (0)))
set_option maxHeartbeats 4000000 in
set_option maxRecDepth 100000 in
theorem c_Disk_kindAt (l : Launch) (D : va_G) (cI cB : ClassId) (a0 a1 a2 a3 a4 a5 a6 a7 a8 a9 : Nat) (ow : Int → Int) (bt : Int → Int) (ki : Int → Int) (pl : Int → Int) (va : Int → Int) (wr : Int → Int) (rm : Int) (rs : Int → Int) (rz : Int → Int) (x1 : Int) {o : Int} (h : m_Disk_kindAt x1 ki = some o) : Ct l D cI cB y_Disk_kindAt b_Disk_kindAt 2 (some .int) { frames := 0, cells := 0, slots := 0, locals := 0 } [.ref a0, .int (zi x1)] (w_Disk cI cB a0 a1 a2 a3 a4 a5 a6 a7 a8 a9 ow bt ki pl va wr rm rs rz) (w_Disk cI cB a0 a1 a2 a3 a4 a5 a6 a7 a8 a9 ow bt ki pl va wr rm rs rz) (some (.int (zi o))) := by
  refine Ct.start (by decide) (Nat.le_of_ble_eq_true rfl) (fun G X hR => ?_)
  refine x_ls (ls2 := [(0, .ref a0), (1, .int (zi x1))]) [0, 1] rfl ?_
  unfold m_Disk_kindAt at h
  refine x_iload_n (pc := 0) X d_Disk_kindAt_0 1 rfl rfl ?_
  refine x_iflt (pc := 1) (tgt := 22) X d_Disk_kindAt_1 rfl h (fun h => ?_) (fun h => ?_)
  · skip
    refine x_iconst (pc := 22) X d_Disk_kindAt_22  ?_
    cases h
    exact x_iret (pc := 23) X hR d_Disk_kindAt_23
  · skip
    refine x_iload_n (pc := 4) X d_Disk_kindAt_4 1 rfl rfl ?_
    refine x_aload_n (pc := 5) X d_Disk_kindAt_5 0 rfl rfl ?_
    refine x_get (pc := 6) X d_Disk_kindAt_6 0 rfl fl_Disk_18 rfl ?_
    refine x_alen (pc := 9) (M := 4) X d_Disk_kindAt_9 3 rfl rfl ?_
    refine x_icmpge (pc := 10) (tgt := 22) X d_Disk_kindAt_10 rfl h (fun h => ?_) (fun h => ?_)
    · skip
      refine x_iconst (pc := 22) X d_Disk_kindAt_22  ?_
      cases h
      exact x_iret (pc := 23) X hR d_Disk_kindAt_23
    · skip
      refine x_aload_n (pc := 13) X d_Disk_kindAt_13 0 rfl rfl ?_
      refine x_get (pc := 14) X d_Disk_kindAt_14 0 rfl fl_Disk_18 rfl ?_
      refine x_iload_n (pc := 17) X d_Disk_kindAt_17 1 rfl rfl ?_
      refine x_iald (pc := 18) X d_Disk_kindAt_18 3 rfl (Nat.le_of_ble_eq_true rfl) rfl h (fun h => ?_)
      refine x_goto (pc := 19) (tgt := 23) X d_Disk_kindAt_19 rfl ?_
      cases h
      exact x_iret (pc := 23) X hR d_Disk_kindAt_23
theorem d_Disk_goalOf_0 : decode b_Disk_goalOf 0 = .ok (.aload_n 0, 1) := by decide +kernel
theorem d_Disk_goalOf_1 : decode b_Disk_goalOf 1 = .ok (.iload_n 1, 1) := by decide +kernel
theorem d_Disk_goalOf_2 : decode b_Disk_goalOf 2 = .ok (.iload_n 2, 1) := by decide +kernel
theorem d_Disk_goalOf_3 : decode b_Disk_goalOf 3 = .ok (.iconst 1, 1) := by decide +kernel
theorem d_Disk_goalOf_4 : decode b_Disk_goalOf 4 = .ok (.isub, 1) := by decide +kernel
theorem d_Disk_goalOf_5 : decode b_Disk_goalOf 5 = .ok (.invokevirtual 56, 3) := by decide +kernel
theorem d_Disk_goalOf_8 : decode b_Disk_goalOf 8 = .ok (.istore_n 3, 1) := by decide +kernel
theorem d_Disk_goalOf_9 : decode b_Disk_goalOf 9 = .ok (.iload_n 3, 1) := by decide +kernel
theorem d_Disk_goalOf_10 : decode b_Disk_goalOf 10 = .ok (.ifCond .lt 17, 3) := by decide +kernel
theorem d_Disk_goalOf_13 : decode b_Disk_goalOf 13 = .ok (.iload_n 3, 1) := by decide +kernel
theorem d_Disk_goalOf_14 : decode b_Disk_goalOf 14 = .ok (.iconst 1, 1) := by decide +kernel
theorem d_Disk_goalOf_15 : decode b_Disk_goalOf 15 = .ok (.iadd, 1) := by decide +kernel
theorem d_Disk_goalOf_16 : decode b_Disk_goalOf 16 = .ok (.bipush 64, 2) := by decide +kernel
theorem d_Disk_goalOf_18 : decode b_Disk_goalOf 18 = .ok (.if_icmp .ge 9, 3) := by decide +kernel
theorem d_Disk_goalOf_21 : decode b_Disk_goalOf 21 = .ok (.iload_n 3, 1) := by decide +kernel
theorem d_Disk_goalOf_22 : decode b_Disk_goalOf 22 = .ok (.iconst 1, 1) := by decide +kernel
theorem d_Disk_goalOf_23 : decode b_Disk_goalOf 23 = .ok (.iadd, 1) := by decide +kernel
theorem d_Disk_goalOf_24 : decode b_Disk_goalOf 24 = .ok (.goto 4, 3) := by decide +kernel
theorem d_Disk_goalOf_27 : decode b_Disk_goalOf 27 = .ok (.iconst (-1), 1) := by decide +kernel
theorem d_Disk_goalOf_28 : decode b_Disk_goalOf 28 = .ok (.ireturn, 1) := by decide +kernel
def m_Disk_goalOf (x1 : Int) (x2 : Int) (pl : Int → Int) : Option (Int) :=
  bnd (m_Disk_blockAt x1 (x2 - 1) pl) (fun r1 => clt r1 0 (some ((-1))) (clt (r1 + 1) 64 (some ((r1 + 1))) (some ((-1)))))
set_option maxHeartbeats 4000000 in
set_option maxRecDepth 100000 in
theorem c_Disk_goalOf (l : Launch) (D : va_G) (cI cB : ClassId) (a0 a1 a2 a3 a4 a5 a6 a7 a8 a9 : Nat) (ow : Int → Int) (bt : Int → Int) (ki : Int → Int) (pl : Int → Int) (va : Int → Int) (wr : Int → Int) (rm : Int) (rs : Int → Int) (rz : Int → Int) (x1 : Int) (x2 : Int) {o : Int} (h : m_Disk_goalOf x1 x2 pl = some o) : Ct l D cI cB y_Disk_goalOf b_Disk_goalOf 4 (some .int) { frames := 1, cells := 0, slots := 0, locals := 23 } [.ref a0, .int (zi x1), .int (zi x2)] (w_Disk cI cB a0 a1 a2 a3 a4 a5 a6 a7 a8 a9 ow bt ki pl va wr rm rs rz) (w_Disk cI cB a0 a1 a2 a3 a4 a5 a6 a7 a8 a9 ow bt ki pl va wr rm rs rz) (some (.int (zi o))) := by
  refine Ct.start (by decide) (Nat.le_of_ble_eq_true rfl) (fun G X hR => ?_)
  refine x_ls (ls2 := [(0, .ref a0), (1, .int (zi x1)), (2, .int (zi x2))]) [0, 1, 2] rfl ?_
  unfold m_Disk_goalOf at h
  refine x_aload_n (pc := 0) X d_Disk_goalOf_0 0 rfl rfl ?_
  refine x_iload_n (pc := 1) X d_Disk_goalOf_1 1 rfl rfl ?_
  refine x_iload_n (pc := 2) X d_Disk_goalOf_2 2 rfl rfl ?_
  refine x_iconst (pc := 3) X d_Disk_goalOf_3  ?_
  refine x_isub (pc := 4) X d_Disk_goalOf_4  ?_
  obtain ⟨r1, h2, h⟩ := bnd_e h
  refine x_callV (pc := 5) (As := [.int (zi x1), .int (zi (x2 - 1))]) (rest := []) (w2 := (w_Disk cI cB a0 a1 a2 a3 a4 a5 a6 a7 a8 a9 ow bt ki pl va wr rm rs rz)) X d_Disk_goalOf_5 lk_Disk_56 mv_Disk_blockAt (c_Disk_blockAt l D cI cB a0 a1 a2 a3 a4 a5 a6 a7 a8 a9 ow bt ki pl va wr rm rs rz x1 (x2 - 1) h2) ⟨(Nat.le_of_ble_eq_true rfl), (Nat.le_of_ble_eq_true rfl), (Nat.le_of_ble_eq_true rfl), (Nat.le_of_ble_eq_true rfl)⟩ 0 rfl rfl [0, 1, 2, 3, 4, 5, 6, 7, 8, 9] rfl rfl rfl (Up.same rfl) rfl rfl (Nat.le_of_ble_eq_true rfl) ?_
  refine x_istore_n (pc := 8) (ls2 := [(3, .int (zi r1)), (0, .ref a0), (1, .int (zi x1)), (2, .int (zi x2))]) X d_Disk_goalOf_8 rfl (Nat.le_of_ble_eq_true rfl) rfl ?_
  refine x_iload_n (pc := 9) X d_Disk_goalOf_9 0 rfl rfl ?_
  refine x_iflt (pc := 10) (tgt := 27) X d_Disk_goalOf_10 rfl h (fun h => ?_) (fun h => ?_)
  · skip
    refine x_iconst (pc := 27) X d_Disk_goalOf_27  ?_
    cases h
    exact x_iret (pc := 28) X hR d_Disk_goalOf_28
  · skip
    refine x_iload_n (pc := 13) X d_Disk_goalOf_13 0 rfl rfl ?_
    refine x_iconst (pc := 14) X d_Disk_goalOf_14  ?_
    refine x_iadd (pc := 15) X d_Disk_goalOf_15  ?_
    refine x_bipush (pc := 16) (v := 64) X d_Disk_goalOf_16 rfl ?_
    refine x_icmpge (pc := 18) (tgt := 27) X d_Disk_goalOf_18 rfl h (fun h => ?_) (fun h => ?_)
    · skip
      refine x_iconst (pc := 27) X d_Disk_goalOf_27  ?_
      cases h
      exact x_iret (pc := 28) X hR d_Disk_goalOf_28
    · skip
      refine x_iload_n (pc := 21) X d_Disk_goalOf_21 0 rfl rfl ?_
      refine x_iconst (pc := 22) X d_Disk_goalOf_22  ?_
      refine x_iadd (pc := 23) X d_Disk_goalOf_23  ?_
      refine x_goto (pc := 24) (tgt := 28) X d_Disk_goalOf_24 rfl ?_
      cases h
      exact x_iret (pc := 28) X hR d_Disk_goalOf_28
theorem d_Disk_putPiece_0 : decode b_Disk_putPiece 0 = .ok (.iload_n 3, 1) := by decide +kernel
theorem d_Disk_putPiece_1 : decode b_Disk_putPiece 1 = .ok (.iconst 1, 1) := by decide +kernel
theorem d_Disk_putPiece_2 : decode b_Disk_putPiece 2 = .ok (.if_icmp .ge 5, 3) := by decide +kernel
theorem d_Disk_putPiece_5 : decode b_Disk_putPiece 5 = .ok (.iconst 0, 1) := by decide +kernel
theorem d_Disk_putPiece_6 : decode b_Disk_putPiece 6 = .ok (.ireturn, 1) := by decide +kernel
theorem d_Disk_putPiece_7 : decode b_Disk_putPiece 7 = .ok (.aload_n 0, 1) := by decide +kernel
theorem d_Disk_putPiece_8 : decode b_Disk_putPiece 8 = .ok (.getfield 34, 3) := by decide +kernel
theorem d_Disk_putPiece_11 : decode b_Disk_putPiece 11 = .ok (.aload_n 0, 1) := by decide +kernel
theorem d_Disk_putPiece_12 : decode b_Disk_putPiece 12 = .ok (.getfield 9, 3) := by decide +kernel
theorem d_Disk_putPiece_15 : decode b_Disk_putPiece 15 = .ok (.invokevirtual 44, 3) := by decide +kernel
theorem d_Disk_putPiece_18 : decode b_Disk_putPiece 18 = .ok (.aload_n 0, 1) := by decide +kernel
theorem d_Disk_putPiece_19 : decode b_Disk_putPiece 19 = .ok (.getfield 34, 3) := by decide +kernel
theorem d_Disk_putPiece_22 : decode b_Disk_putPiece 22 = .ok (.iload_n 3, 1) := by decide +kernel
theorem d_Disk_putPiece_23 : decode b_Disk_putPiece 23 = .ok (.invokevirtual 119, 3) := by decide +kernel
theorem d_Disk_putPiece_26 : decode b_Disk_putPiece 26 = .ok (.ifCond .lt 7, 3) := by decide +kernel
theorem d_Disk_putPiece_29 : decode b_Disk_putPiece 29 = .ok (.iconst 1, 1) := by decide +kernel
theorem d_Disk_putPiece_30 : decode b_Disk_putPiece 30 = .ok (.goto 4, 3) := by decide +kernel
theorem d_Disk_putPiece_33 : decode b_Disk_putPiece 33 = .ok (.iconst 0, 1) := by decide +kernel
theorem d_Disk_putPiece_34 : decode b_Disk_putPiece 34 = .ok (.istore 4, 2) := by decide +kernel
theorem d_Disk_putPiece_36 : decode b_Disk_putPiece 36 = .ok (.iload 4, 2) := by decide +kernel
theorem d_Disk_putPiece_38 : decode b_Disk_putPiece 38 = .ok (.ifCond .eq 7, 3) := by decide +kernel
theorem d_Disk_putPiece_41 : decode b_Disk_putPiece 41 = .ok (.iload_n 3, 1) := by decide +kernel
theorem d_Disk_putPiece_42 : decode b_Disk_putPiece 42 = .ok (.goto 17, 3) := by decide +kernel
theorem d_Disk_putPiece_45 : decode b_Disk_putPiece 45 = .ok (.aload_n 0, 1) := by decide +kernel
theorem d_Disk_putPiece_46 : decode b_Disk_putPiece 46 = .ok (.getfield 34, 3) := by decide +kernel
theorem d_Disk_putPiece_49 : decode b_Disk_putPiece 49 = .ok (.aload_n 0, 1) := by decide +kernel
theorem d_Disk_putPiece_50 : decode b_Disk_putPiece 50 = .ok (.getfield 34, 3) := by decide +kernel
theorem d_Disk_putPiece_53 : decode b_Disk_putPiece 53 = .ok (.invokevirtual 48, 3) := by decide +kernel
theorem d_Disk_putPiece_56 : decode b_Disk_putPiece 56 = .ok (.invokevirtual 52, 3) := by decide +kernel
theorem d_Disk_putPiece_59 : decode b_Disk_putPiece 59 = .ok (.istore 5, 2) := by decide +kernel
theorem d_Disk_putPiece_61 : decode b_Disk_putPiece 61 = .ok (.iload 4, 2) := by decide +kernel
theorem d_Disk_putPiece_63 : decode b_Disk_putPiece 63 = .ok (.ifCond .eq 25, 3) := by decide +kernel
theorem d_Disk_putPiece_66 : decode b_Disk_putPiece 66 = .ok (.aload_n 0, 1) := by decide +kernel
theorem d_Disk_putPiece_67 : decode b_Disk_putPiece 67 = .ok (.getfield 34, 3) := by decide +kernel
theorem d_Disk_putPiece_70 : decode b_Disk_putPiece 70 = .ok (.aload_n 0, 1) := by decide +kernel
theorem d_Disk_putPiece_71 : decode b_Disk_putPiece 71 = .ok (.iload_n 1, 1) := by decide +kernel
theorem d_Disk_putPiece_72 : decode b_Disk_putPiece 72 = .ok (.invokevirtual 122, 3) := by decide +kernel
theorem d_Disk_putPiece_75 : decode b_Disk_putPiece 75 = .ok (.aload_n 0, 1) := by decide +kernel
theorem d_Disk_putPiece_76 : decode b_Disk_putPiece 76 = .ok (.iload_n 1, 1) := by decide +kernel
theorem d_Disk_putPiece_77 : decode b_Disk_putPiece 77 = .ok (.iload_n 2, 1) := by decide +kernel
theorem d_Disk_putPiece_78 : decode b_Disk_putPiece 78 = .ok (.invokevirtual 125, 3) := by decide +kernel
theorem d_Disk_putPiece_81 : decode b_Disk_putPiece 81 = .ok (.iload_n 3, 1) := by decide +kernel
theorem d_Disk_putPiece_82 : decode b_Disk_putPiece 82 = .ok (.invokevirtual 128, 3) := by decide +kernel
theorem d_Disk_putPiece_85 : decode b_Disk_putPiece 85 = .ok (.goto 17, 3) := by decide +kernel
theorem d_Disk_putPiece_88 : decode b_Disk_putPiece 88 = .ok (.aload_n 0, 1) := by decide +kernel
theorem d_Disk_putPiece_89 : decode b_Disk_putPiece 89 = .ok (.getfield 34, 3) := by decide +kernel
theorem d_Disk_putPiece_92 : decode b_Disk_putPiece 92 = .ok (.aload_n 0, 1) := by decide +kernel
theorem d_Disk_putPiece_93 : decode b_Disk_putPiece 93 = .ok (.getfield 34, 3) := by decide +kernel
theorem d_Disk_putPiece_96 : decode b_Disk_putPiece 96 = .ok (.invokevirtual 48, 3) := by decide +kernel
theorem d_Disk_putPiece_99 : decode b_Disk_putPiece 99 = .ok (.invokevirtual 131, 3) := by decide +kernel
theorem d_Disk_putPiece_102 : decode b_Disk_putPiece 102 = .ok (.istore 6, 2) := by decide +kernel
theorem d_Disk_putPiece_104 : decode b_Disk_putPiece 104 = .ok (.iconst 0, 1) := by decide +kernel
theorem d_Disk_putPiece_105 : decode b_Disk_putPiece 105 = .ok (.istore 7, 2) := by decide +kernel
theorem d_Disk_putPiece_107 : decode b_Disk_putPiece 107 = .ok (.iload 7, 2) := by decide +kernel
theorem d_Disk_putPiece_109 : decode b_Disk_putPiece 109 = .ok (.iload 5, 2) := by decide +kernel
theorem d_Disk_putPiece_111 : decode b_Disk_putPiece 111 = .ok (.if_icmp .ge 23, 3) := by decide +kernel
theorem d_Disk_putPiece_114 : decode b_Disk_putPiece 114 = .ok (.aload_n 0, 1) := by decide +kernel
theorem d_Disk_putPiece_115 : decode b_Disk_putPiece 115 = .ok (.iload_n 1, 1) := by decide +kernel
theorem d_Disk_putPiece_116 : decode b_Disk_putPiece 116 = .ok (.iload_n 2, 1) := by decide +kernel
theorem d_Disk_putPiece_117 : decode b_Disk_putPiece 117 = .ok (.iload 7, 2) := by decide +kernel
theorem d_Disk_putPiece_119 : decode b_Disk_putPiece 119 = .ok (.iadd, 1) := by decide +kernel
theorem d_Disk_putPiece_120 : decode b_Disk_putPiece 120 = .ok (.iload 6, 2) := by decide +kernel
theorem d_Disk_putPiece_122 : decode b_Disk_putPiece 122 = .ok (.iload 7, 2) := by decide +kernel
theorem d_Disk_putPiece_124 : decode b_Disk_putPiece 124 = .ok (.iadd, 1) := by decide +kernel
theorem d_Disk_putPiece_125 : decode b_Disk_putPiece 125 = .ok (.invokevirtual 134, 3) := by decide +kernel
theorem d_Disk_putPiece_128 : decode b_Disk_putPiece 128 = .ok (.iinc 7 1, 3) := by decide +kernel
theorem d_Disk_putPiece_131 : decode b_Disk_putPiece 131 = .ok (.goto (-24), 3) := by decide +kernel
theorem d_Disk_putPiece_134 : decode b_Disk_putPiece 134 = .ok (.iload 5, 2) := by decide +kernel
theorem d_Disk_putPiece_136 : decode b_Disk_putPiece 136 = .ok (.ireturn, 1) := by decide +kernel
def m_Disk_putPiece_107 : Nat → Int → Int → Int → Int → Int → (Int → Int) → (Int → Int) → (Int → Int) → Int → (Int → Int) → (Int → Int) → Option (Int × (Int → Int) × (Int → Int) × Int × (Int → Int) × (Int → Int))
  | 0, _, _, _, _, _, _, _, _, _, _, _ => none
  | fuel + 1, v1, v2, v5, v6, v7, ow, ki, pl, rm, rs, rz =>
  clt v7 v5 (bnd (m_Disk_place v1 (v2 + v7) (v6 + v7) ow pl) (fun r30 => m_Disk_putPiece_107 fuel v1 v2 v5 v6 (v7 + 1) r30.1 ki r30.2 rm rs rz)) (some (v5, ow, pl, rm, rs, rz))
def m_Disk_putPiece (x1 : Int) (x2 : Int) (x3 : Int) (ow : Int → Int) (ki : Int → Int) (pl : Int → Int) (rm : Int) (rs : Int → Int) (rz : Int → Int) : Option (Int × (Int → Int) × (Int → Int) × Int × (Int → Int) × (Int → Int)) :=
  clt x3 1 (some (0, ow, pl, rm, rs, rz)) (bnd (m_Runs_lookAt rm rs rz ow) (fun r1 => bnd (m_Runs_leastFor x3 r1.1 r1.2.2) (fun r3 => jn (fun (z6 : Int) (z7 : Int) (z8 : Int) (z9 : Int) (c10 : Int → Int) (c11 : Int → Int) (c12 : Int) (c13 : Int → Int) (c14 : Int → Int) => jn (fun (z16 : Int) (z17 : Int) (z18 : Int) (z19 : Int) (z20 : Int) (c21 : Int → Int) (c22 : Int → Int) (c23 : Int) (c24 : Int → Int) (c25 : Int → Int) => ceq z19 0 (bnd (m_Runs_greatest c23 c25) (fun r26 => bnd (m_Runs_startAt r26 c23 c24) (fun r28 => m_Disk_putPiece_107 5000 z16 z17 z20 r28 0 c21 ki c22 c23 c24 c25))) (bnd (m_Disk_kindAt z16 ki) (fun r32 => bnd (m_Disk_goalOf z16 z17 c22) (fun r34 => bnd (m_Runs_beginOf r32 r34 z18 c23 c24 c25) (fun r36 => m_Disk_putPiece_107 5000 z16 z17 z20 r36 0 c21 ki c22 c23 c24 c25))))) (fun j15 => ceq z9 0 (bnd (m_Runs_greatest c12 c14) (fun r40 => bnd (m_Runs_sizeAt r40 c12 c14) (fun r42 => j15 z6 z7 z8 z9 r42 c10 c11 c12 c13 c14))) (j15 z6 z7 z8 z9 z8 c10 c11 c12 c13 c14))) (fun j5 => clt r3 0 (j5 x1 x2 x3 0 ow pl r1.1 r1.2.1 r1.2.2) (j5 x1 x2 x3 1 ow pl r1.1 r1.2.1 r1.2.2)))))
set_option maxHeartbeats 4000000 in
set_option maxRecDepth 100000 in
theorem l_Disk_putPiece_107 {G : GT} {l : Launch} {D : va_G} {cI cB : ClassId} {a0 a1 a2 a3 a4 a5 a6 a7 a8 a9 : Nat} {bt : Int → Int} {va : Int → Int} {wr : Int → Int} (X : Cx G l D cI cB b_Disk_putPiece y_Disk_putPiece.cls 8 { frames := 2, cells := 0, slots := 0, locals := 52 }) : ∀ (fuel : Nat) (v1 : Int) (v2 : Int) (v5 : Int) (v6 : Int) (v7 : Int) (ow : Int → Int) (ki : Int → Int) (pl : Int → Int) (rm : Int) (rs : Int → Int) (rz : Int → Int) (o : Int × (Int → Int) × (Int → Int) × Int × (Int → Int) × (Int → Int)), m_Disk_putPiece_107 fuel v1 v2 v5 v6 v7 ow ki pl rm rs rz = some o → Rt G (some .int) (some (.int (zi o.1))) (w_Disk cI cB a0 a1 a2 a3 a4 a5 a6 a7 a8 a9 o.2.1 bt ki o.2.2.1 va wr o.2.2.2.1 o.2.2.2.2.1 o.2.2.2.2.2) → Wx G 0 0 107 [(0, .ref a0), (1, .int (zi v1)), (2, .int (zi v2)), (5, .int (zi v5)), (6, .int (zi v6)), (7, .int (zi v7))] [] (w_Disk cI cB a0 a1 a2 a3 a4 a5 a6 a7 a8 a9 ow bt ki pl va wr rm rs rz) := by
  intro fuel
  induction fuel with
  | zero =>
    intro v1 v2 v5 v6 v7 ow ki pl rm rs rz o h
    exact absurd h (by simp [m_Disk_putPiece_107])
  | succ fuel ih =>
    intro v1 v2 v5 v6 v7 ow ki pl rm rs rz o h hR
    rw [m_Disk_putPiece_107] at h
    refine x_iload (pc := 107) X d_Disk_putPiece_107 5 rfl ?_
    refine x_iload (pc := 109) X d_Disk_putPiece_109 3 rfl ?_
    refine x_icmpge (pc := 111) (tgt := 134) X d_Disk_putPiece_111 rfl h (fun h => ?_) (fun h => ?_)
    · skip
      refine x_iload (pc := 134) X d_Disk_putPiece_134 3 rfl ?_
      cases h
      exact x_iret (pc := 136) X hR d_Disk_putPiece_136
    · skip
      refine x_aload_n (pc := 114) X d_Disk_putPiece_114 0 rfl rfl ?_
      refine x_iload_n (pc := 115) X d_Disk_putPiece_115 1 rfl rfl ?_
      refine x_iload_n (pc := 116) X d_Disk_putPiece_116 2 rfl rfl ?_
      refine x_iload (pc := 117) X d_Disk_putPiece_117 5 rfl ?_
      refine x_iadd (pc := 119) X d_Disk_putPiece_119  ?_
      refine x_iload (pc := 120) X d_Disk_putPiece_120 4 rfl ?_
      refine x_iload (pc := 122) X d_Disk_putPiece_122 5 rfl ?_
      refine x_iadd (pc := 124) X d_Disk_putPiece_124  ?_
      obtain ⟨r30, h31, h⟩ := bnd_e h
      refine x_callV (pc := 125) (As := [.int (zi v1), .int (zi (v2 + v7)), .int (zi (v6 + v7))]) (rest := []) (w2 := (w_Disk cI cB a0 a1 a2 a3 a4 a5 a6 a7 a8 a9 r30.1 bt ki r30.2 va wr rm rs rz)) X d_Disk_putPiece_125 lk_Disk_134 mv_Disk_place (c_Disk_place l D cI cB a0 a1 a2 a3 a4 a5 a6 a7 a8 a9 ow bt ki pl va wr rm rs rz v1 (v2 + v7) (v6 + v7) h31) ⟨(Nat.le_of_ble_eq_true rfl), (Nat.le_of_ble_eq_true rfl), (Nat.le_of_ble_eq_true rfl), (Nat.le_of_ble_eq_true rfl)⟩ 0 rfl rfl [0, 1, 2, 3, 4, 5, 6, 7, 8, 9] rfl rfl rfl (Up.of [] [] rfl rfl rfl 10 rfl (by decide +kernel)) rfl rfl (Nat.le_of_ble_eq_true rfl) ?_
      refine x_iinc (pc := 128) (ls2 := [(7, .int (zi (v7 + 1))), (0, .ref a0), (1, .int (zi v1)), (2, .int (zi v2)), (5, .int (zi v5)), (6, .int (zi v6))]) X d_Disk_putPiece_128 5 (Nat.le_of_ble_eq_true rfl) rfl rfl ?_
      refine x_goto (pc := 131) (tgt := 107) X d_Disk_putPiece_131 rfl ?_
      refine x_ls (ls2 := [(0, .ref a0), (1, .int (zi v1)), (2, .int (zi v2)), (5, .int (zi v5)), (6, .int (zi v6)), (7, .int (zi (v7 + 1)))]) [1, 2, 3, 4, 5, 0] rfl ?_
      exact ih v1 v2 v5 v6 (v7 + 1) r30.1 ki r30.2 rm rs rz o h hR
set_option maxHeartbeats 4000000 in
set_option maxRecDepth 100000 in
theorem c_Disk_putPiece (l : Launch) (D : va_G) (cI cB : ClassId) (a0 a1 a2 a3 a4 a5 a6 a7 a8 a9 : Nat) (ow : Int → Int) (bt : Int → Int) (ki : Int → Int) (pl : Int → Int) (va : Int → Int) (wr : Int → Int) (rm : Int) (rs : Int → Int) (rz : Int → Int) (x1 : Int) (x2 : Int) (x3 : Int) {o : Int × (Int → Int) × (Int → Int) × Int × (Int → Int) × (Int → Int)} (h : m_Disk_putPiece x1 x2 x3 ow ki pl rm rs rz = some o) : Ct l D cI cB y_Disk_putPiece b_Disk_putPiece 8 (some .int) { frames := 2, cells := 0, slots := 0, locals := 52 } [.ref a0, .int (zi x1), .int (zi x2), .int (zi x3)] (w_Disk cI cB a0 a1 a2 a3 a4 a5 a6 a7 a8 a9 ow bt ki pl va wr rm rs rz) (w_Disk cI cB a0 a1 a2 a3 a4 a5 a6 a7 a8 a9 o.2.1 bt ki o.2.2.1 va wr o.2.2.2.1 o.2.2.2.2.1 o.2.2.2.2.2) (some (.int (zi o.1))) := by
  refine Ct.start (by decide) (Nat.le_of_ble_eq_true rfl) (fun G X hR => ?_)
  refine x_ls (ls2 := [(0, .ref a0), (1, .int (zi x1)), (2, .int (zi x2)), (3, .int (zi x3))]) [0, 1, 2, 3] rfl ?_
  unfold m_Disk_putPiece at h
  refine x_iload_n (pc := 0) X d_Disk_putPiece_0 3 rfl rfl ?_
  refine x_iconst (pc := 1) X d_Disk_putPiece_1  ?_
  refine x_icmpge (pc := 2) (tgt := 7) X d_Disk_putPiece_2 rfl h (fun h => ?_) (fun h => ?_)
  · skip
    refine x_aload_n (pc := 7) X d_Disk_putPiece_7 0 rfl rfl ?_
    refine x_get (pc := 8) X d_Disk_putPiece_8 0 rfl fl_Disk_34 rfl ?_
    refine x_aload_n (pc := 11) X d_Disk_putPiece_11 0 rfl rfl ?_
    refine x_get (pc := 12) X d_Disk_putPiece_12 0 rfl fl_Disk_9 rfl ?_
    obtain ⟨r1, h2, h⟩ := bnd_e h
    refine x_callV (pc := 15) (As := [.ref a1]) (rest := []) (w2 := (w_Disk cI cB a0 a1 a2 a3 a4 a5 a6 a7 a8 a9 ow bt ki pl va wr r1.1 r1.2.1 r1.2.2)) X d_Disk_putPiece_15 lk_Disk_44 mv_Runs_lookAt (c_Runs_lookAt l D cI cB a7 a8 a9 a1 rm rs rz ow h2) ⟨(Nat.le_of_ble_eq_true rfl), (Nat.le_of_ble_eq_true rfl), (Nat.le_of_ble_eq_true rfl), (Nat.le_of_ble_eq_true rfl)⟩ 7 rfl rfl [7, 8, 9, 1] rfl rfl rfl (Up.of [0, 2, 3, 4, 5, 6] [(a0, .inr (0, [.ref a1, .ref a2, .ref a3, .ref a4, .ref a5, .ref a6, .ref a7])), (a2, zA cI 64 bt), (a3, zA cI 4 ki), (a4, zA cI 96 pl), (a5, zA cI 96 va), (a6, zA cB 96 wr)] rfl rfl rfl 10 rfl (by decide +kernel)) rfl rfl (Nat.le_of_ble_eq_true rfl) ?_
    refine x_aload_n (pc := 18) X d_Disk_putPiece_18 0 rfl rfl ?_
    refine x_get (pc := 19) X d_Disk_putPiece_19 0 rfl fl_Disk_34 rfl ?_
    refine x_iload_n (pc := 22) X d_Disk_putPiece_22 3 rfl rfl ?_
    obtain ⟨r3, h4, h⟩ := bnd_e h
    refine x_callV (pc := 23) (As := [.int (zi x3)]) (rest := []) (w2 := (w_Disk cI cB a0 a1 a2 a3 a4 a5 a6 a7 a8 a9 ow bt ki pl va wr r1.1 r1.2.1 r1.2.2)) X d_Disk_putPiece_23 lk_Disk_119 mv_Runs_leastFor (c_Runs_leastFor l D cI cB a7 a8 a9 r1.1 r1.2.1 r1.2.2 x3 h4) ⟨(Nat.le_of_ble_eq_true rfl), (Nat.le_of_ble_eq_true rfl), (Nat.le_of_ble_eq_true rfl), (Nat.le_of_ble_eq_true rfl)⟩ 7 rfl rfl [7, 8, 9] rfl rfl rfl (Up.same rfl) rfl rfl (Nat.le_of_ble_eq_true rfl) ?_
    obtain ⟨j5, hj44, h⟩ := jn_e h
    have J45 : ∀ (z6 : Int) (z7 : Int) (z8 : Int) (z9 : Int) (c10 : Int → Int) (c11 : Int → Int) (c12 : Int) (c13 : Int → Int) (c14 : Int → Int), j5 z6 z7 z8 z9 c10 c11 c12 c13 c14 = some o → Wx G 0 0 34 [(0, .ref a0), (1, .int (zi z6)), (2, .int (zi z7)), (3, .int (zi z8))] [.int (zi z9)] (w_Disk cI cB a0 a1 a2 a3 a4 a5 a6 a7 a8 a9 c10 bt ki c11 va wr c12 c13 c14) := by
      intro z6 z7 z8 z9 c10 c11 c12 c13 c14 h
      rw [hj44] at h
      (try dsimp only at h)
      refine x_istore (pc := 34) (ls2 := [(4, .int (zi z9)), (0, .ref a0), (1, .int (zi z6)), (2, .int (zi z7)), (3, .int (zi z8))]) X d_Disk_putPiece_34 (Nat.le_of_ble_eq_true rfl) rfl ?_
      refine x_iload (pc := 36) X d_Disk_putPiece_36 0 rfl ?_
      obtain ⟨j15, hj38, h⟩ := jn_e h
      have J39 : ∀ (z16 : Int) (z17 : Int) (z18 : Int) (z19 : Int) (z20 : Int) (c21 : Int → Int) (c22 : Int → Int) (c23 : Int) (c24 : Int → Int) (c25 : Int → Int), j15 z16 z17 z18 z19 z20 c21 c22 c23 c24 c25 = some o → Wx G 0 0 59 [(0, .ref a0), (1, .int (zi z16)), (2, .int (zi z17)), (3, .int (zi z18)), (4, .int (zi z19))] [.int (zi z20)] (w_Disk cI cB a0 a1 a2 a3 a4 a5 a6 a7 a8 a9 c21 bt ki c22 va wr c23 c24 c25) := by
        intro z16 z17 z18 z19 z20 c21 c22 c23 c24 c25 h
        rw [hj38] at h
        (try dsimp only at h)
        refine x_istore (pc := 59) (ls2 := [(5, .int (zi z20)), (0, .ref a0), (1, .int (zi z16)), (2, .int (zi z17)), (3, .int (zi z18)), (4, .int (zi z19))]) X d_Disk_putPiece_59 (Nat.le_of_ble_eq_true rfl) rfl ?_
        refine x_iload (pc := 61) X d_Disk_putPiece_61 5 rfl ?_
        refine x_ifeq (pc := 63) (tgt := 88) X d_Disk_putPiece_63 rfl h (fun h => ?_) (fun h => ?_)
        · skip
          refine x_aload_n (pc := 88) X d_Disk_putPiece_88 1 rfl rfl ?_
          refine x_get (pc := 89) X d_Disk_putPiece_89 0 rfl fl_Disk_34 rfl ?_
          refine x_aload_n (pc := 92) X d_Disk_putPiece_92 1 rfl rfl ?_
          refine x_get (pc := 93) X d_Disk_putPiece_93 0 rfl fl_Disk_34 rfl ?_
          obtain ⟨r26, h27, h⟩ := bnd_e h
          refine x_callV (pc := 96) (As := []) (rest := [.ref a7]) (w2 := (w_Disk cI cB a0 a1 a2 a3 a4 a5 a6 a7 a8 a9 c21 bt ki c22 va wr c23 c24 c25)) X d_Disk_putPiece_96 lk_Disk_48 mv_Runs_greatest (c_Runs_greatest l D cI cB a7 a8 a9 c23 c24 c25 h27) ⟨(Nat.le_of_ble_eq_true rfl), (Nat.le_of_ble_eq_true rfl), (Nat.le_of_ble_eq_true rfl), (Nat.le_of_ble_eq_true rfl)⟩ 7 rfl rfl [7, 8, 9] rfl rfl rfl (Up.same rfl) rfl rfl (Nat.le_of_ble_eq_true rfl) ?_
          obtain ⟨r28, h29, h⟩ := bnd_e h
          refine x_callV (pc := 99) (As := [.int (zi r26)]) (rest := []) (w2 := (w_Disk cI cB a0 a1 a2 a3 a4 a5 a6 a7 a8 a9 c21 bt ki c22 va wr c23 c24 c25)) X d_Disk_putPiece_99 lk_Disk_131 mv_Runs_startAt (c_Runs_startAt l D cI cB a7 a8 a9 c23 c24 c25 r26 h29) ⟨(Nat.le_of_ble_eq_true rfl), (Nat.le_of_ble_eq_true rfl), (Nat.le_of_ble_eq_true rfl), (Nat.le_of_ble_eq_true rfl)⟩ 7 rfl rfl [7, 8, 9] rfl rfl rfl (Up.same rfl) rfl rfl (Nat.le_of_ble_eq_true rfl) ?_
          refine x_istore (pc := 102) (ls2 := [(6, .int (zi r28)), (5, .int (zi z20)), (0, .ref a0), (1, .int (zi z16)), (2, .int (zi z17)), (3, .int (zi z18)), (4, .int (zi z19))]) X d_Disk_putPiece_102 (Nat.le_of_ble_eq_true rfl) rfl ?_
          refine x_iconst (pc := 104) X d_Disk_putPiece_104  ?_
          refine x_istore (pc := 105) (ls2 := [(7, .int (zi 0)), (6, .int (zi r28)), (5, .int (zi z20)), (0, .ref a0), (1, .int (zi z16)), (2, .int (zi z17)), (3, .int (zi z18)), (4, .int (zi z19))]) X d_Disk_putPiece_105 (Nat.le_of_ble_eq_true rfl) rfl ?_
          refine x_ls (ls2 := [(0, .ref a0), (1, .int (zi z16)), (2, .int (zi z17)), (5, .int (zi z20)), (6, .int (zi r28)), (7, .int (zi 0))]) [3, 4, 5, 2, 1, 0] rfl ?_
          exact l_Disk_putPiece_107 X 5000 z16 z17 z20 r28 0 c21 ki c22 c23 c24 c25 o h hR
        · skip
          refine x_aload_n (pc := 66) X d_Disk_putPiece_66 1 rfl rfl ?_
          refine x_get (pc := 67) X d_Disk_putPiece_67 0 rfl fl_Disk_34 rfl ?_
          refine x_aload_n (pc := 70) X d_Disk_putPiece_70 1 rfl rfl ?_
          refine x_iload_n (pc := 71) X d_Disk_putPiece_71 2 rfl rfl ?_
          obtain ⟨r32, h33, h⟩ := bnd_e h
          refine x_callV (pc := 72) (As := [.int (zi z16)]) (rest := [.ref a7]) (w2 := (w_Disk cI cB a0 a1 a2 a3 a4 a5 a6 a7 a8 a9 c21 bt ki c22 va wr c23 c24 c25)) X d_Disk_putPiece_72 lk_Disk_122 mv_Disk_kindAt (c_Disk_kindAt l D cI cB a0 a1 a2 a3 a4 a5 a6 a7 a8 a9 c21 bt ki c22 va wr c23 c24 c25 z16 h33) ⟨(Nat.le_of_ble_eq_true rfl), (Nat.le_of_ble_eq_true rfl), (Nat.le_of_ble_eq_true rfl), (Nat.le_of_ble_eq_true rfl)⟩ 0 rfl rfl [0, 1, 2, 3, 4, 5, 6, 7, 8, 9] rfl rfl rfl (Up.same rfl) rfl rfl (Nat.le_of_ble_eq_true rfl) ?_
          refine x_aload_n (pc := 75) X d_Disk_putPiece_75 1 rfl rfl ?_
          refine x_iload_n (pc := 76) X d_Disk_putPiece_76 2 rfl rfl ?_
          refine x_iload_n (pc := 77) X d_Disk_putPiece_77 3 rfl rfl ?_
          obtain ⟨r34, h35, h⟩ := bnd_e h
          refine x_callV (pc := 78) (As := [.int (zi z16), .int (zi z17)]) (rest := [.int (zi r32), .ref a7]) (w2 := (w_Disk cI cB a0 a1 a2 a3 a4 a5 a6 a7 a8 a9 c21 bt ki c22 va wr c23 c24 c25)) X d_Disk_putPiece_78 lk_Disk_125 mv_Disk_goalOf (c_Disk_goalOf l D cI cB a0 a1 a2 a3 a4 a5 a6 a7 a8 a9 c21 bt ki c22 va wr c23 c24 c25 z16 z17 h35) ⟨(Nat.le_of_ble_eq_true rfl), (Nat.le_of_ble_eq_true rfl), (Nat.le_of_ble_eq_true rfl), (Nat.le_of_ble_eq_true rfl)⟩ 0 rfl rfl [0, 1, 2, 3, 4, 5, 6, 7, 8, 9] rfl rfl rfl (Up.same rfl) rfl rfl (Nat.le_of_ble_eq_true rfl) ?_
          refine x_iload_n (pc := 81) X d_Disk_putPiece_81 4 rfl rfl ?_
          obtain ⟨r36, h37, h⟩ := bnd_e h
          refine x_callV (pc := 82) (As := [.int (zi r32), .int (zi r34), .int (zi z18)]) (rest := []) (w2 := (w_Disk cI cB a0 a1 a2 a3 a4 a5 a6 a7 a8 a9 c21 bt ki c22 va wr c23 c24 c25)) X d_Disk_putPiece_82 lk_Disk_128 mv_Runs_beginOf (c_Runs_beginOf l D cI cB a7 a8 a9 c23 c24 c25 r32 r34 z18 h37) ⟨(Nat.le_of_ble_eq_true rfl), (Nat.le_of_ble_eq_true rfl), (Nat.le_of_ble_eq_true rfl), (Nat.le_of_ble_eq_true rfl)⟩ 7 rfl rfl [7, 8, 9] rfl rfl rfl (Up.same rfl) rfl rfl (Nat.le_of_ble_eq_true rfl) ?_
          refine x_goto (pc := 85) (tgt := 102) X d_Disk_putPiece_85 rfl ?_
          refine x_istore (pc := 102) (ls2 := [(6, .int (zi r36)), (5, .int (zi z20)), (0, .ref a0), (1, .int (zi z16)), (2, .int (zi z17)), (3, .int (zi z18)), (4, .int (zi z19))]) X d_Disk_putPiece_102 (Nat.le_of_ble_eq_true rfl) rfl ?_
          refine x_iconst (pc := 104) X d_Disk_putPiece_104  ?_
          refine x_istore (pc := 105) (ls2 := [(7, .int (zi 0)), (6, .int (zi r36)), (5, .int (zi z20)), (0, .ref a0), (1, .int (zi z16)), (2, .int (zi z17)), (3, .int (zi z18)), (4, .int (zi z19))]) X d_Disk_putPiece_105 (Nat.le_of_ble_eq_true rfl) rfl ?_
          refine x_ls (ls2 := [(0, .ref a0), (1, .int (zi z16)), (2, .int (zi z17)), (5, .int (zi z20)), (6, .int (zi r36)), (7, .int (zi 0))]) [3, 4, 5, 2, 1, 0] rfl ?_
          exact l_Disk_putPiece_107 X 5000 z16 z17 z20 r36 0 c21 ki c22 c23 c24 c25 o h hR
      clear hj38
      refine x_ifeq (pc := 38) (tgt := 45) X d_Disk_putPiece_38 rfl h (fun h => ?_) (fun h => ?_)
      · skip
        refine x_aload_n (pc := 45) X d_Disk_putPiece_45 1 rfl rfl ?_
        refine x_get (pc := 46) X d_Disk_putPiece_46 0 rfl fl_Disk_34 rfl ?_
        refine x_aload_n (pc := 49) X d_Disk_putPiece_49 1 rfl rfl ?_
        refine x_get (pc := 50) X d_Disk_putPiece_50 0 rfl fl_Disk_34 rfl ?_
        obtain ⟨r40, h41, h⟩ := bnd_e h
        refine x_callV (pc := 53) (As := []) (rest := [.ref a7]) (w2 := (w_Disk cI cB a0 a1 a2 a3 a4 a5 a6 a7 a8 a9 c10 bt ki c11 va wr c12 c13 c14)) X d_Disk_putPiece_53 lk_Disk_48 mv_Runs_greatest (c_Runs_greatest l D cI cB a7 a8 a9 c12 c13 c14 h41) ⟨(Nat.le_of_ble_eq_true rfl), (Nat.le_of_ble_eq_true rfl), (Nat.le_of_ble_eq_true rfl), (Nat.le_of_ble_eq_true rfl)⟩ 7 rfl rfl [7, 8, 9] rfl rfl rfl (Up.same rfl) rfl rfl (Nat.le_of_ble_eq_true rfl) ?_
        obtain ⟨r42, h43, h⟩ := bnd_e h
        refine x_callV (pc := 56) (As := [.int (zi r40)]) (rest := []) (w2 := (w_Disk cI cB a0 a1 a2 a3 a4 a5 a6 a7 a8 a9 c10 bt ki c11 va wr c12 c13 c14)) X d_Disk_putPiece_56 lk_Disk_52 mv_Runs_sizeAt (c_Runs_sizeAt l D cI cB a7 a8 a9 c12 c13 c14 r40 h43) ⟨(Nat.le_of_ble_eq_true rfl), (Nat.le_of_ble_eq_true rfl), (Nat.le_of_ble_eq_true rfl), (Nat.le_of_ble_eq_true rfl)⟩ 7 rfl rfl [7, 8, 9] rfl rfl rfl (Up.same rfl) rfl rfl (Nat.le_of_ble_eq_true rfl) ?_
        refine x_ls (ls2 := [(0, .ref a0), (1, .int (zi z6)), (2, .int (zi z7)), (3, .int (zi z8)), (4, .int (zi z9))]) [1, 2, 3, 4, 0] rfl ?_
        exact J39 z6 z7 z8 z9 r42 c10 c11 c12 c13 c14 h
      · skip
        refine x_iload_n (pc := 41) X d_Disk_putPiece_41 4 rfl rfl ?_
        refine x_goto (pc := 42) (tgt := 59) X d_Disk_putPiece_42 rfl ?_
        refine x_ls (ls2 := [(0, .ref a0), (1, .int (zi z6)), (2, .int (zi z7)), (3, .int (zi z8)), (4, .int (zi z9))]) [1, 2, 3, 4, 0] rfl ?_
        exact J39 z6 z7 z8 z9 z8 c10 c11 c12 c13 c14 h
    clear hj44
    refine x_iflt (pc := 26) (tgt := 33) X d_Disk_putPiece_26 rfl h (fun h => ?_) (fun h => ?_)
    · skip
      refine x_iconst (pc := 33) X d_Disk_putPiece_33  ?_
      exact J45 x1 x2 x3 0 ow pl r1.1 r1.2.1 r1.2.2 h
    · skip
      refine x_iconst (pc := 29) X d_Disk_putPiece_29  ?_
      refine x_goto (pc := 30) (tgt := 34) X d_Disk_putPiece_30 rfl ?_
      exact J45 x1 x2 x3 1 ow pl r1.1 r1.2.1 r1.2.2 h
  · skip
    refine x_iconst (pc := 5) X d_Disk_putPiece_5  ?_
    cases h
    exact x_iret (pc := 6) X hR d_Disk_putPiece_6
theorem d_Disk_writeDown_0 : decode b_Disk_writeDown 0 = .ok (.aload_n 0, 1) := by decide +kernel
theorem d_Disk_writeDown_1 : decode b_Disk_writeDown 1 = .ok (.iload_n 1, 1) := by decide +kernel
theorem d_Disk_writeDown_2 : decode b_Disk_writeDown 2 = .ok (.iload_n 2, 1) := by decide +kernel
theorem d_Disk_writeDown_3 : decode b_Disk_writeDown 3 = .ok (.invokevirtual 56, 3) := by decide +kernel
theorem d_Disk_writeDown_6 : decode b_Disk_writeDown 6 = .ok (.istore 4, 2) := by decide +kernel
theorem d_Disk_writeDown_8 : decode b_Disk_writeDown 8 = .ok (.iload 4, 2) := by decide +kernel
theorem d_Disk_writeDown_10 : decode b_Disk_writeDown 10 = .ok (.invokestatic 138, 3) := by decide +kernel
theorem d_Disk_writeDown_13 : decode b_Disk_writeDown 13 = .ok (.ifCond .eq 16, 3) := by decide +kernel
theorem d_Disk_writeDown_16 : decode b_Disk_writeDown 16 = .ok (.aload_n 0, 1) := by decide +kernel
theorem d_Disk_writeDown_17 : decode b_Disk_writeDown 17 = .ok (.getfield 15, 3) := by decide +kernel
theorem d_Disk_writeDown_20 : decode b_Disk_writeDown 20 = .ok (.iload 4, 2) := by decide +kernel
theorem d_Disk_writeDown_22 : decode b_Disk_writeDown 22 = .ok (.aload_n 0, 1) := by decide +kernel
theorem d_Disk_writeDown_23 : decode b_Disk_writeDown 23 = .ok (.iload_n 1, 1) := by decide +kernel
theorem d_Disk_writeDown_24 : decode b_Disk_writeDown 24 = .ok (.iload_n 2, 1) := by decide +kernel
theorem d_Disk_writeDown_25 : decode b_Disk_writeDown 25 = .ok (.invokevirtual 60, 3) := by decide +kernel
theorem d_Disk_writeDown_28 : decode b_Disk_writeDown 28 = .ok (.iastore, 1) := by decide +kernel
theorem d_Disk_writeDown_29 : decode b_Disk_writeDown 29 = .ok (.iload_n 3, 1) := by decide +kernel
theorem d_Disk_writeDown_30 : decode b_Disk_writeDown 30 = .ok (.iconst 2, 1) := by decide +kernel
theorem d_Disk_writeDown_31 : decode b_Disk_writeDown 31 = .ok (.if_icmp .ge 5, 3) := by decide +kernel
theorem d_Disk_writeDown_34 : decode b_Disk_writeDown 34 = .ok (.iconst 1, 1) := by decide +kernel
theorem d_Disk_writeDown_35 : decode b_Disk_writeDown 35 = .ok (.ireturn, 1) := by decide +kernel
theorem d_Disk_writeDown_36 : decode b_Disk_writeDown 36 = .ok (.iload_n 1, 1) := by decide +kernel
theorem d_Disk_writeDown_37 : decode b_Disk_writeDown 37 = .ok (.invokestatic 99, 3) := by decide +kernel
theorem d_Disk_writeDown_40 : decode b_Disk_writeDown 40 = .ok (.ifCond .eq 34, 3) := by decide +kernel
theorem d_Disk_writeDown_43 : decode b_Disk_writeDown 43 = .ok (.iload_n 2, 1) := by decide +kernel
theorem d_Disk_writeDown_44 : decode b_Disk_writeDown 44 = .ok (.invokestatic 103, 3) := by decide +kernel
theorem d_Disk_writeDown_47 : decode b_Disk_writeDown 47 = .ok (.ifCond .eq 27, 3) := by decide +kernel
theorem d_Disk_writeDown_50 : decode b_Disk_writeDown 50 = .ok (.aload_n 0, 1) := by decide +kernel
theorem d_Disk_writeDown_51 : decode b_Disk_writeDown 51 = .ok (.getfield 27, 3) := by decide +kernel
theorem d_Disk_writeDown_54 : decode b_Disk_writeDown 54 = .ok (.iload_n 1, 1) := by decide +kernel
theorem d_Disk_writeDown_55 : decode b_Disk_writeDown 55 = .ok (.bipush 24, 2) := by decide +kernel
theorem d_Disk_writeDown_57 : decode b_Disk_writeDown 57 = .ok (.imul, 1) := by decide +kernel
theorem d_Disk_writeDown_58 : decode b_Disk_writeDown 58 = .ok (.iload_n 2, 1) := by decide +kernel
theorem d_Disk_writeDown_59 : decode b_Disk_writeDown 59 = .ok (.iadd, 1) := by decide +kernel
theorem d_Disk_writeDown_60 : decode b_Disk_writeDown 60 = .ok (.iconst 1, 1) := by decide +kernel
theorem d_Disk_writeDown_61 : decode b_Disk_writeDown 61 = .ok (.bastore, 1) := by decide +kernel
theorem d_Disk_writeDown_62 : decode b_Disk_writeDown 62 = .ok (.aload_n 0, 1) := by decide +kernel
theorem d_Disk_writeDown_63 : decode b_Disk_writeDown 63 = .ok (.getfield 24, 3) := by decide +kernel
theorem d_Disk_writeDown_66 : decode b_Disk_writeDown 66 = .ok (.iload_n 1, 1) := by decide +kernel
theorem d_Disk_writeDown_67 : decode b_Disk_writeDown 67 = .ok (.bipush 24, 2) := by decide +kernel
theorem d_Disk_writeDown_69 : decode b_Disk_writeDown 69 = .ok (.imul, 1) := by decide +kernel
theorem d_Disk_writeDown_70 : decode b_Disk_writeDown 70 = .ok (.iload_n 2, 1) := by decide +kernel
theorem d_Disk_writeDown_71 : decode b_Disk_writeDown 71 = .ok (.iadd, 1) := by decide +kernel
theorem d_Disk_writeDown_72 : decode b_Disk_writeDown 72 = .ok (.iconst (-1), 1) := by decide +kernel
theorem d_Disk_writeDown_73 : decode b_Disk_writeDown 73 = .ok (.iastore, 1) := by decide +kernel
theorem d_Disk_writeDown_74 : decode b_Disk_writeDown 74 = .ok (.iconst 2, 1) := by decide +kernel
theorem d_Disk_writeDown_75 : decode b_Disk_writeDown 75 = .ok (.ireturn, 1) := by decide +kernel
def m_Disk_writeDown (x1 : Int) (x2 : Int) (x3 : Int) (bt : Int → Int) (pl : Int → Int) (va : Int → Int) (wr : Int → Int) : Option (Int × (Int → Int) × (Int → Int) × (Int → Int)) :=
  bnd (m_Disk_blockAt x1 x2 pl) (fun r1 => bnd (m_Vol_isBlock r1) (fun r3 => jn (fun (z6 : Int) (z7 : Int) (z8 : Int) (c9 : Int → Int) (c10 : Int → Int) (c11 : Int → Int) => clt z8 2 (some (1, c9, c10, c11)) (bnd (m_Vol_isFile z6) (fun r12 => ceq r12 0 (some (2, c9, c10, c11)) (bnd (m_Vol_isPage z7) (fun r14 => ceq r14 0 (some (2, c9, c10, c11)) (gd (zx ((z6 * 24) + z7) 96 ∧ zb 1) (gd (zx ((z6 * 24) + z7) 96) (some (2, c9, (uf c10 ((z6 * 24) + z7) (-1)), (uf c11 ((z6 * 24) + z7) 1)))))))))) (fun j5 => ceq r3 0 (j5 x1 x2 x3 bt va wr) (bnd (m_Disk_valueAt x1 x2 va) (fun r18 => gd (zx r1 64) (j5 x1 x2 x3 (uf bt r1 r18) va wr))))))
set_option maxHeartbeats 4000000 in
set_option maxRecDepth 100000 in
theorem c_Disk_writeDown (l : Launch) (D : va_G) (cI cB : ClassId) (a0 a1 a2 a3 a4 a5 a6 a7 a8 a9 : Nat) (ow : Int → Int) (bt : Int → Int) (ki : Int → Int) (pl : Int → Int) (va : Int → Int) (wr : Int → Int) (rm : Int) (rs : Int → Int) (rz : Int → Int) (x1 : Int) (x2 : Int) (x3 : Int) {o : Int × (Int → Int) × (Int → Int) × (Int → Int)} (h : m_Disk_writeDown x1 x2 x3 bt pl va wr = some o) : Ct l D cI cB y_Disk_writeDown b_Disk_writeDown 5 (some .int) { frames := 1, cells := 0, slots := 0, locals := 23 } [.ref a0, .int (zi x1), .int (zi x2), .int (zi x3)] (w_Disk cI cB a0 a1 a2 a3 a4 a5 a6 a7 a8 a9 ow bt ki pl va wr rm rs rz) (w_Disk cI cB a0 a1 a2 a3 a4 a5 a6 a7 a8 a9 ow o.2.1 ki pl o.2.2.1 o.2.2.2 rm rs rz) (some (.int (zi o.1))) := by
  refine Ct.start (by decide) (Nat.le_of_ble_eq_true rfl) (fun G X hR => ?_)
  refine x_ls (ls2 := [(0, .ref a0), (1, .int (zi x1)), (2, .int (zi x2)), (3, .int (zi x3))]) [0, 1, 2, 3] rfl ?_
  unfold m_Disk_writeDown at h
  refine x_aload_n (pc := 0) X d_Disk_writeDown_0 0 rfl rfl ?_
  refine x_iload_n (pc := 1) X d_Disk_writeDown_1 1 rfl rfl ?_
  refine x_iload_n (pc := 2) X d_Disk_writeDown_2 2 rfl rfl ?_
  obtain ⟨r1, h2, h⟩ := bnd_e h
  refine x_callV (pc := 3) (As := [.int (zi x1), .int (zi x2)]) (rest := []) (w2 := (w_Disk cI cB a0 a1 a2 a3 a4 a5 a6 a7 a8 a9 ow bt ki pl va wr rm rs rz)) X d_Disk_writeDown_3 lk_Disk_56 mv_Disk_blockAt (c_Disk_blockAt l D cI cB a0 a1 a2 a3 a4 a5 a6 a7 a8 a9 ow bt ki pl va wr rm rs rz x1 x2 h2) ⟨(Nat.le_of_ble_eq_true rfl), (Nat.le_of_ble_eq_true rfl), (Nat.le_of_ble_eq_true rfl), (Nat.le_of_ble_eq_true rfl)⟩ 0 rfl rfl [0, 1, 2, 3, 4, 5, 6, 7, 8, 9] rfl rfl rfl (Up.same rfl) rfl rfl (Nat.le_of_ble_eq_true rfl) ?_
  refine x_istore (pc := 6) (ls2 := [(4, .int (zi r1)), (0, .ref a0), (1, .int (zi x1)), (2, .int (zi x2)), (3, .int (zi x3))]) X d_Disk_writeDown_6 (Nat.le_of_ble_eq_true rfl) rfl ?_
  refine x_iload (pc := 8) X d_Disk_writeDown_8 0 rfl ?_
  obtain ⟨r3, h4, h⟩ := bnd_e h
  refine x_callS (pc := 10) (As := [.int (zi r1)]) (rest := []) (w2 := (w_Disk cI cB a0 a1 a2 a3 a4 a5 a6 a7 a8 a9 ow bt ki pl va wr rm rs rz)) X d_Disk_writeDown_10 lk_Disk_138 mv_Vol_isBlock (c_Vol_isBlock l D cI cB r1 h4) ⟨(Nat.le_of_ble_eq_true rfl), (Nat.le_of_ble_eq_true rfl), (Nat.le_of_ble_eq_true rfl), (Nat.le_of_ble_eq_true rfl)⟩ [] rfl rfl rfl (Up.same rfl) rfl rfl (Nat.le_of_ble_eq_true rfl) ?_
  obtain ⟨j5, hj16, h⟩ := jn_e h
  have J17 : ∀ (z6 : Int) (z7 : Int) (z8 : Int) (c9 : Int → Int) (c10 : Int → Int) (c11 : Int → Int), j5 z6 z7 z8 c9 c10 c11 = some o → Wx G 0 0 29 [(0, .ref a0), (1, .int (zi z6)), (2, .int (zi z7)), (3, .int (zi z8))] [] (w_Disk cI cB a0 a1 a2 a3 a4 a5 a6 a7 a8 a9 ow c9 ki pl c10 c11 rm rs rz) := by
    intro z6 z7 z8 c9 c10 c11 h
    rw [hj16] at h
    (try dsimp only at h)
    refine x_iload_n (pc := 29) X d_Disk_writeDown_29 3 rfl rfl ?_
    refine x_iconst (pc := 30) X d_Disk_writeDown_30  ?_
    refine x_icmpge (pc := 31) (tgt := 36) X d_Disk_writeDown_31 rfl h (fun h => ?_) (fun h => ?_)
    · skip
      refine x_iload_n (pc := 36) X d_Disk_writeDown_36 1 rfl rfl ?_
      obtain ⟨r12, h13, h⟩ := bnd_e h
      refine x_callS (pc := 37) (As := [.int (zi z6)]) (rest := []) (w2 := (w_Disk cI cB a0 a1 a2 a3 a4 a5 a6 a7 a8 a9 ow c9 ki pl c10 c11 rm rs rz)) X d_Disk_writeDown_37 lk_Disk_99 mv_Vol_isFile (c_Vol_isFile l D cI cB z6 h13) ⟨(Nat.le_of_ble_eq_true rfl), (Nat.le_of_ble_eq_true rfl), (Nat.le_of_ble_eq_true rfl), (Nat.le_of_ble_eq_true rfl)⟩ [] rfl rfl rfl (Up.same rfl) rfl rfl (Nat.le_of_ble_eq_true rfl) ?_
      refine x_ifeq (pc := 40) (tgt := 74) X d_Disk_writeDown_40 rfl h (fun h => ?_) (fun h => ?_)
      · skip
        refine x_iconst (pc := 74) X d_Disk_writeDown_74  ?_
        cases h
        exact x_iret (pc := 75) X hR d_Disk_writeDown_75
      · skip
        refine x_iload_n (pc := 43) X d_Disk_writeDown_43 2 rfl rfl ?_
        obtain ⟨r14, h15, h⟩ := bnd_e h
        refine x_callS (pc := 44) (As := [.int (zi z7)]) (rest := []) (w2 := (w_Disk cI cB a0 a1 a2 a3 a4 a5 a6 a7 a8 a9 ow c9 ki pl c10 c11 rm rs rz)) X d_Disk_writeDown_44 lk_Disk_103 mv_Vol_isPage (c_Vol_isPage l D cI cB z7 h15) ⟨(Nat.le_of_ble_eq_true rfl), (Nat.le_of_ble_eq_true rfl), (Nat.le_of_ble_eq_true rfl), (Nat.le_of_ble_eq_true rfl)⟩ [] rfl rfl rfl (Up.same rfl) rfl rfl (Nat.le_of_ble_eq_true rfl) ?_
        refine x_ifeq (pc := 47) (tgt := 74) X d_Disk_writeDown_47 rfl h (fun h => ?_) (fun h => ?_)
        · skip
          refine x_iconst (pc := 74) X d_Disk_writeDown_74  ?_
          cases h
          exact x_iret (pc := 75) X hR d_Disk_writeDown_75
        · skip
          refine x_aload_n (pc := 50) X d_Disk_writeDown_50 0 rfl rfl ?_
          refine x_get (pc := 51) X d_Disk_writeDown_51 0 rfl fl_Disk_27 rfl ?_
          refine x_iload_n (pc := 54) X d_Disk_writeDown_54 1 rfl rfl ?_
          refine x_bipush (pc := 55) (v := 24) X d_Disk_writeDown_55 rfl ?_
          refine x_imul (pc := 57) X d_Disk_writeDown_57  ?_
          refine x_iload_n (pc := 58) X d_Disk_writeDown_58 2 rfl rfl ?_
          refine x_iadd (pc := 59) X d_Disk_writeDown_59  ?_
          refine x_iconst (pc := 60) X d_Disk_writeDown_60  ?_
          refine x_zast (pc := 61) (w2 := (w_Disk cI cB a0 a1 a2 a3 a4 a5 a6 a7 a8 a9 ow c9 ki pl c10 (uf c11 ((z6 * 24) + z7) 1) rm rs rz)) X d_Disk_writeDown_61 6 rfl (Nat.le_of_ble_eq_true rfl) rfl rfl h (fun h => ?_)
          refine x_aload_n (pc := 62) X d_Disk_writeDown_62 0 rfl rfl ?_
          refine x_get (pc := 63) X d_Disk_writeDown_63 0 rfl fl_Disk_24 rfl ?_
          refine x_iload_n (pc := 66) X d_Disk_writeDown_66 1 rfl rfl ?_
          refine x_bipush (pc := 67) (v := 24) X d_Disk_writeDown_67 rfl ?_
          refine x_imul (pc := 69) X d_Disk_writeDown_69  ?_
          refine x_iload_n (pc := 70) X d_Disk_writeDown_70 2 rfl rfl ?_
          refine x_iadd (pc := 71) X d_Disk_writeDown_71  ?_
          refine x_iconst (pc := 72) X d_Disk_writeDown_72  ?_
          refine x_iast (pc := 73) (w2 := (w_Disk cI cB a0 a1 a2 a3 a4 a5 a6 a7 a8 a9 ow c9 ki pl (uf c10 ((z6 * 24) + z7) (-1)) (uf c11 ((z6 * 24) + z7) 1) rm rs rz)) X d_Disk_writeDown_73 5 rfl (Nat.le_of_ble_eq_true rfl) rfl rfl h (fun h => ?_)
          refine x_iconst (pc := 74) X d_Disk_writeDown_74  ?_
          cases h
          exact x_iret (pc := 75) X hR d_Disk_writeDown_75
    · skip
      refine x_iconst (pc := 34) X d_Disk_writeDown_34  ?_
      cases h
      exact x_iret (pc := 35) X hR d_Disk_writeDown_35
  clear hj16
  refine x_ifeq (pc := 13) (tgt := 29) X d_Disk_writeDown_13 rfl h (fun h => ?_) (fun h => ?_)
  · skip
    refine x_ls (ls2 := [(0, .ref a0), (1, .int (zi x1)), (2, .int (zi x2)), (3, .int (zi x3))]) [1, 2, 3, 4] rfl ?_
    exact J17 x1 x2 x3 bt va wr h
  · skip
    refine x_aload_n (pc := 16) X d_Disk_writeDown_16 1 rfl rfl ?_
    refine x_get (pc := 17) X d_Disk_writeDown_17 0 rfl fl_Disk_15 rfl ?_
    refine x_iload (pc := 20) X d_Disk_writeDown_20 0 rfl ?_
    refine x_aload_n (pc := 22) X d_Disk_writeDown_22 1 rfl rfl ?_
    refine x_iload_n (pc := 23) X d_Disk_writeDown_23 2 rfl rfl ?_
    refine x_iload_n (pc := 24) X d_Disk_writeDown_24 3 rfl rfl ?_
    obtain ⟨r18, h19, h⟩ := bnd_e h
    refine x_callV (pc := 25) (As := [.int (zi x1), .int (zi x2)]) (rest := [.int (zi r1), .ref a2]) (w2 := (w_Disk cI cB a0 a1 a2 a3 a4 a5 a6 a7 a8 a9 ow bt ki pl va wr rm rs rz)) X d_Disk_writeDown_25 lk_Disk_60 mv_Disk_valueAt (c_Disk_valueAt l D cI cB a0 a1 a2 a3 a4 a5 a6 a7 a8 a9 ow bt ki pl va wr rm rs rz x1 x2 h19) ⟨(Nat.le_of_ble_eq_true rfl), (Nat.le_of_ble_eq_true rfl), (Nat.le_of_ble_eq_true rfl), (Nat.le_of_ble_eq_true rfl)⟩ 0 rfl rfl [0, 1, 2, 3, 4, 5, 6, 7, 8, 9] rfl rfl rfl (Up.same rfl) rfl rfl (Nat.le_of_ble_eq_true rfl) ?_
    refine x_iast (pc := 28) (w2 := (w_Disk cI cB a0 a1 a2 a3 a4 a5 a6 a7 a8 a9 ow (uf bt r1 r18) ki pl va wr rm rs rz)) X d_Disk_writeDown_28 2 rfl (Nat.le_of_ble_eq_true rfl) rfl rfl h (fun h => ?_)
    refine x_ls (ls2 := [(0, .ref a0), (1, .int (zi x1)), (2, .int (zi x2)), (3, .int (zi x3))]) [1, 2, 3, 4] rfl ?_
    exact J17 x1 x2 x3 (uf bt r1 r18) va wr h
theorem d_Disk_flushUpTo_0 : decode b_Disk_flushUpTo 0 = .ok (.iconst 0, 1) := by decide +kernel
theorem d_Disk_flushUpTo_1 : decode b_Disk_flushUpTo 1 = .ok (.istore_n 3, 1) := by decide +kernel
theorem d_Disk_flushUpTo_2 : decode b_Disk_flushUpTo 2 = .ok (.iconst 0, 1) := by decide +kernel
theorem d_Disk_flushUpTo_3 : decode b_Disk_flushUpTo 3 = .ok (.istore 4, 2) := by decide +kernel
theorem d_Disk_flushUpTo_5 : decode b_Disk_flushUpTo 5 = .ok (.iload 4, 2) := by decide +kernel
theorem d_Disk_flushUpTo_7 : decode b_Disk_flushUpTo 7 = .ok (.bipush 24, 2) := by decide +kernel
theorem d_Disk_flushUpTo_9 : decode b_Disk_flushUpTo 9 = .ok (.if_icmp .ge 34, 3) := by decide +kernel
theorem d_Disk_flushUpTo_12 : decode b_Disk_flushUpTo 12 = .ok (.iload_n 3, 1) := by decide +kernel
theorem d_Disk_flushUpTo_13 : decode b_Disk_flushUpTo 13 = .ok (.iload_n 2, 1) := by decide +kernel
theorem d_Disk_flushUpTo_14 : decode b_Disk_flushUpTo 14 = .ok (.if_icmp .ge 29, 3) := by decide +kernel
theorem d_Disk_flushUpTo_17 : decode b_Disk_flushUpTo 17 = .ok (.aload_n 0, 1) := by decide +kernel
theorem d_Disk_flushUpTo_18 : decode b_Disk_flushUpTo 18 = .ok (.iload_n 1, 1) := by decide +kernel
theorem d_Disk_flushUpTo_19 : decode b_Disk_flushUpTo 19 = .ok (.iload 4, 2) := by decide +kernel
theorem d_Disk_flushUpTo_21 : decode b_Disk_flushUpTo 21 = .ok (.aload_n 0, 1) := by decide +kernel
theorem d_Disk_flushUpTo_22 : decode b_Disk_flushUpTo 22 = .ok (.iload_n 1, 1) := by decide +kernel
theorem d_Disk_flushUpTo_23 : decode b_Disk_flushUpTo 23 = .ok (.iload 4, 2) := by decide +kernel
theorem d_Disk_flushUpTo_25 : decode b_Disk_flushUpTo 25 = .ok (.invokevirtual 144, 3) := by decide +kernel
theorem d_Disk_flushUpTo_28 : decode b_Disk_flushUpTo 28 = .ok (.invokevirtual 116, 3) := by decide +kernel
theorem d_Disk_flushUpTo_31 : decode b_Disk_flushUpTo 31 = .ok (.ifCond .le 6, 3) := by decide +kernel
theorem d_Disk_flushUpTo_34 : decode b_Disk_flushUpTo 34 = .ok (.iinc 3 1, 3) := by decide +kernel
theorem d_Disk_flushUpTo_37 : decode b_Disk_flushUpTo 37 = .ok (.iinc 4 1, 3) := by decide +kernel
theorem d_Disk_flushUpTo_40 : decode b_Disk_flushUpTo 40 = .ok (.goto (-35), 3) := by decide +kernel
theorem d_Disk_flushUpTo_43 : decode b_Disk_flushUpTo 43 = .ok (.iconst 0, 1) := by decide +kernel
theorem d_Disk_flushUpTo_44 : decode b_Disk_flushUpTo 44 = .ok (.istore 4, 2) := by decide +kernel
theorem d_Disk_flushUpTo_46 : decode b_Disk_flushUpTo 46 = .ok (.iload 4, 2) := by decide +kernel
theorem d_Disk_flushUpTo_48 : decode b_Disk_flushUpTo 48 = .ok (.bipush 24, 2) := by decide +kernel
theorem d_Disk_flushUpTo_50 : decode b_Disk_flushUpTo 50 = .ok (.if_icmp .ge 37, 3) := by decide +kernel
theorem d_Disk_flushUpTo_53 : decode b_Disk_flushUpTo 53 = .ok (.iload_n 3, 1) := by decide +kernel
theorem d_Disk_flushUpTo_54 : decode b_Disk_flushUpTo 54 = .ok (.iload_n 2, 1) := by decide +kernel
theorem d_Disk_flushUpTo_55 : decode b_Disk_flushUpTo 55 = .ok (.if_icmp .ge 32, 3) := by decide +kernel
theorem d_Disk_flushUpTo_58 : decode b_Disk_flushUpTo 58 = .ok (.aload_n 0, 1) := by decide +kernel
theorem d_Disk_flushUpTo_59 : decode b_Disk_flushUpTo 59 = .ok (.iload_n 1, 1) := by decide +kernel
theorem d_Disk_flushUpTo_60 : decode b_Disk_flushUpTo 60 = .ok (.iload 4, 2) := by decide +kernel
theorem d_Disk_flushUpTo_62 : decode b_Disk_flushUpTo 62 = .ok (.invokevirtual 60, 3) := by decide +kernel
theorem d_Disk_flushUpTo_65 : decode b_Disk_flushUpTo 65 = .ok (.ifCond .lt 16, 3) := by decide +kernel
theorem d_Disk_flushUpTo_68 : decode b_Disk_flushUpTo 68 = .ok (.iload_n 3, 1) := by decide +kernel
theorem d_Disk_flushUpTo_69 : decode b_Disk_flushUpTo 69 = .ok (.aload_n 0, 1) := by decide +kernel
theorem d_Disk_flushUpTo_70 : decode b_Disk_flushUpTo 70 = .ok (.iload_n 1, 1) := by decide +kernel
theorem d_Disk_flushUpTo_71 : decode b_Disk_flushUpTo 71 = .ok (.iload 4, 2) := by decide +kernel
theorem d_Disk_flushUpTo_73 : decode b_Disk_flushUpTo 73 = .ok (.iload_n 2, 1) := by decide +kernel
theorem d_Disk_flushUpTo_74 : decode b_Disk_flushUpTo 74 = .ok (.iload_n 3, 1) := by decide +kernel
theorem d_Disk_flushUpTo_75 : decode b_Disk_flushUpTo 75 = .ok (.isub, 1) := by decide +kernel
theorem d_Disk_flushUpTo_76 : decode b_Disk_flushUpTo 76 = .ok (.invokevirtual 147, 3) := by decide +kernel
theorem d_Disk_flushUpTo_79 : decode b_Disk_flushUpTo 79 = .ok (.iadd, 1) := by decide +kernel
theorem d_Disk_flushUpTo_80 : decode b_Disk_flushUpTo 80 = .ok (.istore_n 3, 1) := by decide +kernel
theorem d_Disk_flushUpTo_81 : decode b_Disk_flushUpTo 81 = .ok (.iinc 4 1, 3) := by decide +kernel
theorem d_Disk_flushUpTo_84 : decode b_Disk_flushUpTo 84 = .ok (.goto (-38), 3) := by decide +kernel
theorem d_Disk_flushUpTo_87 : decode b_Disk_flushUpTo 87 = .ok (.iload_n 3, 1) := by decide +kernel
theorem d_Disk_flushUpTo_88 : decode b_Disk_flushUpTo 88 = .ok (.ireturn, 1) := by decide +kernel
def m_Disk_flushUpTo_46 : Nat → Int → Int → Int → Int → (Int → Int) → (Int → Int) → (Int → Int) → (Int → Int) → (Int → Int) → (Int → Int) → Int → (Int → Int) → (Int → Int) → Option (Int × (Int → Int) × (Int → Int) × (Int → Int) × (Int → Int) × (Int → Int) × Int × (Int → Int) × (Int → Int))
  | 0, _, _, _, _, _, _, _, _, _, _, _, _, _ => none
  | fuel + 1, v1, v2, v3, v4, ow, bt, ki, pl, va, wr, rm, rs, rz =>
  clt v4 24 (clt v3 v2 (bnd (m_Disk_valueAt v1 v4 va) (fun r1 => clt r1 0 (m_Disk_flushUpTo_46 fuel v1 v2 v3 (v4 + 1) ow bt ki pl va wr rm rs rz) (bnd (m_Disk_writeDown v1 v4 (v2 - v3) bt pl va wr) (fun r3 => m_Disk_flushUpTo_46 fuel v1 v2 (v3 + r3.1) (v4 + 1) ow r3.2.1 ki pl r3.2.2.1 r3.2.2.2 rm rs rz)))) (some (v3, ow, bt, pl, va, wr, rm, rs, rz))) (some (v3, ow, bt, pl, va, wr, rm, rs, rz))
def m_Disk_flushUpTo_5 : Nat → Int → Int → Int → Int → (Int → Int) → (Int → Int) → (Int → Int) → (Int → Int) → (Int → Int) → (Int → Int) → Int → (Int → Int) → (Int → Int) → Option (Int × (Int → Int) × (Int → Int) × (Int → Int) × (Int → Int) × (Int → Int) × Int × (Int → Int) × (Int → Int))
  | 0, _, _, _, _, _, _, _, _, _, _, _, _, _ => none
  | fuel + 1, v1, v2, v3, v4, ow, bt, ki, pl, va, wr, rm, rs, rz =>
  clt v4 24 (clt v3 v2 (bnd (m_Disk_promisedFrom v1 v4 pl va) (fun r5 => bnd (m_Disk_putPiece v1 v4 r5 ow ki pl rm rs rz) (fun r7 => cle r7.1 0 (m_Disk_flushUpTo_5 fuel v1 v2 v3 (v4 + 1) r7.2.1 bt ki r7.2.2.1 va wr r7.2.2.2.1 r7.2.2.2.2.1 r7.2.2.2.2.2) (m_Disk_flushUpTo_5 fuel v1 v2 (v3 + 1) (v4 + 1) r7.2.1 bt ki r7.2.2.1 va wr r7.2.2.2.1 r7.2.2.2.2.1 r7.2.2.2.2.2)))) (m_Disk_flushUpTo_46 5000 v1 v2 v3 0 ow bt ki pl va wr rm rs rz)) (m_Disk_flushUpTo_46 5000 v1 v2 v3 0 ow bt ki pl va wr rm rs rz)
def m_Disk_flushUpTo (x1 : Int) (x2 : Int) (ow : Int → Int) (bt : Int → Int) (ki : Int → Int) (pl : Int → Int) (va : Int → Int) (wr : Int → Int) (rm : Int) (rs : Int → Int) (rz : Int → Int) : Option (Int × (Int → Int) × (Int → Int) × (Int → Int) × (Int → Int) × (Int → Int) × Int × (Int → Int) × (Int → Int)) :=
  m_Disk_flushUpTo_5 5000 x1 x2 0 0 ow bt ki pl va wr rm rs rz
set_option maxHeartbeats 4000000 in
set_option maxRecDepth 100000 in
theorem l_Disk_flushUpTo_46 {G : GT} {l : Launch} {D : va_G} {cI cB : ClassId} {a0 a1 a2 a3 a4 a5 a6 a7 a8 a9 : Nat}  (X : Cx G l D cI cB b_Disk_flushUpTo y_Disk_flushUpTo.cls 5 { frames := 3, cells := 0, slots := 0, locals := 79 }) : ∀ (fuel : Nat) (v1 : Int) (v2 : Int) (v3 : Int) (v4 : Int) (ow : Int → Int) (bt : Int → Int) (ki : Int → Int) (pl : Int → Int) (va : Int → Int) (wr : Int → Int) (rm : Int) (rs : Int → Int) (rz : Int → Int) (o : Int × (Int → Int) × (Int → Int) × (Int → Int) × (Int → Int) × (Int → Int) × Int × (Int → Int) × (Int → Int)), m_Disk_flushUpTo_46 fuel v1 v2 v3 v4 ow bt ki pl va wr rm rs rz = some o → Rt G (some .int) (some (.int (zi o.1))) (w_Disk cI cB a0 a1 a2 a3 a4 a5 a6 a7 a8 a9 o.2.1 o.2.2.1 ki o.2.2.2.1 o.2.2.2.2.1 o.2.2.2.2.2.1 o.2.2.2.2.2.2.1 o.2.2.2.2.2.2.2.1 o.2.2.2.2.2.2.2.2) → Wx G 0 0 46 [(0, .ref a0), (1, .int (zi v1)), (2, .int (zi v2)), (3, .int (zi v3)), (4, .int (zi v4))] [] (w_Disk cI cB a0 a1 a2 a3 a4 a5 a6 a7 a8 a9 ow bt ki pl va wr rm rs rz) := by
  intro fuel
  induction fuel with
  | zero =>
    intro v1 v2 v3 v4 ow bt ki pl va wr rm rs rz o h
    exact absurd h (by simp [m_Disk_flushUpTo_46])
  | succ fuel ih =>
    intro v1 v2 v3 v4 ow bt ki pl va wr rm rs rz o h hR
    rw [m_Disk_flushUpTo_46] at h
    refine x_iload (pc := 46) X d_Disk_flushUpTo_46 4 rfl ?_
    refine x_bipush (pc := 48) (v := 24) X d_Disk_flushUpTo_48 rfl ?_
    refine x_icmpge (pc := 50) (tgt := 87) X d_Disk_flushUpTo_50 rfl h (fun h => ?_) (fun h => ?_)
    · skip
      refine x_iload_n (pc := 87) X d_Disk_flushUpTo_87 3 rfl rfl ?_
      cases h
      exact x_iret (pc := 88) X hR d_Disk_flushUpTo_88
    · skip
      refine x_iload_n (pc := 53) X d_Disk_flushUpTo_53 3 rfl rfl ?_
      refine x_iload_n (pc := 54) X d_Disk_flushUpTo_54 2 rfl rfl ?_
      refine x_icmpge (pc := 55) (tgt := 87) X d_Disk_flushUpTo_55 rfl h (fun h => ?_) (fun h => ?_)
      · skip
        refine x_iload_n (pc := 87) X d_Disk_flushUpTo_87 3 rfl rfl ?_
        cases h
        exact x_iret (pc := 88) X hR d_Disk_flushUpTo_88
      · skip
        refine x_aload_n (pc := 58) X d_Disk_flushUpTo_58 0 rfl rfl ?_
        refine x_iload_n (pc := 59) X d_Disk_flushUpTo_59 1 rfl rfl ?_
        refine x_iload (pc := 60) X d_Disk_flushUpTo_60 4 rfl ?_
        obtain ⟨r1, h2, h⟩ := bnd_e h
        refine x_callV (pc := 62) (As := [.int (zi v1), .int (zi v4)]) (rest := []) (w2 := (w_Disk cI cB a0 a1 a2 a3 a4 a5 a6 a7 a8 a9 ow bt ki pl va wr rm rs rz)) X d_Disk_flushUpTo_62 lk_Disk_60 mv_Disk_valueAt (c_Disk_valueAt l D cI cB a0 a1 a2 a3 a4 a5 a6 a7 a8 a9 ow bt ki pl va wr rm rs rz v1 v4 h2) ⟨(Nat.le_of_ble_eq_true rfl), (Nat.le_of_ble_eq_true rfl), (Nat.le_of_ble_eq_true rfl), (Nat.le_of_ble_eq_true rfl)⟩ 0 rfl rfl [0, 1, 2, 3, 4, 5, 6, 7, 8, 9] rfl rfl rfl (Up.same rfl) rfl rfl (Nat.le_of_ble_eq_true rfl) ?_
        refine x_iflt (pc := 65) (tgt := 81) X d_Disk_flushUpTo_65 rfl h (fun h => ?_) (fun h => ?_)
        · skip
          refine x_iinc (pc := 81) (ls2 := [(4, .int (zi (v4 + 1))), (0, .ref a0), (1, .int (zi v1)), (2, .int (zi v2)), (3, .int (zi v3))]) X d_Disk_flushUpTo_81 4 (Nat.le_of_ble_eq_true rfl) rfl rfl ?_
          refine x_goto (pc := 84) (tgt := 46) X d_Disk_flushUpTo_84 rfl ?_
          refine x_ls (ls2 := [(0, .ref a0), (1, .int (zi v1)), (2, .int (zi v2)), (3, .int (zi v3)), (4, .int (zi (v4 + 1)))]) [1, 2, 3, 4, 0] rfl ?_
          exact ih v1 v2 v3 (v4 + 1) ow bt ki pl va wr rm rs rz o h hR
        · skip
          refine x_iload_n (pc := 68) X d_Disk_flushUpTo_68 3 rfl rfl ?_
          refine x_aload_n (pc := 69) X d_Disk_flushUpTo_69 0 rfl rfl ?_
          refine x_iload_n (pc := 70) X d_Disk_flushUpTo_70 1 rfl rfl ?_
          refine x_iload (pc := 71) X d_Disk_flushUpTo_71 4 rfl ?_
          refine x_iload_n (pc := 73) X d_Disk_flushUpTo_73 2 rfl rfl ?_
          refine x_iload_n (pc := 74) X d_Disk_flushUpTo_74 3 rfl rfl ?_
          refine x_isub (pc := 75) X d_Disk_flushUpTo_75  ?_
          obtain ⟨r3, h4, h⟩ := bnd_e h
          refine x_callV (pc := 76) (As := [.int (zi v1), .int (zi v4), .int (zi (v2 - v3))]) (rest := [.int (zi v3)]) (w2 := (w_Disk cI cB a0 a1 a2 a3 a4 a5 a6 a7 a8 a9 ow r3.2.1 ki pl r3.2.2.1 r3.2.2.2 rm rs rz)) X d_Disk_flushUpTo_76 lk_Disk_147 mv_Disk_writeDown (c_Disk_writeDown l D cI cB a0 a1 a2 a3 a4 a5 a6 a7 a8 a9 ow bt ki pl va wr rm rs rz v1 v4 (v2 - v3) h4) ⟨(Nat.le_of_ble_eq_true rfl), (Nat.le_of_ble_eq_true rfl), (Nat.le_of_ble_eq_true rfl), (Nat.le_of_ble_eq_true rfl)⟩ 0 rfl rfl [0, 1, 2, 3, 4, 5, 6, 7, 8, 9] rfl rfl rfl (Up.of [] [] rfl rfl rfl 10 rfl (by decide +kernel)) rfl rfl (Nat.le_of_ble_eq_true rfl) ?_
          refine x_iadd (pc := 79) X d_Disk_flushUpTo_79  ?_
          refine x_istore_n (pc := 80) (ls2 := [(3, .int (zi (v3 + r3.1))), (0, .ref a0), (1, .int (zi v1)), (2, .int (zi v2)), (4, .int (zi v4))]) X d_Disk_flushUpTo_80 rfl (Nat.le_of_ble_eq_true rfl) rfl ?_
          refine x_iinc (pc := 81) (ls2 := [(4, .int (zi (v4 + 1))), (3, .int (zi (v3 + r3.1))), (0, .ref a0), (1, .int (zi v1)), (2, .int (zi v2))]) X d_Disk_flushUpTo_81 4 (Nat.le_of_ble_eq_true rfl) rfl rfl ?_
          refine x_goto (pc := 84) (tgt := 46) X d_Disk_flushUpTo_84 rfl ?_
          refine x_ls (ls2 := [(0, .ref a0), (1, .int (zi v1)), (2, .int (zi v2)), (3, .int (zi (v3 + r3.1))), (4, .int (zi (v4 + 1)))]) [2, 3, 4, 1, 0] rfl ?_
          exact ih v1 v2 (v3 + r3.1) (v4 + 1) ow r3.2.1 ki pl r3.2.2.1 r3.2.2.2 rm rs rz o h hR
set_option maxHeartbeats 4000000 in
set_option maxRecDepth 100000 in
theorem l_Disk_flushUpTo_5 {G : GT} {l : Launch} {D : va_G} {cI cB : ClassId} {a0 a1 a2 a3 a4 a5 a6 a7 a8 a9 : Nat}  (X : Cx G l D cI cB b_Disk_flushUpTo y_Disk_flushUpTo.cls 5 { frames := 3, cells := 0, slots := 0, locals := 79 }) : ∀ (fuel : Nat) (v1 : Int) (v2 : Int) (v3 : Int) (v4 : Int) (ow : Int → Int) (bt : Int → Int) (ki : Int → Int) (pl : Int → Int) (va : Int → Int) (wr : Int → Int) (rm : Int) (rs : Int → Int) (rz : Int → Int) (o : Int × (Int → Int) × (Int → Int) × (Int → Int) × (Int → Int) × (Int → Int) × Int × (Int → Int) × (Int → Int)), m_Disk_flushUpTo_5 fuel v1 v2 v3 v4 ow bt ki pl va wr rm rs rz = some o → Rt G (some .int) (some (.int (zi o.1))) (w_Disk cI cB a0 a1 a2 a3 a4 a5 a6 a7 a8 a9 o.2.1 o.2.2.1 ki o.2.2.2.1 o.2.2.2.2.1 o.2.2.2.2.2.1 o.2.2.2.2.2.2.1 o.2.2.2.2.2.2.2.1 o.2.2.2.2.2.2.2.2) → Wx G 0 0 5 [(0, .ref a0), (1, .int (zi v1)), (2, .int (zi v2)), (3, .int (zi v3)), (4, .int (zi v4))] [] (w_Disk cI cB a0 a1 a2 a3 a4 a5 a6 a7 a8 a9 ow bt ki pl va wr rm rs rz) := by
  intro fuel
  induction fuel with
  | zero =>
    intro v1 v2 v3 v4 ow bt ki pl va wr rm rs rz o h
    exact absurd h (by simp [m_Disk_flushUpTo_5])
  | succ fuel ih =>
    intro v1 v2 v3 v4 ow bt ki pl va wr rm rs rz o h hR
    rw [m_Disk_flushUpTo_5] at h
    refine x_iload (pc := 5) X d_Disk_flushUpTo_5 4 rfl ?_
    refine x_bipush (pc := 7) (v := 24) X d_Disk_flushUpTo_7 rfl ?_
    refine x_icmpge (pc := 9) (tgt := 43) X d_Disk_flushUpTo_9 rfl h (fun h => ?_) (fun h => ?_)
    · skip
      refine x_iconst (pc := 43) X d_Disk_flushUpTo_43  ?_
      refine x_istore (pc := 44) (ls2 := [(4, .int (zi 0)), (0, .ref a0), (1, .int (zi v1)), (2, .int (zi v2)), (3, .int (zi v3))]) X d_Disk_flushUpTo_44 (Nat.le_of_ble_eq_true rfl) rfl ?_
      refine x_ls (ls2 := [(0, .ref a0), (1, .int (zi v1)), (2, .int (zi v2)), (3, .int (zi v3)), (4, .int (zi 0))]) [1, 2, 3, 4, 0] rfl ?_
      exact l_Disk_flushUpTo_46 X 5000 v1 v2 v3 0 ow bt ki pl va wr rm rs rz o h hR
    · skip
      refine x_iload_n (pc := 12) X d_Disk_flushUpTo_12 3 rfl rfl ?_
      refine x_iload_n (pc := 13) X d_Disk_flushUpTo_13 2 rfl rfl ?_
      refine x_icmpge (pc := 14) (tgt := 43) X d_Disk_flushUpTo_14 rfl h (fun h => ?_) (fun h => ?_)
      · skip
        refine x_iconst (pc := 43) X d_Disk_flushUpTo_43  ?_
        refine x_istore (pc := 44) (ls2 := [(4, .int (zi 0)), (0, .ref a0), (1, .int (zi v1)), (2, .int (zi v2)), (3, .int (zi v3))]) X d_Disk_flushUpTo_44 (Nat.le_of_ble_eq_true rfl) rfl ?_
        refine x_ls (ls2 := [(0, .ref a0), (1, .int (zi v1)), (2, .int (zi v2)), (3, .int (zi v3)), (4, .int (zi 0))]) [1, 2, 3, 4, 0] rfl ?_
        exact l_Disk_flushUpTo_46 X 5000 v1 v2 v3 0 ow bt ki pl va wr rm rs rz o h hR
      · skip
        refine x_aload_n (pc := 17) X d_Disk_flushUpTo_17 0 rfl rfl ?_
        refine x_iload_n (pc := 18) X d_Disk_flushUpTo_18 1 rfl rfl ?_
        refine x_iload (pc := 19) X d_Disk_flushUpTo_19 4 rfl ?_
        refine x_aload_n (pc := 21) X d_Disk_flushUpTo_21 0 rfl rfl ?_
        refine x_iload_n (pc := 22) X d_Disk_flushUpTo_22 1 rfl rfl ?_
        refine x_iload (pc := 23) X d_Disk_flushUpTo_23 4 rfl ?_
        obtain ⟨r5, h6, h⟩ := bnd_e h
        refine x_callV (pc := 25) (As := [.int (zi v1), .int (zi v4)]) (rest := [.int (zi v4), .int (zi v1), .ref a0]) (w2 := (w_Disk cI cB a0 a1 a2 a3 a4 a5 a6 a7 a8 a9 ow bt ki pl va wr rm rs rz)) X d_Disk_flushUpTo_25 lk_Disk_144 mv_Disk_promisedFrom (c_Disk_promisedFrom l D cI cB a0 a1 a2 a3 a4 a5 a6 a7 a8 a9 ow bt ki pl va wr rm rs rz v1 v4 h6) ⟨(Nat.le_of_ble_eq_true rfl), (Nat.le_of_ble_eq_true rfl), (Nat.le_of_ble_eq_true rfl), (Nat.le_of_ble_eq_true rfl)⟩ 0 rfl rfl [0, 1, 2, 3, 4, 5, 6, 7, 8, 9] rfl rfl rfl (Up.same rfl) rfl rfl (Nat.le_of_ble_eq_true rfl) ?_
        obtain ⟨r7, h8, h⟩ := bnd_e h
        refine x_callV (pc := 28) (As := [.int (zi v1), .int (zi v4), .int (zi r5)]) (rest := []) (w2 := (w_Disk cI cB a0 a1 a2 a3 a4 a5 a6 a7 a8 a9 r7.2.1 bt ki r7.2.2.1 va wr r7.2.2.2.1 r7.2.2.2.2.1 r7.2.2.2.2.2)) X d_Disk_flushUpTo_28 lk_Disk_116 mv_Disk_putPiece (c_Disk_putPiece l D cI cB a0 a1 a2 a3 a4 a5 a6 a7 a8 a9 ow bt ki pl va wr rm rs rz v1 v4 r5 h8) ⟨(Nat.le_of_ble_eq_true rfl), (Nat.le_of_ble_eq_true rfl), (Nat.le_of_ble_eq_true rfl), (Nat.le_of_ble_eq_true rfl)⟩ 0 rfl rfl [0, 1, 2, 3, 4, 5, 6, 7, 8, 9] rfl rfl rfl (Up.of [] [] rfl rfl rfl 10 rfl (by decide +kernel)) rfl rfl (Nat.le_of_ble_eq_true rfl) ?_
        refine x_ifle (pc := 31) (tgt := 37) X d_Disk_flushUpTo_31 rfl h (fun h => ?_) (fun h => ?_)
        · skip
          refine x_iinc (pc := 37) (ls2 := [(4, .int (zi (v4 + 1))), (0, .ref a0), (1, .int (zi v1)), (2, .int (zi v2)), (3, .int (zi v3))]) X d_Disk_flushUpTo_37 4 (Nat.le_of_ble_eq_true rfl) rfl rfl ?_
          refine x_goto (pc := 40) (tgt := 5) X d_Disk_flushUpTo_40 rfl ?_
          refine x_ls (ls2 := [(0, .ref a0), (1, .int (zi v1)), (2, .int (zi v2)), (3, .int (zi v3)), (4, .int (zi (v4 + 1)))]) [1, 2, 3, 4, 0] rfl ?_
          exact ih v1 v2 v3 (v4 + 1) r7.2.1 bt ki r7.2.2.1 va wr r7.2.2.2.1 r7.2.2.2.2.1 r7.2.2.2.2.2 o h hR
        · skip
          refine x_iinc (pc := 34) (ls2 := [(3, .int (zi (v3 + 1))), (0, .ref a0), (1, .int (zi v1)), (2, .int (zi v2)), (4, .int (zi v4))]) X d_Disk_flushUpTo_34 3 (Nat.le_of_ble_eq_true rfl) rfl rfl ?_
          refine x_iinc (pc := 37) (ls2 := [(4, .int (zi (v4 + 1))), (3, .int (zi (v3 + 1))), (0, .ref a0), (1, .int (zi v1)), (2, .int (zi v2))]) X d_Disk_flushUpTo_37 4 (Nat.le_of_ble_eq_true rfl) rfl rfl ?_
          refine x_goto (pc := 40) (tgt := 5) X d_Disk_flushUpTo_40 rfl ?_
          refine x_ls (ls2 := [(0, .ref a0), (1, .int (zi v1)), (2, .int (zi v2)), (3, .int (zi (v3 + 1))), (4, .int (zi (v4 + 1)))]) [2, 3, 4, 1, 0] rfl ?_
          exact ih v1 v2 (v3 + 1) (v4 + 1) r7.2.1 bt ki r7.2.2.1 va wr r7.2.2.2.1 r7.2.2.2.2.1 r7.2.2.2.2.2 o h hR
set_option maxHeartbeats 4000000 in
set_option maxRecDepth 100000 in
theorem c_Disk_flushUpTo (l : Launch) (D : va_G) (cI cB : ClassId) (a0 a1 a2 a3 a4 a5 a6 a7 a8 a9 : Nat) (ow : Int → Int) (bt : Int → Int) (ki : Int → Int) (pl : Int → Int) (va : Int → Int) (wr : Int → Int) (rm : Int) (rs : Int → Int) (rz : Int → Int) (x1 : Int) (x2 : Int) {o : Int × (Int → Int) × (Int → Int) × (Int → Int) × (Int → Int) × (Int → Int) × Int × (Int → Int) × (Int → Int)} (h : m_Disk_flushUpTo x1 x2 ow bt ki pl va wr rm rs rz = some o) : Ct l D cI cB y_Disk_flushUpTo b_Disk_flushUpTo 5 (some .int) { frames := 3, cells := 0, slots := 0, locals := 79 } [.ref a0, .int (zi x1), .int (zi x2)] (w_Disk cI cB a0 a1 a2 a3 a4 a5 a6 a7 a8 a9 ow bt ki pl va wr rm rs rz) (w_Disk cI cB a0 a1 a2 a3 a4 a5 a6 a7 a8 a9 o.2.1 o.2.2.1 ki o.2.2.2.1 o.2.2.2.2.1 o.2.2.2.2.2.1 o.2.2.2.2.2.2.1 o.2.2.2.2.2.2.2.1 o.2.2.2.2.2.2.2.2) (some (.int (zi o.1))) := by
  refine Ct.start (by decide) (Nat.le_of_ble_eq_true rfl) (fun G X hR => ?_)
  refine x_ls (ls2 := [(0, .ref a0), (1, .int (zi x1)), (2, .int (zi x2))]) [0, 1, 2] rfl ?_
  unfold m_Disk_flushUpTo at h
  refine x_iconst (pc := 0) X d_Disk_flushUpTo_0  ?_
  refine x_istore_n (pc := 1) (ls2 := [(3, .int (zi 0)), (0, .ref a0), (1, .int (zi x1)), (2, .int (zi x2))]) X d_Disk_flushUpTo_1 rfl (Nat.le_of_ble_eq_true rfl) rfl ?_
  refine x_iconst (pc := 2) X d_Disk_flushUpTo_2  ?_
  refine x_istore (pc := 3) (ls2 := [(4, .int (zi 0)), (3, .int (zi 0)), (0, .ref a0), (1, .int (zi x1)), (2, .int (zi x2))]) X d_Disk_flushUpTo_3 (Nat.le_of_ble_eq_true rfl) rfl ?_
  refine x_ls (ls2 := [(0, .ref a0), (1, .int (zi x1)), (2, .int (zi x2)), (3, .int (zi 0)), (4, .int (zi 0))]) [2, 3, 4, 1, 0] rfl ?_
  exact l_Disk_flushUpTo_5 X 5000 x1 x2 0 0 ow bt ki pl va wr rm rs rz o h hR
theorem d_Disk_dropWaiting_0 : decode b_Disk_dropWaiting 0 = .ok (.iconst 0, 1) := by decide +kernel
theorem d_Disk_dropWaiting_1 : decode b_Disk_dropWaiting 1 = .ok (.istore_n 1, 1) := by decide +kernel
theorem d_Disk_dropWaiting_2 : decode b_Disk_dropWaiting 2 = .ok (.iconst 0, 1) := by decide +kernel
theorem d_Disk_dropWaiting_3 : decode b_Disk_dropWaiting 3 = .ok (.istore_n 2, 1) := by decide +kernel
theorem d_Disk_dropWaiting_4 : decode b_Disk_dropWaiting 4 = .ok (.iload_n 2, 1) := by decide +kernel
theorem d_Disk_dropWaiting_5 : decode b_Disk_dropWaiting 5 = .ok (.aload_n 0, 1) := by decide +kernel
theorem d_Disk_dropWaiting_6 : decode b_Disk_dropWaiting 6 = .ok (.getfield 24, 3) := by decide +kernel
theorem d_Disk_dropWaiting_9 : decode b_Disk_dropWaiting 9 = .ok (.arraylength, 1) := by decide +kernel
theorem d_Disk_dropWaiting_10 : decode b_Disk_dropWaiting 10 = .ok (.if_icmp .ge 28, 3) := by decide +kernel
theorem d_Disk_dropWaiting_13 : decode b_Disk_dropWaiting 13 = .ok (.aload_n 0, 1) := by decide +kernel
theorem d_Disk_dropWaiting_14 : decode b_Disk_dropWaiting 14 = .ok (.getfield 24, 3) := by decide +kernel
theorem d_Disk_dropWaiting_17 : decode b_Disk_dropWaiting 17 = .ok (.iload_n 2, 1) := by decide +kernel
theorem d_Disk_dropWaiting_18 : decode b_Disk_dropWaiting 18 = .ok (.iaload, 1) := by decide +kernel
theorem d_Disk_dropWaiting_19 : decode b_Disk_dropWaiting 19 = .ok (.ifCond .lt 6, 3) := by decide +kernel
theorem d_Disk_dropWaiting_22 : decode b_Disk_dropWaiting 22 = .ok (.iinc 1 1, 3) := by decide +kernel
theorem d_Disk_dropWaiting_25 : decode b_Disk_dropWaiting 25 = .ok (.aload_n 0, 1) := by decide +kernel
theorem d_Disk_dropWaiting_26 : decode b_Disk_dropWaiting 26 = .ok (.getfield 24, 3) := by decide +kernel
theorem d_Disk_dropWaiting_29 : decode b_Disk_dropWaiting 29 = .ok (.iload_n 2, 1) := by decide +kernel
theorem d_Disk_dropWaiting_30 : decode b_Disk_dropWaiting 30 = .ok (.iconst (-1), 1) := by decide +kernel
theorem d_Disk_dropWaiting_31 : decode b_Disk_dropWaiting 31 = .ok (.iastore, 1) := by decide +kernel
theorem d_Disk_dropWaiting_32 : decode b_Disk_dropWaiting 32 = .ok (.iinc 2 1, 3) := by decide +kernel
theorem d_Disk_dropWaiting_35 : decode b_Disk_dropWaiting 35 = .ok (.goto (-31), 3) := by decide +kernel
theorem d_Disk_dropWaiting_38 : decode b_Disk_dropWaiting 38 = .ok (.iload_n 1, 1) := by decide +kernel
theorem d_Disk_dropWaiting_39 : decode b_Disk_dropWaiting 39 = .ok (.ireturn, 1) := by decide +kernel
def m_Disk_dropWaiting_4 : Nat → Int → Int → (Int → Int) → Option (Int × (Int → Int))
  | 0, _, _, _ => none
  | fuel + 1, v1, v2, va =>
  clt v2 96 (gd (zx v2 96) (clt (va v2) 0 (gd (zx v2 96) (m_Disk_dropWaiting_4 fuel v1 (v2 + 1) (uf va v2 (-1)))) (gd (zx v2 96) (m_Disk_dropWaiting_4 fuel (v1 + 1) (v2 + 1) (uf va v2 (-1)))))) (some (v1, va))
def m_Disk_dropWaiting  (va : Int → Int) : Option (Int × (Int → Int)) :=
  m_Disk_dropWaiting_4 5000 0 0 va
set_option maxHeartbeats 4000000 in
set_option maxRecDepth 100000 in
theorem l_Disk_dropWaiting_4 {G : GT} {l : Launch} {D : va_G} {cI cB : ClassId} {a0 a1 a2 a3 a4 a5 a6 a7 a8 a9 : Nat} {ow : Int → Int} {bt : Int → Int} {ki : Int → Int} {pl : Int → Int} {wr : Int → Int} {rm : Int} {rs : Int → Int} {rz : Int → Int} (X : Cx G l D cI cB b_Disk_dropWaiting y_Disk_dropWaiting.cls 3 { frames := 0, cells := 0, slots := 0, locals := 0 }) : ∀ (fuel : Nat) (v1 : Int) (v2 : Int) (va : Int → Int) (o : Int × (Int → Int)), m_Disk_dropWaiting_4 fuel v1 v2 va = some o → Rt G (some .int) (some (.int (zi o.1))) (w_Disk cI cB a0 a1 a2 a3 a4 a5 a6 a7 a8 a9 ow bt ki pl o.2 wr rm rs rz) → Wx G 0 0 4 [(0, .ref a0), (1, .int (zi v1)), (2, .int (zi v2))] [] (w_Disk cI cB a0 a1 a2 a3 a4 a5 a6 a7 a8 a9 ow bt ki pl va wr rm rs rz) := by
  intro fuel
  induction fuel with
  | zero =>
    intro v1 v2 va o h
    exact absurd h (by simp [m_Disk_dropWaiting_4])
  | succ fuel ih =>
    intro v1 v2 va o h hR
    rw [m_Disk_dropWaiting_4] at h
    refine x_iload_n (pc := 4) X d_Disk_dropWaiting_4 2 rfl rfl ?_
    refine x_aload_n (pc := 5) X d_Disk_dropWaiting_5 0 rfl rfl ?_
    refine x_get (pc := 6) X d_Disk_dropWaiting_6 0 rfl fl_Disk_24 rfl ?_
    refine x_alen (pc := 9) (M := 96) X d_Disk_dropWaiting_9 5 rfl rfl ?_
    refine x_icmpge (pc := 10) (tgt := 38) X d_Disk_dropWaiting_10 rfl h (fun h => ?_) (fun h => ?_)
    · skip
      refine x_iload_n (pc := 38) X d_Disk_dropWaiting_38 1 rfl rfl ?_
      cases h
      exact x_iret (pc := 39) X hR d_Disk_dropWaiting_39
    · skip
      refine x_aload_n (pc := 13) X d_Disk_dropWaiting_13 0 rfl rfl ?_
      refine x_get (pc := 14) X d_Disk_dropWaiting_14 0 rfl fl_Disk_24 rfl ?_
      refine x_iload_n (pc := 17) X d_Disk_dropWaiting_17 2 rfl rfl ?_
      refine x_iald (pc := 18) X d_Disk_dropWaiting_18 5 rfl (Nat.le_of_ble_eq_true rfl) rfl h (fun h => ?_)
      refine x_iflt (pc := 19) (tgt := 25) X d_Disk_dropWaiting_19 rfl h (fun h => ?_) (fun h => ?_)
      · skip
        refine x_aload_n (pc := 25) X d_Disk_dropWaiting_25 0 rfl rfl ?_
        refine x_get (pc := 26) X d_Disk_dropWaiting_26 0 rfl fl_Disk_24 rfl ?_
        refine x_iload_n (pc := 29) X d_Disk_dropWaiting_29 2 rfl rfl ?_
        refine x_iconst (pc := 30) X d_Disk_dropWaiting_30  ?_
        refine x_iast (pc := 31) (w2 := (w_Disk cI cB a0 a1 a2 a3 a4 a5 a6 a7 a8 a9 ow bt ki pl (uf va v2 (-1)) wr rm rs rz)) X d_Disk_dropWaiting_31 5 rfl (Nat.le_of_ble_eq_true rfl) rfl rfl h (fun h => ?_)
        refine x_iinc (pc := 32) (ls2 := [(2, .int (zi (v2 + 1))), (0, .ref a0), (1, .int (zi v1))]) X d_Disk_dropWaiting_32 2 (Nat.le_of_ble_eq_true rfl) rfl rfl ?_
        refine x_goto (pc := 35) (tgt := 4) X d_Disk_dropWaiting_35 rfl ?_
        refine x_ls (ls2 := [(0, .ref a0), (1, .int (zi v1)), (2, .int (zi (v2 + 1)))]) [1, 2, 0] rfl ?_
        exact ih v1 (v2 + 1) (uf va v2 (-1)) o h hR
      · skip
        refine x_iinc (pc := 22) (ls2 := [(1, .int (zi (v1 + 1))), (0, .ref a0), (2, .int (zi v2))]) X d_Disk_dropWaiting_22 1 (Nat.le_of_ble_eq_true rfl) rfl rfl ?_
        refine x_aload_n (pc := 25) X d_Disk_dropWaiting_25 1 rfl rfl ?_
        refine x_get (pc := 26) X d_Disk_dropWaiting_26 0 rfl fl_Disk_24 rfl ?_
        refine x_iload_n (pc := 29) X d_Disk_dropWaiting_29 2 rfl rfl ?_
        refine x_iconst (pc := 30) X d_Disk_dropWaiting_30  ?_
        refine x_iast (pc := 31) (w2 := (w_Disk cI cB a0 a1 a2 a3 a4 a5 a6 a7 a8 a9 ow bt ki pl (uf va v2 (-1)) wr rm rs rz)) X d_Disk_dropWaiting_31 5 rfl (Nat.le_of_ble_eq_true rfl) rfl rfl h (fun h => ?_)
        refine x_iinc (pc := 32) (ls2 := [(2, .int (zi (v2 + 1))), (1, .int (zi (v1 + 1))), (0, .ref a0)]) X d_Disk_dropWaiting_32 2 (Nat.le_of_ble_eq_true rfl) rfl rfl ?_
        refine x_goto (pc := 35) (tgt := 4) X d_Disk_dropWaiting_35 rfl ?_
        refine x_ls (ls2 := [(0, .ref a0), (1, .int (zi (v1 + 1))), (2, .int (zi (v2 + 1)))]) [2, 1, 0] rfl ?_
        exact ih (v1 + 1) (v2 + 1) (uf va v2 (-1)) o h hR
set_option maxHeartbeats 4000000 in
set_option maxRecDepth 100000 in
theorem c_Disk_dropWaiting (l : Launch) (D : va_G) (cI cB : ClassId) (a0 a1 a2 a3 a4 a5 a6 a7 a8 a9 : Nat) (ow : Int → Int) (bt : Int → Int) (ki : Int → Int) (pl : Int → Int) (va : Int → Int) (wr : Int → Int) (rm : Int) (rs : Int → Int) (rz : Int → Int)  {o : Int × (Int → Int)} (h : m_Disk_dropWaiting va = some o) : Ct l D cI cB y_Disk_dropWaiting b_Disk_dropWaiting 3 (some .int) { frames := 0, cells := 0, slots := 0, locals := 0 } [.ref a0] (w_Disk cI cB a0 a1 a2 a3 a4 a5 a6 a7 a8 a9 ow bt ki pl va wr rm rs rz) (w_Disk cI cB a0 a1 a2 a3 a4 a5 a6 a7 a8 a9 ow bt ki pl o.2 wr rm rs rz) (some (.int (zi o.1))) := by
  refine Ct.start (by decide) (Nat.le_of_ble_eq_true rfl) (fun G X hR => ?_)
  refine x_ls (ls2 := [(0, .ref a0)]) [0] rfl ?_
  unfold m_Disk_dropWaiting at h
  refine x_iconst (pc := 0) X d_Disk_dropWaiting_0  ?_
  refine x_istore_n (pc := 1) (ls2 := [(1, .int (zi 0)), (0, .ref a0)]) X d_Disk_dropWaiting_1 rfl (Nat.le_of_ble_eq_true rfl) rfl ?_
  refine x_iconst (pc := 2) X d_Disk_dropWaiting_2  ?_
  refine x_istore_n (pc := 3) (ls2 := [(2, .int (zi 0)), (1, .int (zi 0)), (0, .ref a0)]) X d_Disk_dropWaiting_3 rfl (Nat.le_of_ble_eq_true rfl) rfl ?_
  refine x_ls (ls2 := [(0, .ref a0), (1, .int (zi 0)), (2, .int (zi 0))]) [2, 1, 0] rfl ?_
  exact l_Disk_dropWaiting_4 X 5000 0 0 va o h hR
theorem d_Disk_holesAmong_0 : decode b_Disk_holesAmong 0 = .ok (.iconst 0, 1) := by decide +kernel
theorem d_Disk_holesAmong_1 : decode b_Disk_holesAmong 1 = .ok (.istore 4, 2) := by decide +kernel
theorem d_Disk_holesAmong_3 : decode b_Disk_holesAmong 3 = .ok (.iconst 0, 1) := by decide +kernel
theorem d_Disk_holesAmong_4 : decode b_Disk_holesAmong 4 = .ok (.istore 5, 2) := by decide +kernel
theorem d_Disk_holesAmong_6 : decode b_Disk_holesAmong 6 = .ok (.iload 5, 2) := by decide +kernel
theorem d_Disk_holesAmong_8 : decode b_Disk_holesAmong 8 = .ok (.iload_n 3, 1) := by decide +kernel
theorem d_Disk_holesAmong_9 : decode b_Disk_holesAmong 9 = .ok (.if_icmp .ge 24, 3) := by decide +kernel
theorem d_Disk_holesAmong_12 : decode b_Disk_holesAmong 12 = .ok (.aload_n 0, 1) := by decide +kernel
theorem d_Disk_holesAmong_13 : decode b_Disk_holesAmong 13 = .ok (.iload_n 1, 1) := by decide +kernel
theorem d_Disk_holesAmong_14 : decode b_Disk_holesAmong 14 = .ok (.iload_n 2, 1) := by decide +kernel
theorem d_Disk_holesAmong_15 : decode b_Disk_holesAmong 15 = .ok (.iload 5, 2) := by decide +kernel
theorem d_Disk_holesAmong_17 : decode b_Disk_holesAmong 17 = .ok (.iadd, 1) := by decide +kernel
theorem d_Disk_holesAmong_18 : decode b_Disk_holesAmong 18 = .ok (.invokevirtual 96, 3) := by decide +kernel
theorem d_Disk_holesAmong_21 : decode b_Disk_holesAmong 21 = .ok (.ifCond .eq 6, 3) := by decide +kernel
theorem d_Disk_holesAmong_24 : decode b_Disk_holesAmong 24 = .ok (.iinc 4 1, 3) := by decide +kernel
theorem d_Disk_holesAmong_27 : decode b_Disk_holesAmong 27 = .ok (.iinc 5 1, 3) := by decide +kernel
theorem d_Disk_holesAmong_30 : decode b_Disk_holesAmong 30 = .ok (.goto (-24), 3) := by decide +kernel
theorem d_Disk_holesAmong_33 : decode b_Disk_holesAmong 33 = .ok (.iload 4, 2) := by decide +kernel
theorem d_Disk_holesAmong_35 : decode b_Disk_holesAmong 35 = .ok (.ireturn, 1) := by decide +kernel
def m_Disk_holesAmong_6 : Nat → Int → Int → Int → Int → Int → (Int → Int) → (Int → Int) → Option (Int)
  | 0, _, _, _, _, _, _, _ => none
  | fuel + 1, v1, v2, v3, v4, v5, pl, va =>
  clt v5 v3 (bnd (m_Disk_isHole v1 (v2 + v5) pl va) (fun r1 => ceq r1 0 (m_Disk_holesAmong_6 fuel v1 v2 v3 v4 (v5 + 1) pl va) (m_Disk_holesAmong_6 fuel v1 v2 v3 (v4 + 1) (v5 + 1) pl va))) (some (v4))
def m_Disk_holesAmong (x1 : Int) (x2 : Int) (x3 : Int) (pl : Int → Int) (va : Int → Int) : Option (Int) :=
  m_Disk_holesAmong_6 5000 x1 x2 x3 0 0 pl va
set_option maxHeartbeats 4000000 in
set_option maxRecDepth 100000 in
theorem l_Disk_holesAmong_6 {G : GT} {l : Launch} {D : va_G} {cI cB : ClassId} {a0 a1 a2 a3 a4 a5 a6 a7 a8 a9 : Nat} {ow : Int → Int} {bt : Int → Int} {ki : Int → Int} {wr : Int → Int} {rm : Int} {rs : Int → Int} {rz : Int → Int} (X : Cx G l D cI cB b_Disk_holesAmong y_Disk_holesAmong.cls 6 { frames := 2, cells := 0, slots := 0, locals := 45 }) : ∀ (fuel : Nat) (v1 : Int) (v2 : Int) (v3 : Int) (v4 : Int) (v5 : Int) (pl : Int → Int) (va : Int → Int) (o : Int), m_Disk_holesAmong_6 fuel v1 v2 v3 v4 v5 pl va = some o → Rt G (some .int) (some (.int (zi o))) (w_Disk cI cB a0 a1 a2 a3 a4 a5 a6 a7 a8 a9 ow bt ki pl va wr rm rs rz) → Wx G 0 0 6 [(0, .ref a0), (1, .int (zi v1)), (2, .int (zi v2)), (3, .int (zi v3)), (4, .int (zi v4)), (5, .int (zi v5))] [] (w_Disk cI cB a0 a1 a2 a3 a4 a5 a6 a7 a8 a9 ow bt ki pl va wr rm rs rz) := by
  intro fuel
  induction fuel with
  | zero =>
    intro v1 v2 v3 v4 v5 pl va o h
    exact absurd h (by simp [m_Disk_holesAmong_6])
  | succ fuel ih =>
    intro v1 v2 v3 v4 v5 pl va o h hR
    rw [m_Disk_holesAmong_6] at h
    refine x_iload (pc := 6) X d_Disk_holesAmong_6 5 rfl ?_
    refine x_iload_n (pc := 8) X d_Disk_holesAmong_8 3 rfl rfl ?_
    refine x_icmpge (pc := 9) (tgt := 33) X d_Disk_holesAmong_9 rfl h (fun h => ?_) (fun h => ?_)
    · skip
      refine x_iload (pc := 33) X d_Disk_holesAmong_33 4 rfl ?_
      cases h
      exact x_iret (pc := 35) X hR d_Disk_holesAmong_35
    · skip
      refine x_aload_n (pc := 12) X d_Disk_holesAmong_12 0 rfl rfl ?_
      refine x_iload_n (pc := 13) X d_Disk_holesAmong_13 1 rfl rfl ?_
      refine x_iload_n (pc := 14) X d_Disk_holesAmong_14 2 rfl rfl ?_
      refine x_iload (pc := 15) X d_Disk_holesAmong_15 5 rfl ?_
      refine x_iadd (pc := 17) X d_Disk_holesAmong_17  ?_
      obtain ⟨r1, h2, h⟩ := bnd_e h
      refine x_callV (pc := 18) (As := [.int (zi v1), .int (zi (v2 + v5))]) (rest := []) (w2 := (w_Disk cI cB a0 a1 a2 a3 a4 a5 a6 a7 a8 a9 ow bt ki pl va wr rm rs rz)) X d_Disk_holesAmong_18 lk_Disk_96 mv_Disk_isHole (c_Disk_isHole l D cI cB a0 a1 a2 a3 a4 a5 a6 a7 a8 a9 ow bt ki pl va wr rm rs rz v1 (v2 + v5) h2) ⟨(Nat.le_of_ble_eq_true rfl), (Nat.le_of_ble_eq_true rfl), (Nat.le_of_ble_eq_true rfl), (Nat.le_of_ble_eq_true rfl)⟩ 0 rfl rfl [0, 1, 2, 3, 4, 5, 6, 7, 8, 9] rfl rfl rfl (Up.same rfl) rfl rfl (Nat.le_of_ble_eq_true rfl) ?_
      refine x_ifeq (pc := 21) (tgt := 27) X d_Disk_holesAmong_21 rfl h (fun h => ?_) (fun h => ?_)
      · skip
        refine x_iinc (pc := 27) (ls2 := [(5, .int (zi (v5 + 1))), (0, .ref a0), (1, .int (zi v1)), (2, .int (zi v2)), (3, .int (zi v3)), (4, .int (zi v4))]) X d_Disk_holesAmong_27 5 (Nat.le_of_ble_eq_true rfl) rfl rfl ?_
        refine x_goto (pc := 30) (tgt := 6) X d_Disk_holesAmong_30 rfl ?_
        refine x_ls (ls2 := [(0, .ref a0), (1, .int (zi v1)), (2, .int (zi v2)), (3, .int (zi v3)), (4, .int (zi v4)), (5, .int (zi (v5 + 1)))]) [1, 2, 3, 4, 5, 0] rfl ?_
        exact ih v1 v2 v3 v4 (v5 + 1) pl va o h hR
      · skip
        refine x_iinc (pc := 24) (ls2 := [(4, .int (zi (v4 + 1))), (0, .ref a0), (1, .int (zi v1)), (2, .int (zi v2)), (3, .int (zi v3)), (5, .int (zi v5))]) X d_Disk_holesAmong_24 4 (Nat.le_of_ble_eq_true rfl) rfl rfl ?_
        refine x_iinc (pc := 27) (ls2 := [(5, .int (zi (v5 + 1))), (4, .int (zi (v4 + 1))), (0, .ref a0), (1, .int (zi v1)), (2, .int (zi v2)), (3, .int (zi v3))]) X d_Disk_holesAmong_27 5 (Nat.le_of_ble_eq_true rfl) rfl rfl ?_
        refine x_goto (pc := 30) (tgt := 6) X d_Disk_holesAmong_30 rfl ?_
        refine x_ls (ls2 := [(0, .ref a0), (1, .int (zi v1)), (2, .int (zi v2)), (3, .int (zi v3)), (4, .int (zi (v4 + 1))), (5, .int (zi (v5 + 1)))]) [2, 3, 4, 5, 1, 0] rfl ?_
        exact ih v1 v2 v3 (v4 + 1) (v5 + 1) pl va o h hR
set_option maxHeartbeats 4000000 in
set_option maxRecDepth 100000 in
theorem c_Disk_holesAmong (l : Launch) (D : va_G) (cI cB : ClassId) (a0 a1 a2 a3 a4 a5 a6 a7 a8 a9 : Nat) (ow : Int → Int) (bt : Int → Int) (ki : Int → Int) (pl : Int → Int) (va : Int → Int) (wr : Int → Int) (rm : Int) (rs : Int → Int) (rz : Int → Int) (x1 : Int) (x2 : Int) (x3 : Int) {o : Int} (h : m_Disk_holesAmong x1 x2 x3 pl va = some o) : Ct l D cI cB y_Disk_holesAmong b_Disk_holesAmong 6 (some .int) { frames := 2, cells := 0, slots := 0, locals := 45 } [.ref a0, .int (zi x1), .int (zi x2), .int (zi x3)] (w_Disk cI cB a0 a1 a2 a3 a4 a5 a6 a7 a8 a9 ow bt ki pl va wr rm rs rz) (w_Disk cI cB a0 a1 a2 a3 a4 a5 a6 a7 a8 a9 ow bt ki pl va wr rm rs rz) (some (.int (zi o))) := by
  refine Ct.start (by decide) (Nat.le_of_ble_eq_true rfl) (fun G X hR => ?_)
  refine x_ls (ls2 := [(0, .ref a0), (1, .int (zi x1)), (2, .int (zi x2)), (3, .int (zi x3))]) [0, 1, 2, 3] rfl ?_
  unfold m_Disk_holesAmong at h
  refine x_iconst (pc := 0) X d_Disk_holesAmong_0  ?_
  refine x_istore (pc := 1) (ls2 := [(4, .int (zi 0)), (0, .ref a0), (1, .int (zi x1)), (2, .int (zi x2)), (3, .int (zi x3))]) X d_Disk_holesAmong_1 (Nat.le_of_ble_eq_true rfl) rfl ?_
  refine x_iconst (pc := 3) X d_Disk_holesAmong_3  ?_
  refine x_istore (pc := 4) (ls2 := [(5, .int (zi 0)), (4, .int (zi 0)), (0, .ref a0), (1, .int (zi x1)), (2, .int (zi x2)), (3, .int (zi x3))]) X d_Disk_holesAmong_4 (Nat.le_of_ble_eq_true rfl) rfl ?_
  refine x_ls (ls2 := [(0, .ref a0), (1, .int (zi x1)), (2, .int (zi x2)), (3, .int (zi x3)), (4, .int (zi 0)), (5, .int (zi 0))]) [2, 3, 4, 5, 1, 0] rfl ?_
  exact l_Disk_holesAmong_6 X 5000 x1 x2 x3 0 0 pl va o h hR
