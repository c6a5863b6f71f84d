theorem d_Disk_holesFrom_0 : decode b_Disk_holesFrom 0 = .ok (.iconst 0, 1) := by decide +kernel
theorem d_Disk_holesFrom_1 : decode b_Disk_holesFrom 1 = .ok (.istore 4, 2) := by decide +kernel
theorem d_Disk_holesFrom_3 : decode b_Disk_holesFrom 3 = .ok (.iload_n 2, 1) := by decide +kernel
theorem d_Disk_holesFrom_4 : decode b_Disk_holesFrom 4 = .ok (.istore 5, 2) := by decide +kernel
theorem d_Disk_holesFrom_6 : decode b_Disk_holesFrom 6 = .ok (.iload 5, 2) := by decide +kernel
theorem d_Disk_holesFrom_8 : decode b_Disk_holesFrom 8 = .ok (.iload_n 3, 1) := by decide +kernel
theorem d_Disk_holesFrom_9 : decode b_Disk_holesFrom 9 = .ok (.if_icmp .ge 22, 3) := by decide +kernel
theorem d_Disk_holesFrom_12 : decode b_Disk_holesFrom 12 = .ok (.aload_n 0, 1) := by decide +kernel
theorem d_Disk_holesFrom_13 : decode b_Disk_holesFrom 13 = .ok (.iload_n 1, 1) := by decide +kernel
theorem d_Disk_holesFrom_14 : decode b_Disk_holesFrom 14 = .ok (.iload 5, 2) := by decide +kernel
theorem d_Disk_holesFrom_16 : decode b_Disk_holesFrom 16 = .ok (.invokevirtual 96, 3) := by decide +kernel
theorem d_Disk_holesFrom_19 : decode b_Disk_holesFrom 19 = .ok (.ifCond .eq 12, 3) := by decide +kernel
theorem d_Disk_holesFrom_22 : decode b_Disk_holesFrom 22 = .ok (.iinc 4 1, 3) := by decide +kernel
theorem d_Disk_holesFrom_25 : decode b_Disk_holesFrom 25 = .ok (.iinc 5 1, 3) := by decide +kernel
theorem d_Disk_holesFrom_28 : decode b_Disk_holesFrom 28 = .ok (.goto (-22), 3) := by decide +kernel
theorem d_Disk_holesFrom_31 : decode b_Disk_holesFrom 31 = .ok (.iload 4, 2) := by decide +kernel
theorem d_Disk_holesFrom_33 : decode b_Disk_holesFrom 33 = .ok (.ireturn, 1) := by decide +kernel
def m_Disk_holesFrom_6 : Nat → Int → Int → Int → Int → (Int → Int) → (Int → Int) → Option (Int)
  | 0, _, _, _, _, _, _ => none
  | fuel + 1, v1, v3, v4, v5, pl, va =>
  clt v5 v3 (bnd (m_Disk_isHole v1 v5 pl va) (fun r1 => ceq r1 0 (some (v4)) (m_Disk_holesFrom_6 fuel v1 v3 (v4 + 1) (v5 + 1) pl va))) (some (v4))
def m_Disk_holesFrom (x1 : Int) (x2 : Int) (x3 : Int) (pl : Int → Int) (va : Int → Int) : Option (Int) :=
  m_Disk_holesFrom_6 5000 x1 x3 0 x2 pl va
set_option maxHeartbeats 4000000 in
set_option maxRecDepth 100000 in
theorem l_Disk_holesFrom_6 {G : GT} {l : Launch} {D : va_G} {cI cB : ClassId} {a0 a1 a2 a3 a4 a5 a6 a7 a8 a9 : Nat} {ow : Int → Int} {bt : Int → Int} {ki : Int → Int} {wr : Int → Int} {rm : Int} {rs : Int → Int} {rz : Int → Int} (X : Cx G l D cI cB b_Disk_holesFrom y_Disk_holesFrom.cls 6 { frames := 2, cells := 0, slots := 0, locals := 45 }) : ∀ (fuel : Nat) (v1 : Int) (v3 : Int) (v4 : Int) (v5 : Int) (pl : Int → Int) (va : Int → Int) (o : Int), m_Disk_holesFrom_6 fuel v1 v3 v4 v5 pl va = some o → Rt G (some .int) (some (.int (zi o))) (w_Disk cI cB a0 a1 a2 a3 a4 a5 a6 a7 a8 a9 ow bt ki pl va wr rm rs rz) → Wx G 0 0 6 [(0, .ref a0), (1, .int (zi v1)), (3, .int (zi v3)), (4, .int (zi v4)), (5, .int (zi v5))] [] (w_Disk cI cB a0 a1 a2 a3 a4 a5 a6 a7 a8 a9 ow bt ki pl va wr rm rs rz) := by
  intro fuel
  induction fuel with
  | zero =>
    intro v1 v3 v4 v5 pl va o h
    exact absurd h (by simp [m_Disk_holesFrom_6])
  | succ fuel ih =>
    intro v1 v3 v4 v5 pl va o h hR
    rw [m_Disk_holesFrom_6] at h
    refine x_iload (pc := 6) X d_Disk_holesFrom_6 4 rfl ?_
    refine x_iload_n (pc := 8) X d_Disk_holesFrom_8 2 rfl rfl ?_
    refine x_icmpge (pc := 9) (tgt := 31) X d_Disk_holesFrom_9 rfl h (fun h => ?_) (fun h => ?_)
    · skip
      refine x_iload (pc := 31) X d_Disk_holesFrom_31 3 rfl ?_
      cases h
      exact x_iret (pc := 33) X hR d_Disk_holesFrom_33
    · skip
      refine x_aload_n (pc := 12) X d_Disk_holesFrom_12 0 rfl rfl ?_
      refine x_iload_n (pc := 13) X d_Disk_holesFrom_13 1 rfl rfl ?_
      refine x_iload (pc := 14) X d_Disk_holesFrom_14 4 rfl ?_
      obtain ⟨r1, h2, h⟩ := bnd_e h
      refine x_callV (pc := 16) (As := [.int (zi v1), .int (zi v5)]) (rest := []) (w2 := (w_Disk cI cB a0 a1 a2 a3 a4 a5 a6 a7 a8 a9 ow bt ki pl va wr rm rs rz)) X d_Disk_holesFrom_16 lk_Disk_96 mv_Disk_isHole (c_Disk_isHole l D cI cB a0 a1 a2 a3 a4 a5 a6 a7 a8 a9 ow bt ki pl va wr rm rs rz v1 v5 h2) ⟨(Nat.le_of_ble_eq_true rfl), (Nat.le_of_ble_eq_true rfl), (Nat.le_of_ble_eq_true rfl), (Nat.le_of_ble_eq_true rfl)⟩ 0 rfl rfl [0, 1, 2, 3, 4, 5, 6, 7, 8, 9] rfl rfl rfl (Up.same rfl) rfl rfl (Nat.le_of_ble_eq_true rfl) ?_
      refine x_ifeq (pc := 19) (tgt := 31) X d_Disk_holesFrom_19 rfl h (fun h => ?_) (fun h => ?_)
      · skip
        refine x_iload (pc := 31) X d_Disk_holesFrom_31 3 rfl ?_
        cases h
        exact x_iret (pc := 33) X hR d_Disk_holesFrom_33
      · skip
        refine x_iinc (pc := 22) (ls2 := [(4, .int (zi (v4 + 1))), (0, .ref a0), (1, .int (zi v1)), (3, .int (zi v3)), (5, .int (zi v5))]) X d_Disk_holesFrom_22 3 (Nat.le_of_ble_eq_true rfl) rfl rfl ?_
        refine x_iinc (pc := 25) (ls2 := [(5, .int (zi (v5 + 1))), (4, .int (zi (v4 + 1))), (0, .ref a0), (1, .int (zi v1)), (3, .int (zi v3))]) X d_Disk_holesFrom_25 4 (Nat.le_of_ble_eq_true rfl) rfl rfl ?_
        refine x_goto (pc := 28) (tgt := 6) X d_Disk_holesFrom_28 rfl ?_
        refine x_ls (ls2 := [(0, .ref a0), (1, .int (zi v1)), (3, .int (zi v3)), (4, .int (zi (v4 + 1))), (5, .int (zi (v5 + 1)))]) [2, 3, 4, 1, 0] rfl ?_
        exact ih v1 v3 (v4 + 1) (v5 + 1) pl va o h hR
set_option maxHeartbeats 4000000 in
set_option maxRecDepth 100000 in
theorem c_Disk_holesFrom (l : Launch) (D : va_G) (cI cB : ClassId) (a0 a1 a2 a3 a4 a5 a6 a7 a8 a9 : Nat) (ow : Int → Int) (bt : Int → Int) (ki : Int → Int) (pl : Int → Int) (va : Int → Int) (wr : Int → Int) (rm : Int) (rs : Int → Int) (rz : Int → Int) (x1 : Int) (x2 : Int) (x3 : Int) {o : Int} (h : m_Disk_holesFrom x1 x2 x3 pl va = some o) : Ct l D cI cB y_Disk_holesFrom b_Disk_holesFrom 6 (some .int) { frames := 2, cells := 0, slots := 0, locals := 45 } [.ref a0, .int (zi x1), .int (zi x2), .int (zi x3)] (w_Disk cI cB a0 a1 a2 a3 a4 a5 a6 a7 a8 a9 ow bt ki pl va wr rm rs rz) (w_Disk cI cB a0 a1 a2 a3 a4 a5 a6 a7 a8 a9 ow bt ki pl va wr rm rs rz) (some (.int (zi o))) := by
  refine Ct.start (by decide) (Nat.le_of_ble_eq_true rfl) (fun G X hR => ?_)
  refine x_ls (ls2 := [(0, .ref a0), (1, .int (zi x1)), (2, .int (zi x2)), (3, .int (zi x3))]) [0, 1, 2, 3] rfl ?_
  unfold m_Disk_holesFrom at h
  refine x_iconst (pc := 0) X d_Disk_holesFrom_0  ?_
  refine x_istore (pc := 1) (ls2 := [(4, .int (zi 0)), (0, .ref a0), (1, .int (zi x1)), (2, .int (zi x2)), (3, .int (zi x3))]) X d_Disk_holesFrom_1 (Nat.le_of_ble_eq_true rfl) rfl ?_
  refine x_iload_n (pc := 3) X d_Disk_holesFrom_3 3 rfl rfl ?_
  refine x_istore (pc := 4) (ls2 := [(5, .int (zi x2)), (4, .int (zi 0)), (0, .ref a0), (1, .int (zi x1)), (2, .int (zi x2)), (3, .int (zi x3))]) X d_Disk_holesFrom_4 (Nat.le_of_ble_eq_true rfl) rfl ?_
  refine x_ls (ls2 := [(0, .ref a0), (1, .int (zi x1)), (3, .int (zi x3)), (4, .int (zi 0)), (5, .int (zi x2))]) [2, 3, 5, 1, 0] rfl ?_
  exact l_Disk_holesFrom_6 X 5000 x1 x3 0 x2 pl va o h hR
theorem d_Disk_putHoles_0 : decode b_Disk_putHoles 0 = .ok (.aload_n 0, 1) := by decide +kernel
theorem d_Disk_putHoles_1 : decode b_Disk_putHoles 1 = .ok (.iload_n 1, 1) := by decide +kernel
theorem d_Disk_putHoles_2 : decode b_Disk_putHoles 2 = .ok (.iload_n 2, 1) := by decide +kernel
theorem d_Disk_putHoles_3 : decode b_Disk_putHoles 3 = .ok (.iload_n 3, 1) := by decide +kernel
theorem d_Disk_putHoles_4 : decode b_Disk_putHoles 4 = .ok (.invokevirtual 109, 3) := by decide +kernel
theorem d_Disk_putHoles_7 : decode b_Disk_putHoles 7 = .ok (.istore 4, 2) := by decide +kernel
theorem d_Disk_putHoles_9 : decode b_Disk_putHoles 9 = .ok (.aload_n 0, 1) := by decide +kernel
theorem d_Disk_putHoles_10 : decode b_Disk_putHoles 10 = .ok (.invokevirtual 106, 3) := by decide +kernel
theorem d_Disk_putHoles_13 : decode b_Disk_putHoles 13 = .ok (.iload 4, 2) := by decide +kernel
theorem d_Disk_putHoles_15 : decode b_Disk_putHoles 15 = .ok (.if_icmp .ge 5, 3) := by decide +kernel
theorem d_Disk_putHoles_18 : decode b_Disk_putHoles 18 = .ok (.iconst (-1), 1) := by decide +kernel
theorem d_Disk_putHoles_19 : decode b_Disk_putHoles 19 = .ok (.ireturn, 1) := by decide +kernel
theorem d_Disk_putHoles_20 : decode b_Disk_putHoles 20 = .ok (.iload_n 2, 1) := by decide +kernel
theorem d_Disk_putHoles_21 : decode b_Disk_putHoles 21 = .ok (.istore 5, 2) := by decide +kernel
theorem d_Disk_putHoles_23 : decode b_Disk_putHoles 23 = .ok (.iload 5, 2) := by decide +kernel
theorem d_Disk_putHoles_25 : decode b_Disk_putHoles 25 = .ok (.iload_n 2, 1) := by decide +kernel
theorem d_Disk_putHoles_26 : decode b_Disk_putHoles 26 = .ok (.iload_n 3, 1) := by decide +kernel
theorem d_Disk_putHoles_27 : decode b_Disk_putHoles 27 = .ok (.iadd, 1) := by decide +kernel
theorem d_Disk_putHoles_28 : decode b_Disk_putHoles 28 = .ok (.if_icmp .ge 27, 3) := by decide +kernel
theorem d_Disk_putHoles_31 : decode b_Disk_putHoles 31 = .ok (.aload_n 0, 1) := by decide +kernel
theorem d_Disk_putHoles_32 : decode b_Disk_putHoles 32 = .ok (.iload_n 1, 1) := by decide +kernel
theorem d_Disk_putHoles_33 : decode b_Disk_putHoles 33 = .ok (.iload 5, 2) := by decide +kernel
theorem d_Disk_putHoles_35 : decode b_Disk_putHoles 35 = .ok (.aload_n 0, 1) := by decide +kernel
theorem d_Disk_putHoles_36 : decode b_Disk_putHoles 36 = .ok (.iload_n 1, 1) := by decide +kernel
theorem d_Disk_putHoles_37 : decode b_Disk_putHoles 37 = .ok (.iload 5, 2) := by decide +kernel
theorem d_Disk_putHoles_39 : decode b_Disk_putHoles 39 = .ok (.iload_n 2, 1) := by decide +kernel
theorem d_Disk_putHoles_40 : decode b_Disk_putHoles 40 = .ok (.iload_n 3, 1) := by decide +kernel
theorem d_Disk_putHoles_41 : decode b_Disk_putHoles 41 = .ok (.iadd, 1) := by decide +kernel
theorem d_Disk_putHoles_42 : decode b_Disk_putHoles 42 = .ok (.invokevirtual 113, 3) := by decide +kernel
theorem d_Disk_putHoles_45 : decode b_Disk_putHoles 45 = .ok (.invokevirtual 116, 3) := by decide +kernel
theorem d_Disk_putHoles_48 : decode b_Disk_putHoles 48 = .ok (.pop, 1) := by decide +kernel
theorem d_Disk_putHoles_49 : decode b_Disk_putHoles 49 = .ok (.iinc 5 1, 3) := by decide +kernel
theorem d_Disk_putHoles_52 : decode b_Disk_putHoles 52 = .ok (.goto (-29), 3) := by decide +kernel
theorem d_Disk_putHoles_55 : decode b_Disk_putHoles 55 = .ok (.iload 4, 2) := by decide +kernel
theorem d_Disk_putHoles_57 : decode b_Disk_putHoles 57 = .ok (.ireturn, 1) := by decide +kernel
def m_Disk_putHoles_23 : Nat → Int → Int → Int → Int → Int → (Int → Int) → (Int → Int) → (Int → Int) → (Int → Int) → Int → (Int → Int) → (Int → Int) → Option (Int × (Int → Int) × (Int → Int) × Int × (Int → Int) × (Int → Int))
  | 0, _, _, _, _, _, _, _, _, _, _, _, _ => none
  | fuel + 1, v1, v2, v3, v4, v5, ow, ki, pl, va, rm, rs, rz =>
  clt v5 (v2 + v3) (bnd (m_Disk_holesFrom v1 v5 (v2 + v3) pl va) (fun r5 => bnd (m_Disk_putPiece v1 v5 r5 ow ki pl rm rs rz) (fun r7 => m_Disk_putHoles_23 fuel v1 v2 v3 v4 (v5 + 1) r7.2.1 ki r7.2.2.1 va r7.2.2.2.1 r7.2.2.2.2.1 r7.2.2.2.2.2))) (some (v4, ow, pl, rm, rs, rz))
def m_Disk_putHoles (x1 : Int) (x2 : Int) (x3 : Int) (ow : Int → Int) (ki : Int → Int) (pl : Int → Int) (va : Int → Int) (rm : Int) (rs : Int → Int) (rz : Int → Int) : Option (Int × (Int → Int) × (Int → Int) × Int × (Int → Int) × (Int → Int)) :=
  bnd (m_Disk_holesAmong x1 x2 x3 pl va) (fun r1 => bnd (m_Disk_roomLeft ow pl va) (fun r3 => clt r3 r1 (some ((-1), ow, pl, rm, rs, rz)) (m_Disk_putHoles_23 5000 x1 x2 x3 r1 x2 ow ki pl va rm rs rz)))
set_option maxHeartbeats 4000000 in
set_option maxRecDepth 100000 in
theorem l_Disk_putHoles_23 {G : GT} {l : Launch} {D : va_G} {cI cB : ClassId} {a0 a1 a2 a3 a4 a5 a6 a7 a8 a9 : Nat} {bt : Int → Int} {wr : Int → Int} (X : Cx G l D cI cB b_Disk_putHoles y_Disk_putHoles.cls 6 { frames := 3, cells := 0, slots := 0, locals := 79 }) : ∀ (fuel : Nat) (v1 : Int) (v2 : Int) (v3 : Int) (v4 : Int) (v5 : Int) (ow : Int → Int) (ki : Int → Int) (pl : Int → Int) (va : Int → Int) (rm : Int) (rs : Int → Int) (rz : Int → Int) (o : Int × (Int → Int) × (Int → Int) × Int × (Int → Int) × (Int → Int)), m_Disk_putHoles_23 fuel v1 v2 v3 v4 v5 ow ki pl va rm rs rz = some o → Rt G (some .int) (some (.int (zi o.1))) (w_Disk cI cB a0 a1 a2 a3 a4 a5 a6 a7 a8 a9 o.2.1 bt ki o.2.2.1 va wr o.2.2.2.1 o.2.2.2.2.1 o.2.2.2.2.2) → Wx G 0 0 23 [(0, .ref a0), (1, .int (zi v1)), (2, .int (zi v2)), (3, .int (zi v3)), (4, .int (zi v4)), (5, .int (zi v5))] [] (w_Disk cI cB a0 a1 a2 a3 a4 a5 a6 a7 a8 a9 ow bt ki pl va wr rm rs rz) := by
  intro fuel
  induction fuel with
  | zero =>
    intro v1 v2 v3 v4 v5 ow ki pl va rm rs rz o h
    exact absurd h (by simp [m_Disk_putHoles_23])
  | succ fuel ih =>
    intro v1 v2 v3 v4 v5 ow ki pl va rm rs rz o h hR
    rw [m_Disk_putHoles_23] at h
    refine x_iload (pc := 23) X d_Disk_putHoles_23 5 rfl ?_
    refine x_iload_n (pc := 25) X d_Disk_putHoles_25 2 rfl rfl ?_
    refine x_iload_n (pc := 26) X d_Disk_putHoles_26 3 rfl rfl ?_
    refine x_iadd (pc := 27) X d_Disk_putHoles_27  ?_
    refine x_icmpge (pc := 28) (tgt := 55) X d_Disk_putHoles_28 rfl h (fun h => ?_) (fun h => ?_)
    · skip
      refine x_iload (pc := 55) X d_Disk_putHoles_55 4 rfl ?_
      cases h
      exact x_iret (pc := 57) X hR d_Disk_putHoles_57
    · skip
      refine x_aload_n (pc := 31) X d_Disk_putHoles_31 0 rfl rfl ?_
      refine x_iload_n (pc := 32) X d_Disk_putHoles_32 1 rfl rfl ?_
      refine x_iload (pc := 33) X d_Disk_putHoles_33 5 rfl ?_
      refine x_aload_n (pc := 35) X d_Disk_putHoles_35 0 rfl rfl ?_
      refine x_iload_n (pc := 36) X d_Disk_putHoles_36 1 rfl rfl ?_
      refine x_iload (pc := 37) X d_Disk_putHoles_37 5 rfl ?_
      refine x_iload_n (pc := 39) X d_Disk_putHoles_39 2 rfl rfl ?_
      refine x_iload_n (pc := 40) X d_Disk_putHoles_40 3 rfl rfl ?_
      refine x_iadd (pc := 41) X d_Disk_putHoles_41  ?_
      obtain ⟨r5, h6, h⟩ := bnd_e h
      refine x_callV (pc := 42) (As := [.int (zi v1), .int (zi v5), .int (zi (v2 + v3))]) (rest := [.int (zi v5), .int (zi v1), .ref a0]) (w2 := (w_Disk cI cB a0 a1 a2 a3 a4 a5 a6 a7 a8 a9 ow bt ki pl va wr rm rs rz)) X d_Disk_putHoles_42 lk_Disk_113 mv_Disk_holesFrom (c_Disk_holesFrom l D cI cB a0 a1 a2 a3 a4 a5 a6 a7 a8 a9 ow bt ki pl va wr rm rs rz v1 v5 (v2 + v3) h6) ⟨(Nat.le_of_ble_eq_true rfl), (Nat.le_of_ble_eq_true rfl), (Nat.le_of_ble_eq_true rfl), (Nat.le_of_ble_eq_true rfl)⟩ 0 rfl rfl [0, 1, 2, 3, 4, 5, 6, 7, 8, 9] rfl rfl rfl (Up.same rfl) rfl rfl (Nat.le_of_ble_eq_true rfl) ?_
      obtain ⟨r7, h8, h⟩ := bnd_e h
      refine x_callV (pc := 45) (As := [.int (zi v1), .int (zi v5), .int (zi r5)]) (rest := []) (w2 := (w_Disk cI cB a0 a1 a2 a3 a4 a5 a6 a7 a8 a9 r7.2.1 bt ki r7.2.2.1 va wr r7.2.2.2.1 r7.2.2.2.2.1 r7.2.2.2.2.2)) X d_Disk_putHoles_45 lk_Disk_116 mv_Disk_putPiece (c_Disk_putPiece l D cI cB a0 a1 a2 a3 a4 a5 a6 a7 a8 a9 ow bt ki pl va wr rm rs rz v1 v5 r5 h8) ⟨(Nat.le_of_ble_eq_true rfl), (Nat.le_of_ble_eq_true rfl), (Nat.le_of_ble_eq_true rfl), (Nat.le_of_ble_eq_true rfl)⟩ 0 rfl rfl [0, 1, 2, 3, 4, 5, 6, 7, 8, 9] rfl rfl rfl (Up.of [] [] rfl rfl rfl 10 rfl (by decide +kernel)) rfl rfl (Nat.le_of_ble_eq_true rfl) ?_
      refine x_pop (pc := 48) X d_Disk_putHoles_48 rfl ?_
      refine x_iinc (pc := 49) (ls2 := [(5, .int (zi (v5 + 1))), (0, .ref a0), (1, .int (zi v1)), (2, .int (zi v2)), (3, .int (zi v3)), (4, .int (zi v4))]) X d_Disk_putHoles_49 5 (Nat.le_of_ble_eq_true rfl) rfl rfl ?_
      refine x_goto (pc := 52) (tgt := 23) X d_Disk_putHoles_52 rfl ?_
      refine x_ls (ls2 := [(0, .ref a0), (1, .int (zi v1)), (2, .int (zi v2)), (3, .int (zi v3)), (4, .int (zi v4)), (5, .int (zi (v5 + 1)))]) [1, 2, 3, 4, 5, 0] rfl ?_
      exact ih v1 v2 v3 v4 (v5 + 1) r7.2.1 ki r7.2.2.1 va r7.2.2.2.1 r7.2.2.2.2.1 r7.2.2.2.2.2 o h hR
set_option maxHeartbeats 4000000 in
set_option maxRecDepth 100000 in
theorem c_Disk_putHoles (l : Launch) (D : va_G) (cI cB : ClassId) (a0 a1 a2 a3 a4 a5 a6 a7 a8 a9 : Nat) (ow : Int → Int) (bt : Int → Int) (ki : Int → Int) (pl : Int → Int) (va : Int → Int) (wr : Int → Int) (rm : Int) (rs : Int → Int) (rz : Int → Int) (x1 : Int) (x2 : Int) (x3 : Int) {o : Int × (Int → Int) × (Int → Int) × Int × (Int → Int) × (Int → Int)} (h : m_Disk_putHoles x1 x2 x3 ow ki pl va rm rs rz = some o) : Ct l D cI cB y_Disk_putHoles b_Disk_putHoles 6 (some .int) { frames := 3, cells := 0, slots := 0, locals := 79 } [.ref a0, .int (zi x1), .int (zi x2), .int (zi x3)] (w_Disk cI cB a0 a1 a2 a3 a4 a5 a6 a7 a8 a9 ow bt ki pl va wr rm rs rz) (w_Disk cI cB a0 a1 a2 a3 a4 a5 a6 a7 a8 a9 o.2.1 bt ki o.2.2.1 va wr o.2.2.2.1 o.2.2.2.2.1 o.2.2.2.2.2) (some (.int (zi o.1))) := by
  refine Ct.start (by decide) (Nat.le_of_ble_eq_true rfl) (fun G X hR => ?_)
  refine x_ls (ls2 := [(0, .ref a0), (1, .int (zi x1)), (2, .int (zi x2)), (3, .int (zi x3))]) [0, 1, 2, 3] rfl ?_
  unfold m_Disk_putHoles at h
  refine x_aload_n (pc := 0) X d_Disk_putHoles_0 0 rfl rfl ?_
  refine x_iload_n (pc := 1) X d_Disk_putHoles_1 1 rfl rfl ?_
  refine x_iload_n (pc := 2) X d_Disk_putHoles_2 2 rfl rfl ?_
  refine x_iload_n (pc := 3) X d_Disk_putHoles_3 3 rfl rfl ?_
  obtain ⟨r1, h2, h⟩ := bnd_e h
  refine x_callV (pc := 4) (As := [.int (zi x1), .int (zi x2), .int (zi x3)]) (rest := []) (w2 := (w_Disk cI cB a0 a1 a2 a3 a4 a5 a6 a7 a8 a9 ow bt ki pl va wr rm rs rz)) X d_Disk_putHoles_4 lk_Disk_109 mv_Disk_holesAmong (c_Disk_holesAmong l D cI cB a0 a1 a2 a3 a4 a5 a6 a7 a8 a9 ow bt ki pl va wr rm rs rz x1 x2 x3 h2) ⟨(Nat.le_of_ble_eq_true rfl), (Nat.le_of_ble_eq_true rfl), (Nat.le_of_ble_eq_true rfl), (Nat.le_of_ble_eq_true rfl)⟩ 0 rfl rfl [0, 1, 2, 3, 4, 5, 6, 7, 8, 9] rfl rfl rfl (Up.same rfl) rfl rfl (Nat.le_of_ble_eq_true rfl) ?_
  refine x_istore (pc := 7) (ls2 := [(4, .int (zi r1)), (0, .ref a0), (1, .int (zi x1)), (2, .int (zi x2)), (3, .int (zi x3))]) X d_Disk_putHoles_7 (Nat.le_of_ble_eq_true rfl) rfl ?_
  refine x_aload_n (pc := 9) X d_Disk_putHoles_9 1 rfl rfl ?_
  obtain ⟨r3, h4, h⟩ := bnd_e h
  refine x_callV (pc := 10) (As := []) (rest := []) (w2 := (w_Disk cI cB a0 a1 a2 a3 a4 a5 a6 a7 a8 a9 ow bt ki pl va wr rm rs rz)) X d_Disk_putHoles_10 lk_Disk_106 mv_Disk_roomLeft (c_Disk_roomLeft l D cI cB a0 a1 a2 a3 a4 a5 a6 a7 a8 a9 ow bt ki pl va wr rm rs rz h4) ⟨(Nat.le_of_ble_eq_true rfl), (Nat.le_of_ble_eq_true rfl), (Nat.le_of_ble_eq_true rfl), (Nat.le_of_ble_eq_true rfl)⟩ 0 rfl rfl [0, 1, 2, 3, 4, 5, 6, 7, 8, 9] rfl rfl rfl (Up.same rfl) rfl rfl (Nat.le_of_ble_eq_true rfl) ?_
  refine x_iload (pc := 13) X d_Disk_putHoles_13 0 rfl ?_
  refine x_icmpge (pc := 15) (tgt := 20) X d_Disk_putHoles_15 rfl h (fun h => ?_) (fun h => ?_)
  · skip
    refine x_iload_n (pc := 20) X d_Disk_putHoles_20 3 rfl rfl ?_
    refine x_istore (pc := 21) (ls2 := [(5, .int (zi x2)), (4, .int (zi r1)), (0, .ref a0), (1, .int (zi x1)), (2, .int (zi x2)), (3, .int (zi x3))]) X d_Disk_putHoles_21 (Nat.le_of_ble_eq_true rfl) rfl ?_
    refine x_ls (ls2 := [(0, .ref a0), (1, .int (zi x1)), (2, .int (zi x2)), (3, .int (zi x3)), (4, .int (zi r1)), (5, .int (zi x2))]) [2, 3, 4, 5, 1, 0] rfl ?_
    exact l_Disk_putHoles_23 X 5000 x1 x2 x3 r1 x2 ow ki pl va rm rs rz o h hR
  · skip
    refine x_iconst (pc := 18) X d_Disk_putHoles_18  ?_
    cases h
    exact x_iret (pc := 19) X hR d_Disk_putHoles_19
theorem d_Disk_isWritten_0 : decode b_Disk_isWritten 0 = .ok (.iload_n 1, 1) := by decide +kernel
theorem d_Disk_isWritten_1 : decode b_Disk_isWritten 1 = .ok (.ifCond .lt 22, 3) := by decide +kernel
theorem d_Disk_isWritten_4 : decode b_Disk_isWritten 4 = .ok (.iload_n 1, 1) := by decide +kernel
theorem d_Disk_isWritten_5 : decode b_Disk_isWritten 5 = .ok (.iconst 4, 1) := by decide +kernel
theorem d_Disk_isWritten_6 : decode b_Disk_isWritten 6 = .ok (.if_icmp .ge 17, 3) := by decide +kernel
theorem d_Disk_isWritten_9 : decode b_Disk_isWritten 9 = .ok (.iload_n 2, 1) := by decide +kernel
theorem d_Disk_isWritten_10 : decode b_Disk_isWritten 10 = .ok (.ifCond .lt 13, 3) := by decide +kernel
theorem d_Disk_isWritten_13 : decode b_Disk_isWritten 13 = .ok (.iload_n 2, 1) := by decide +kernel
theorem d_Disk_isWritten_14 : decode b_Disk_isWritten 14 = .ok (.bipush 24, 2) := by decide +kernel
theorem d_Disk_isWritten_16 : decode b_Disk_isWritten 16 = .ok (.if_icmp .ge 7, 3) := by decide +kernel
theorem d_Disk_isWritten_19 : decode b_Disk_isWritten 19 = .ok (.iconst 1, 1) := by decide +kernel
theorem d_Disk_isWritten_20 : decode b_Disk_isWritten 20 = .ok (.goto 4, 3) := by decide +kernel
theorem d_Disk_isWritten_23 : decode b_Disk_isWritten 23 = .ok (.iconst 0, 1) := by decide +kernel
theorem d_Disk_isWritten_24 : decode b_Disk_isWritten 24 = .ok (.istore_n 3, 1) := by decide +kernel
theorem d_Disk_isWritten_25 : decode b_Disk_isWritten 25 = .ok (.iload_n 3, 1) := by decide +kernel
theorem d_Disk_isWritten_26 : decode b_Disk_isWritten 26 = .ok (.ifCond .eq 21, 3) := by decide +kernel
theorem d_Disk_isWritten_29 : decode b_Disk_isWritten 29 = .ok (.aload_n 0, 1) := by decide +kernel
theorem d_Disk_isWritten_30 : decode b_Disk_isWritten 30 = .ok (.getfield 27, 3) := by decide +kernel
theorem d_Disk_isWritten_33 : decode b_Disk_isWritten 33 = .ok (.iload_n 1, 1) := by decide +kernel
theorem d_Disk_isWritten_34 : decode b_Disk_isWritten 34 = .ok (.bipush 24, 2) := by decide +kernel
theorem d_Disk_isWritten_36 : decode b_Disk_isWritten 36 = .ok (.imul, 1) := by decide +kernel
theorem d_Disk_isWritten_37 : decode b_Disk_isWritten 37 = .ok (.iload_n 2, 1) := by decide +kernel
theorem d_Disk_isWritten_38 : decode b_Disk_isWritten 38 = .ok (.iadd, 1) := by decide +kernel
theorem d_Disk_isWritten_39 : decode b_Disk_isWritten 39 = .ok (.baload, 1) := by decide +kernel
theorem d_Disk_isWritten_40 : decode b_Disk_isWritten 40 = .ok (.ifCond .eq 7, 3) := by decide +kernel
theorem d_Disk_isWritten_43 : decode b_Disk_isWritten 43 = .ok (.iconst 1, 1) := by decide +kernel
theorem d_Disk_isWritten_44 : decode b_Disk_isWritten 44 = .ok (.goto 4, 3) := by decide +kernel
theorem d_Disk_isWritten_47 : decode b_Disk_isWritten 47 = .ok (.iconst 0, 1) := by decide +kernel
theorem d_Disk_isWritten_48 : decode b_Disk_isWritten 48 = .ok (.ireturn, 1) := by decide +kernel
def m_Disk_isWritten (x1 : Int) (x2 : Int) (wr : Int → Int) : Option (Int) :=
  jn (fun (z2 : Int) (z3 : Int) (z4 : Int) => ceq z4 0 (some (0)) (gd (zx ((z2 * 24) + z3) 96) (ceq (wr ((z2 * 24) + z3)) 0 (some (0)) (some (1))))) (fun j1 => jn (fun (z8 : Int) (z9 : Int) => j1 z8 z9 0) (fun j7 => clt x1 0 (j7 x1 x2) (clt x1 4 (clt x2 0 (j7 x1 x2) (clt x2 24 (j1 x1 x2 1) (j7 x1 x2))) (j7 x1 x2))))
set_option maxHeartbeats 4000000 in
set_option maxRecDepth 100000 in
theorem c_Disk_isWritten (l : Launch) (D : va_G) (cI cB : ClassId) (a0 a1 a2 a3 a4 a5 a6 a7 a8 a9 : Nat) (ow : Int → Int) (bt : Int → Int) (ki : Int → Int) (pl : Int → Int) (va : Int → Int) (wr : Int → Int) (rm : Int) (rs : Int → Int) (rz : Int → Int) (x1 : Int) (x2 : Int) {o : Int} (h : m_Disk_isWritten x1 x2 wr = some o) : Ct l D cI cB y_Disk_isWritten b_Disk_isWritten 4 (some .boolean) { frames := 0, cells := 0, slots := 0, locals := 0 } [.ref a0, .int (zi x1), .int (zi x2)] (w_Disk cI cB a0 a1 a2 a3 a4 a5 a6 a7 a8 a9 ow bt ki pl va wr rm rs rz) (w_Disk cI cB a0 a1 a2 a3 a4 a5 a6 a7 a8 a9 ow bt ki pl va wr rm rs rz) (some (.int (zi o))) := by
  refine Ct.start (by decide) (Nat.le_of_ble_eq_true rfl) (fun G X hR => ?_)
  refine x_ls (ls2 := [(0, .ref a0), (1, .int (zi x1)), (2, .int (zi x2))]) [0, 1, 2] rfl ?_
  unfold m_Disk_isWritten at h
  refine x_iload_n (pc := 0) X d_Disk_isWritten_0 1 rfl rfl ?_
  obtain ⟨j1, hj5, h⟩ := jn_e h
  have J6 : ∀ (z2 : Int) (z3 : Int) (z4 : Int), j1 z2 z3 z4 = some o → Wx G 0 0 24 [(0, .ref a0), (1, .int (zi z2)), (2, .int (zi z3))] [.int (zi z4)] (w_Disk cI cB a0 a1 a2 a3 a4 a5 a6 a7 a8 a9 ow bt ki pl va wr rm rs rz) := by
    intro z2 z3 z4 h
    rw [hj5] at h
    (try dsimp only at h)
    refine x_istore_n (pc := 24) (ls2 := [(3, .int (zi z4)), (0, .ref a0), (1, .int (zi z2)), (2, .int (zi z3))]) X d_Disk_isWritten_24 rfl (Nat.le_of_ble_eq_true rfl) rfl ?_
    refine x_iload_n (pc := 25) X d_Disk_isWritten_25 0 rfl rfl ?_
    refine x_ifeq (pc := 26) (tgt := 47) X d_Disk_isWritten_26 rfl h (fun h => ?_) (fun h => ?_)
    · skip
      refine x_iconst (pc := 47) X d_Disk_isWritten_47  ?_
      cases h
      exact x_zret (pc := 48) X hR d_Disk_isWritten_48 (Or.inl rfl)
    · skip
      refine x_aload_n (pc := 29) X d_Disk_isWritten_29 1 rfl rfl ?_
      refine x_get (pc := 30) X d_Disk_isWritten_30 0 rfl fl_Disk_27 rfl ?_
      refine x_iload_n (pc := 33) X d_Disk_isWritten_33 2 rfl rfl ?_
      refine x_bipush (pc := 34) (v := 24) X d_Disk_isWritten_34 rfl ?_
      refine x_imul (pc := 36) X d_Disk_isWritten_36  ?_
      refine x_iload_n (pc := 37) X d_Disk_isWritten_37 3 rfl rfl ?_
      refine x_iadd (pc := 38) X d_Disk_isWritten_38  ?_
      refine x_zald (pc := 39) X d_Disk_isWritten_39 6 rfl (Nat.le_of_ble_eq_true rfl) rfl h (fun h => ?_)
      refine x_ifeq (pc := 40) (tgt := 47) X d_Disk_isWritten_40 rfl h (fun h => ?_) (fun h => ?_)
      · skip
        refine x_iconst (pc := 47) X d_Disk_isWritten_47  ?_
        cases h
        exact x_zret (pc := 48) X hR d_Disk_isWritten_48 (Or.inl rfl)
      · skip
        refine x_iconst (pc := 43) X d_Disk_isWritten_43  ?_
        refine x_goto (pc := 44) (tgt := 48) X d_Disk_isWritten_44 rfl ?_
        cases h
        exact x_zret (pc := 48) X hR d_Disk_isWritten_48 (Or.inr rfl)
  clear hj5
  obtain ⟨j7, hj10, h⟩ := jn_e h
  have J11 : ∀ (z8 : Int) (z9 : Int), j7 z8 z9 = some o → Wx G 0 0 23 [(0, .ref a0), (1, .int (zi z8)), (2, .int (zi z9))] [] (w_Disk cI cB a0 a1 a2 a3 a4 a5 a6 a7 a8 a9 ow bt ki pl va wr rm rs rz) := by
    intro z8 z9 h
    rw [hj10] at h
    (try dsimp only at h)
    refine x_iconst (pc := 23) X d_Disk_isWritten_23  ?_
    exact J6 z8 z9 0 h
  clear hj10
  refine x_iflt (pc := 1) (tgt := 23) X d_Disk_isWritten_1 rfl h (fun h => ?_) (fun h => ?_)
  · skip
    exact J11 x1 x2 h
  · skip
    refine x_iload_n (pc := 4) X d_Disk_isWritten_4 1 rfl rfl ?_
    refine x_iconst (pc := 5) X d_Disk_isWritten_5  ?_
    refine x_icmpge (pc := 6) (tgt := 23) X d_Disk_isWritten_6 rfl h (fun h => ?_) (fun h => ?_)
    · skip
      exact J11 x1 x2 h
    · skip
      refine x_iload_n (pc := 9) X d_Disk_isWritten_9 2 rfl rfl ?_
      refine x_iflt (pc := 10) (tgt := 23) X d_Disk_isWritten_10 rfl h (fun h => ?_) (fun h => ?_)
      · skip
        exact J11 x1 x2 h
      · skip
        refine x_iload_n (pc := 13) X d_Disk_isWritten_13 2 rfl rfl ?_
        refine x_bipush (pc := 14) (v := 24) X d_Disk_isWritten_14 rfl ?_
        refine x_icmpge (pc := 16) (tgt := 23) X d_Disk_isWritten_16 rfl h (fun h => ?_) (fun h => ?_)
        · skip
          exact J11 x1 x2 h
        · skip
          refine x_iconst (pc := 19) X d_Disk_isWritten_19  ?_
          refine x_goto (pc := 20) (tgt := 24) X d_Disk_isWritten_20 rfl ?_
          exact J6 x1 x2 1 h
theorem d_Disk_writtenIn_0 : decode b_Disk_writtenIn 0 = .ok (.iconst 0, 1) := by decide +kernel
theorem d_Disk_writtenIn_1 : decode b_Disk_writtenIn 1 = .ok (.istore_n 2, 1) := by decide +kernel
theorem d_Disk_writtenIn_2 : decode b_Disk_writtenIn 2 = .ok (.iconst 0, 1) := by decide +kernel
theorem d_Disk_writtenIn_3 : decode b_Disk_writtenIn 3 = .ok (.istore_n 3, 1) := by decide +kernel
theorem d_Disk_writtenIn_4 : decode b_Disk_writtenIn 4 = .ok (.iload_n 3, 1) := by decide +kernel
theorem d_Disk_writtenIn_5 : decode b_Disk_writtenIn 5 = .ok (.bipush 24, 2) := by decide +kernel
theorem d_Disk_writtenIn_7 : decode b_Disk_writtenIn 7 = .ok (.if_icmp .ge 21, 3) := by decide +kernel
theorem d_Disk_writtenIn_10 : decode b_Disk_writtenIn 10 = .ok (.aload_n 0, 1) := by decide +kernel
theorem d_Disk_writtenIn_11 : decode b_Disk_writtenIn 11 = .ok (.iload_n 1, 1) := by decide +kernel
theorem d_Disk_writtenIn_12 : decode b_Disk_writtenIn 12 = .ok (.iload_n 3, 1) := by decide +kernel
theorem d_Disk_writtenIn_13 : decode b_Disk_writtenIn 13 = .ok (.invokevirtual 63, 3) := by decide +kernel
theorem d_Disk_writtenIn_16 : decode b_Disk_writtenIn 16 = .ok (.ifCond .eq 6, 3) := by decide +kernel
theorem d_Disk_writtenIn_19 : decode b_Disk_writtenIn 19 = .ok (.iinc 2 1, 3) := by decide +kernel
theorem d_Disk_writtenIn_22 : decode b_Disk_writtenIn 22 = .ok (.iinc 3 1, 3) := by decide +kernel
theorem d_Disk_writtenIn_25 : decode b_Disk_writtenIn 25 = .ok (.goto (-21), 3) := by decide +kernel
theorem d_Disk_writtenIn_28 : decode b_Disk_writtenIn 28 = .ok (.iload_n 2, 1) := by decide +kernel
theorem d_Disk_writtenIn_29 : decode b_Disk_writtenIn 29 = .ok (.ireturn, 1) := by decide +kernel
def m_Disk_writtenIn_4 : Nat → Int → Int → Int → (Int → Int) → Option (Int)
  | 0, _, _, _, _ => none
  | fuel + 1, v1, v2, v3, wr =>
  clt v3 24 (bnd (m_Disk_isWritten v1 v3 wr) (fun r1 => ceq r1 0 (m_Disk_writtenIn_4 fuel v1 v2 (v3 + 1) wr) (m_Disk_writtenIn_4 fuel v1 (v2 + 1) (v3 + 1) wr))) (some (v2))
def m_Disk_writtenIn (x1 : Int) (wr : Int → Int) : Option (Int) :=
  m_Disk_writtenIn_4 5000 x1 0 0 wr
set_option maxHeartbeats 4000000 in
set_option maxRecDepth 100000 in
theorem l_Disk_writtenIn_4 {G : GT} {l : Launch} {D : va_G} {cI cB : ClassId} {a0 a1 a2 a3 a4 a5 a6 a7 a8 a9 : Nat} {ow : Int → Int} {bt : Int → Int} {ki : Int → Int} {pl : Int → Int} {va : Int → Int} {rm : Int} {rs : Int → Int} {rz : Int → Int} (X : Cx G l D cI cB b_Disk_writtenIn y_Disk_writtenIn.cls 4 { frames := 1, cells := 0, slots := 0, locals := 23 }) : ∀ (fuel : Nat) (v1 : Int) (v2 : Int) (v3 : Int) (wr : Int → Int) (o : Int), m_Disk_writtenIn_4 fuel v1 v2 v3 wr = some o → Rt G (some .int) (some (.int (zi o))) (w_Disk cI cB a0 a1 a2 a3 a4 a5 a6 a7 a8 a9 ow bt ki pl va wr rm rs rz) → Wx G 0 0 4 [(0, .ref a0), (1, .int (zi v1)), (2, .int (zi v2)), (3, .int (zi v3))] [] (w_Disk cI cB a0 a1 a2 a3 a4 a5 a6 a7 a8 a9 ow bt ki pl va wr rm rs rz) := by
  intro fuel
  induction fuel with
  | zero =>
    intro v1 v2 v3 wr o h
    exact absurd h (by simp [m_Disk_writtenIn_4])
  | succ fuel ih =>
    intro v1 v2 v3 wr o h hR
    rw [m_Disk_writtenIn_4] at h
    refine x_iload_n (pc := 4) X d_Disk_writtenIn_4 3 rfl rfl ?_
    refine x_bipush (pc := 5) (v := 24) X d_Disk_writtenIn_5 rfl ?_
    refine x_icmpge (pc := 7) (tgt := 28) X d_Disk_writtenIn_7 rfl h (fun h => ?_) (fun h => ?_)
    · skip
      refine x_iload_n (pc := 28) X d_Disk_writtenIn_28 2 rfl rfl ?_
      cases h
      exact x_iret (pc := 29) X hR d_Disk_writtenIn_29
    · skip
      refine x_aload_n (pc := 10) X d_Disk_writtenIn_10 0 rfl rfl ?_
      refine x_iload_n (pc := 11) X d_Disk_writtenIn_11 1 rfl rfl ?_
      refine x_iload_n (pc := 12) X d_Disk_writtenIn_12 3 rfl rfl ?_
      obtain ⟨r1, h2, h⟩ := bnd_e h
      refine x_callV (pc := 13) (As := [.int (zi v1), .int (zi v3)]) (rest := []) (w2 := (w_Disk cI cB a0 a1 a2 a3 a4 a5 a6 a7 a8 a9 ow bt ki pl va wr rm rs rz)) X d_Disk_writtenIn_13 lk_Disk_63 mv_Disk_isWritten (c_Disk_isWritten l D cI cB a0 a1 a2 a3 a4 a5 a6 a7 a8 a9 ow bt ki pl va wr rm rs rz v1 v3 h2) ⟨(Nat.le_of_ble_eq_true rfl), (Nat.le_of_ble_eq_true rfl), (Nat.le_of_ble_eq_true rfl), (Nat.le_of_ble_eq_true rfl)⟩ 0 rfl rfl [0, 1, 2, 3, 4, 5, 6, 7, 8, 9] rfl rfl rfl (Up.same rfl) rfl rfl (Nat.le_of_ble_eq_true rfl) ?_
      refine x_ifeq (pc := 16) (tgt := 22) X d_Disk_writtenIn_16 rfl h (fun h => ?_) (fun h => ?_)
      · skip
        refine x_iinc (pc := 22) (ls2 := [(3, .int (zi (v3 + 1))), (0, .ref a0), (1, .int (zi v1)), (2, .int (zi v2))]) X d_Disk_writtenIn_22 3 (Nat.le_of_ble_eq_true rfl) rfl rfl ?_
        refine x_goto (pc := 25) (tgt := 4) X d_Disk_writtenIn_25 rfl ?_
        refine x_ls (ls2 := [(0, .ref a0), (1, .int (zi v1)), (2, .int (zi v2)), (3, .int (zi (v3 + 1)))]) [1, 2, 3, 0] rfl ?_
        exact ih v1 v2 (v3 + 1) wr o h hR
      · skip
        refine x_iinc (pc := 19) (ls2 := [(2, .int (zi (v2 + 1))), (0, .ref a0), (1, .int (zi v1)), (3, .int (zi v3))]) X d_Disk_writtenIn_19 2 (Nat.le_of_ble_eq_true rfl) rfl rfl ?_
        refine x_iinc (pc := 22) (ls2 := [(3, .int (zi (v3 + 1))), (2, .int (zi (v2 + 1))), (0, .ref a0), (1, .int (zi v1))]) X d_Disk_writtenIn_22 3 (Nat.le_of_ble_eq_true rfl) rfl rfl ?_
        refine x_goto (pc := 25) (tgt := 4) X d_Disk_writtenIn_25 rfl ?_
        refine x_ls (ls2 := [(0, .ref a0), (1, .int (zi v1)), (2, .int (zi (v2 + 1))), (3, .int (zi (v3 + 1)))]) [2, 3, 1, 0] rfl ?_
        exact ih v1 (v2 + 1) (v3 + 1) wr o h hR
set_option maxHeartbeats 4000000 in
set_option maxRecDepth 100000 in
theorem c_Disk_writtenIn (l : Launch) (D : va_G) (cI cB : ClassId) (a0 a1 a2 a3 a4 a5 a6 a7 a8 a9 : Nat) (ow : Int → Int) (bt : Int → Int) (ki : Int → Int) (pl : Int → Int) (va : Int → Int) (wr : Int → Int) (rm : Int) (rs : Int → Int) (rz : Int → Int) (x1 : Int) {o : Int} (h : m_Disk_writtenIn x1 wr = some o) : Ct l D cI cB y_Disk_writtenIn b_Disk_writtenIn 4 (some .int) { frames := 1, cells := 0, slots := 0, locals := 23 } [.ref a0, .int (zi x1)] (w_Disk cI cB a0 a1 a2 a3 a4 a5 a6 a7 a8 a9 ow bt ki pl va wr rm rs rz) (w_Disk cI cB a0 a1 a2 a3 a4 a5 a6 a7 a8 a9 ow bt ki pl va wr rm rs rz) (some (.int (zi o))) := by
  refine Ct.start (by decide) (Nat.le_of_ble_eq_true rfl) (fun G X hR => ?_)
  refine x_ls (ls2 := [(0, .ref a0), (1, .int (zi x1))]) [0, 1] rfl ?_
  unfold m_Disk_writtenIn at h
  refine x_iconst (pc := 0) X d_Disk_writtenIn_0  ?_
  refine x_istore_n (pc := 1) (ls2 := [(2, .int (zi 0)), (0, .ref a0), (1, .int (zi x1))]) X d_Disk_writtenIn_1 rfl (Nat.le_of_ble_eq_true rfl) rfl ?_
  refine x_iconst (pc := 2) X d_Disk_writtenIn_2  ?_
  refine x_istore_n (pc := 3) (ls2 := [(3, .int (zi 0)), (2, .int (zi 0)), (0, .ref a0), (1, .int (zi x1))]) X d_Disk_writtenIn_3 rfl (Nat.le_of_ble_eq_true rfl) rfl ?_
  refine x_ls (ls2 := [(0, .ref a0), (1, .int (zi x1)), (2, .int (zi 0)), (3, .int (zi 0))]) [2, 3, 1, 0] rfl ?_
  exact l_Disk_writtenIn_4 X 5000 x1 0 0 wr o h hR
theorem d_Disk_goesOn_0 : decode b_Disk_goesOn 0 = .ok (.aload_n 0, 1) := by decide +kernel
theorem d_Disk_goesOn_1 : decode b_Disk_goesOn 1 = .ok (.iload_n 1, 1) := by decide +kernel
theorem d_Disk_goesOn_2 : decode b_Disk_goesOn 2 = .ok (.iload_n 2, 1) := by decide +kernel
theorem d_Disk_goesOn_3 : decode b_Disk_goesOn 3 = .ok (.iconst 1, 1) := by decide +kernel
theorem d_Disk_goesOn_4 : decode b_Disk_goesOn 4 = .ok (.isub, 1) := by decide +kernel
theorem d_Disk_goesOn_5 : decode b_Disk_goesOn 5 = .ok (.invokevirtual 56, 3) := by decide +kernel
theorem d_Disk_goesOn_8 : decode b_Disk_goesOn 8 = .ok (.istore_n 3, 1) := by decide +kernel
theorem d_Disk_goesOn_9 : decode b_Disk_goesOn 9 = .ok (.iload_n 3, 1) := by decide +kernel
theorem d_Disk_goesOn_10 : decode b_Disk_goesOn 10 = .ok (.ifCond .lt 36, 3) := by decide +kernel
theorem d_Disk_goesOn_13 : decode b_Disk_goesOn 13 = .ok (.aload_n 0, 1) := by decide +kernel
theorem d_Disk_goesOn_14 : decode b_Disk_goesOn 14 = .ok (.iload_n 1, 1) := by decide +kernel
theorem d_Disk_goesOn_15 : decode b_Disk_goesOn 15 = .ok (.iload_n 2, 1) := by decide +kernel
theorem d_Disk_goesOn_16 : decode b_Disk_goesOn 16 = .ok (.invokevirtual 56, 3) := by decide +kernel
theorem d_Disk_goesOn_19 : decode b_Disk_goesOn 19 = .ok (.iload_n 3, 1) := by decide +kernel
theorem d_Disk_goesOn_20 : decode b_Disk_goesOn 20 = .ok (.iconst 1, 1) := by decide +kernel
theorem d_Disk_goesOn_21 : decode b_Disk_goesOn 21 = .ok (.iadd, 1) := by decide +kernel
theorem d_Disk_goesOn_22 : decode b_Disk_goesOn 22 = .ok (.if_icmp .ne 24, 3) := by decide +kernel
theorem d_Disk_goesOn_25 : decode b_Disk_goesOn 25 = .ok (.aload_n 0, 1) := by decide +kernel
theorem d_Disk_goesOn_26 : decode b_Disk_goesOn 26 = .ok (.iload_n 1, 1) := by decide +kernel
theorem d_Disk_goesOn_27 : decode b_Disk_goesOn 27 = .ok (.iload_n 2, 1) := by decide +kernel
theorem d_Disk_goesOn_28 : decode b_Disk_goesOn 28 = .ok (.invokevirtual 63, 3) := by decide +kernel
theorem d_Disk_goesOn_31 : decode b_Disk_goesOn 31 = .ok (.aload_n 0, 1) := by decide +kernel
theorem d_Disk_goesOn_32 : decode b_Disk_goesOn 32 = .ok (.iload_n 1, 1) := by decide +kernel
theorem d_Disk_goesOn_33 : decode b_Disk_goesOn 33 = .ok (.iload_n 2, 1) := by decide +kernel
theorem d_Disk_goesOn_34 : decode b_Disk_goesOn 34 = .ok (.iconst 1, 1) := by decide +kernel
theorem d_Disk_goesOn_35 : decode b_Disk_goesOn 35 = .ok (.isub, 1) := by decide +kernel
theorem d_Disk_goesOn_36 : decode b_Disk_goesOn 36 = .ok (.invokevirtual 63, 3) := by decide +kernel
theorem d_Disk_goesOn_39 : decode b_Disk_goesOn 39 = .ok (.if_icmp .ne 7, 3) := by decide +kernel
theorem d_Disk_goesOn_42 : decode b_Disk_goesOn 42 = .ok (.iconst 1, 1) := by decide +kernel
theorem d_Disk_goesOn_43 : decode b_Disk_goesOn 43 = .ok (.goto 4, 3) := by decide +kernel
theorem d_Disk_goesOn_46 : decode b_Disk_goesOn 46 = .ok (.iconst 0, 1) := by decide +kernel
theorem d_Disk_goesOn_47 : decode b_Disk_goesOn 47 = .ok (.ireturn, 1) := by decide +kernel
def m_Disk_goesOn (x1 : Int) (x2 : Int) (pl : Int → Int) (wr : Int → Int) : Option (Int) :=
  bnd (m_Disk_blockAt x1 (x2 - 1) pl) (fun r1 => clt r1 0 (some (0)) (bnd (m_Disk_blockAt x1 x2 pl) (fun r3 => ceq r3 (r1 + 1) (bnd (m_Disk_isWritten x1 x2 wr) (fun r5 => bnd (m_Disk_isWritten x1 (x2 - 1) wr) (fun r7 => ceq r5 r7 (some (1)) (some (0))))) (some (0)))))
set_option maxHeartbeats 4000000 in
set_option maxRecDepth 100000 in
theorem c_Disk_goesOn (l : Launch) (D : va_G) (cI cB : ClassId) (a0 a1 a2 a3 a4 a5 a6 a7 a8 a9 : Nat) (ow : Int → Int) (bt : Int → Int) (ki : Int → Int) (pl : Int → Int) (va : Int → Int) (wr : Int → Int) (rm : Int) (rs : Int → Int) (rz : Int → Int) (x1 : Int) (x2 : Int) {o : Int} (h : m_Disk_goesOn x1 x2 pl wr = some o) : Ct l D cI cB y_Disk_goesOn b_Disk_goesOn 4 (some .boolean) { frames := 1, cells := 0, slots := 0, locals := 23 } [.ref a0, .int (zi x1), .int (zi x2)] (w_Disk cI cB a0 a1 a2 a3 a4 a5 a6 a7 a8 a9 ow bt ki pl va wr rm rs rz) (w_Disk cI cB a0 a1 a2 a3 a4 a5 a6 a7 a8 a9 ow bt ki pl va wr rm rs rz) (some (.int (zi o))) := by
  refine Ct.start (by decide) (Nat.le_of_ble_eq_true rfl) (fun G X hR => ?_)
  refine x_ls (ls2 := [(0, .ref a0), (1, .int (zi x1)), (2, .int (zi x2))]) [0, 1, 2] rfl ?_
  unfold m_Disk_goesOn at h
  refine x_aload_n (pc := 0) X d_Disk_goesOn_0 0 rfl rfl ?_
  refine x_iload_n (pc := 1) X d_Disk_goesOn_1 1 rfl rfl ?_
  refine x_iload_n (pc := 2) X d_Disk_goesOn_2 2 rfl rfl ?_
  refine x_iconst (pc := 3) X d_Disk_goesOn_3  ?_
  refine x_isub (pc := 4) X d_Disk_goesOn_4  ?_
  obtain ⟨r1, h2, h⟩ := bnd_e h
  refine x_callV (pc := 5) (As := [.int (zi x1), .int (zi (x2 - 1))]) (rest := []) (w2 := (w_Disk cI cB a0 a1 a2 a3 a4 a5 a6 a7 a8 a9 ow bt ki pl va wr rm rs rz)) X d_Disk_goesOn_5 lk_Disk_56 mv_Disk_blockAt (c_Disk_blockAt l D cI cB a0 a1 a2 a3 a4 a5 a6 a7 a8 a9 ow bt ki pl va wr rm rs rz x1 (x2 - 1) h2) ⟨(Nat.le_of_ble_eq_true rfl), (Nat.le_of_ble_eq_true rfl), (Nat.le_of_ble_eq_true rfl), (Nat.le_of_ble_eq_true rfl)⟩ 0 rfl rfl [0, 1, 2, 3, 4, 5, 6, 7, 8, 9] rfl rfl rfl (Up.same rfl) rfl rfl (Nat.le_of_ble_eq_true rfl) ?_
  refine x_istore_n (pc := 8) (ls2 := [(3, .int (zi r1)), (0, .ref a0), (1, .int (zi x1)), (2, .int (zi x2))]) X d_Disk_goesOn_8 rfl (Nat.le_of_ble_eq_true rfl) rfl ?_
  refine x_iload_n (pc := 9) X d_Disk_goesOn_9 0 rfl rfl ?_
  refine x_iflt (pc := 10) (tgt := 46) X d_Disk_goesOn_10 rfl h (fun h => ?_) (fun h => ?_)
  · skip
    refine x_iconst (pc := 46) X d_Disk_goesOn_46  ?_
    cases h
    exact x_zret (pc := 47) X hR d_Disk_goesOn_47 (Or.inl rfl)
  · skip
    refine x_aload_n (pc := 13) X d_Disk_goesOn_13 1 rfl rfl ?_
    refine x_iload_n (pc := 14) X d_Disk_goesOn_14 2 rfl rfl ?_
    refine x_iload_n (pc := 15) X d_Disk_goesOn_15 3 rfl rfl ?_
    obtain ⟨r3, h4, h⟩ := bnd_e h
    refine x_callV (pc := 16) (As := [.int (zi x1), .int (zi x2)]) (rest := []) (w2 := (w_Disk cI cB a0 a1 a2 a3 a4 a5 a6 a7 a8 a9 ow bt ki pl va wr rm rs rz)) X d_Disk_goesOn_16 lk_Disk_56 mv_Disk_blockAt (c_Disk_blockAt l D cI cB a0 a1 a2 a3 a4 a5 a6 a7 a8 a9 ow bt ki pl va wr rm rs rz x1 x2 h4) ⟨(Nat.le_of_ble_eq_true rfl), (Nat.le_of_ble_eq_true rfl), (Nat.le_of_ble_eq_true rfl), (Nat.le_of_ble_eq_true rfl)⟩ 0 rfl rfl [0, 1, 2, 3, 4, 5, 6, 7, 8, 9] rfl rfl rfl (Up.same rfl) rfl rfl (Nat.le_of_ble_eq_true rfl) ?_
    refine x_iload_n (pc := 19) X d_Disk_goesOn_19 0 rfl rfl ?_
    refine x_iconst (pc := 20) X d_Disk_goesOn_20  ?_
    refine x_iadd (pc := 21) X d_Disk_goesOn_21  ?_
    refine x_icmpne (pc := 22) (tgt := 46) X d_Disk_goesOn_22 rfl h (fun h => ?_) (fun h => ?_)
    · skip
      refine x_iconst (pc := 46) X d_Disk_goesOn_46  ?_
      cases h
      exact x_zret (pc := 47) X hR d_Disk_goesOn_47 (Or.inl rfl)
    · skip
      refine x_aload_n (pc := 25) X d_Disk_goesOn_25 1 rfl rfl ?_
      refine x_iload_n (pc := 26) X d_Disk_goesOn_26 2 rfl rfl ?_
      refine x_iload_n (pc := 27) X d_Disk_goesOn_27 3 rfl rfl ?_
      obtain ⟨r5, h6, h⟩ := bnd_e h
      refine x_callV (pc := 28) (As := [.int (zi x1), .int (zi x2)]) (rest := []) (w2 := (w_Disk cI cB a0 a1 a2 a3 a4 a5 a6 a7 a8 a9 ow bt ki pl va wr rm rs rz)) X d_Disk_goesOn_28 lk_Disk_63 mv_Disk_isWritten (c_Disk_isWritten l D cI cB a0 a1 a2 a3 a4 a5 a6 a7 a8 a9 ow bt ki pl va wr rm rs rz x1 x2 h6) ⟨(Nat.le_of_ble_eq_true rfl), (Nat.le_of_ble_eq_true rfl), (Nat.le_of_ble_eq_true rfl), (Nat.le_of_ble_eq_true rfl)⟩ 0 rfl rfl [0, 1, 2, 3, 4, 5, 6, 7, 8, 9] rfl rfl rfl (Up.same rfl) rfl rfl (Nat.le_of_ble_eq_true rfl) ?_
      refine x_aload_n (pc := 31) X d_Disk_goesOn_31 1 rfl rfl ?_
      refine x_iload_n (pc := 32) X d_Disk_goesOn_32 2 rfl rfl ?_
      refine x_iload_n (pc := 33) X d_Disk_goesOn_33 3 rfl rfl ?_
      refine x_iconst (pc := 34) X d_Disk_goesOn_34  ?_
      refine x_isub (pc := 35) X d_Disk_goesOn_35  ?_
      obtain ⟨r7, h8, h⟩ := bnd_e h
      refine x_callV (pc := 36) (As := [.int (zi x1), .int (zi (x2 - 1))]) (rest := [.int (zi r5)]) (w2 := (w_Disk cI cB a0 a1 a2 a3 a4 a5 a6 a7 a8 a9 ow bt ki pl va wr rm rs rz)) X d_Disk_goesOn_36 lk_Disk_63 mv_Disk_isWritten (c_Disk_isWritten l D cI cB a0 a1 a2 a3 a4 a5 a6 a7 a8 a9 ow bt ki pl va wr rm rs rz x1 (x2 - 1) h8) ⟨(Nat.le_of_ble_eq_true rfl), (Nat.le_of_ble_eq_true rfl), (Nat.le_of_ble_eq_true rfl), (Nat.le_of_ble_eq_true rfl)⟩ 0 rfl rfl [0, 1, 2, 3, 4, 5, 6, 7, 8, 9] rfl rfl rfl (Up.same rfl) rfl rfl (Nat.le_of_ble_eq_true rfl) ?_
      refine x_icmpne (pc := 39) (tgt := 46) X d_Disk_goesOn_39 rfl h (fun h => ?_) (fun h => ?_)
      · skip
        refine x_iconst (pc := 46) X d_Disk_goesOn_46  ?_
        cases h
        exact x_zret (pc := 47) X hR d_Disk_goesOn_47 (Or.inl rfl)
      · skip
        refine x_iconst (pc := 42) X d_Disk_goesOn_42  ?_
        refine x_goto (pc := 43) (tgt := 47) X d_Disk_goesOn_43 rfl ?_
        cases h
        exact x_zret (pc := 47) X hR d_Disk_goesOn_47 (Or.inr rfl)
theorem d_Disk_extentsIn_0 : decode b_Disk_extentsIn 0 = .ok (.iconst 0, 1) := by decide +kernel
theorem d_Disk_extentsIn_1 : decode b_Disk_extentsIn 1 = .ok (.istore_n 2, 1) := by decide +kernel
theorem d_Disk_extentsIn_2 : decode b_Disk_extentsIn 2 = .ok (.iconst 0, 1) := by decide +kernel
theorem d_Disk_extentsIn_3 : decode b_Disk_extentsIn 3 = .ok (.istore_n 3, 1) := by decide +kernel
theorem d_Disk_extentsIn_4 : decode b_Disk_extentsIn 4 = .ok (.iload_n 3, 1) := by decide +kernel
theorem d_Disk_extentsIn_5 : decode b_Disk_extentsIn 5 = .ok (.bipush 24, 2) := by decide +kernel
theorem d_Disk_extentsIn_7 : decode b_Disk_extentsIn 7 = .ok (.if_icmp .ge 30, 3) := by decide +kernel
theorem d_Disk_extentsIn_10 : decode b_Disk_extentsIn 10 = .ok (.aload_n 0, 1) := by decide +kernel
theorem d_Disk_extentsIn_11 : decode b_Disk_extentsIn 11 = .ok (.iload_n 1, 1) := by decide +kernel
theorem d_Disk_extentsIn_12 : decode b_Disk_extentsIn 12 = .ok (.iload_n 3, 1) := by decide +kernel
theorem d_Disk_extentsIn_13 : decode b_Disk_extentsIn 13 = .ok (.invokevirtual 56, 3) := by decide +kernel
theorem d_Disk_extentsIn_16 : decode b_Disk_extentsIn 16 = .ok (.ifCond .lt 15, 3) := by decide +kernel
theorem d_Disk_extentsIn_19 : decode b_Disk_extentsIn 19 = .ok (.aload_n 0, 1) := by decide +kernel
theorem d_Disk_extentsIn_20 : decode b_Disk_extentsIn 20 = .ok (.iload_n 1, 1) := by decide +kernel
theorem d_Disk_extentsIn_21 : decode b_Disk_extentsIn 21 = .ok (.iload_n 3, 1) := by decide +kernel
theorem d_Disk_extentsIn_22 : decode b_Disk_extentsIn 22 = .ok (.invokevirtual 90, 3) := by decide +kernel
theorem d_Disk_extentsIn_25 : decode b_Disk_extentsIn 25 = .ok (.ifCond .ne 6, 3) := by decide +kernel
theorem d_Disk_extentsIn_28 : decode b_Disk_extentsIn 28 = .ok (.iinc 2 1, 3) := by decide +kernel
theorem d_Disk_extentsIn_31 : decode b_Disk_extentsIn 31 = .ok (.iinc 3 1, 3) := by decide +kernel
theorem d_Disk_extentsIn_34 : decode b_Disk_extentsIn 34 = .ok (.goto (-30), 3) := by decide +kernel
theorem d_Disk_extentsIn_37 : decode b_Disk_extentsIn 37 = .ok (.iload_n 2, 1) := by decide +kernel
theorem d_Disk_extentsIn_38 : decode b_Disk_extentsIn 38 = .ok (.ireturn, 1) := by decide +kernel
def m_Disk_extentsIn_4 : Nat → Int → Int → Int → (Int → Int) → (Int → Int) → Option (Int)
  | 0, _, _, _, _, _ => none
  | fuel + 1, v1, v2, v3, pl, wr =>
  clt v3 24 (bnd (m_Disk_blockAt v1 v3 pl) (fun r1 => clt r1 0 (m_Disk_extentsIn_4 fuel v1 v2 (v3 + 1) pl wr) (bnd (m_Disk_goesOn v1 v3 pl wr) (fun r3 => ceq r3 0 (m_Disk_extentsIn_4 fuel v1 (v2 + 1) (v3 + 1) pl wr) (m_Disk_extentsIn_4 fuel v1 v2 (v3 + 1) pl wr))))) (some (v2))
def m_Disk_extentsIn (x1 : Int) (pl : Int → Int) (wr : Int → Int) : Option (Int) :=
  m_Disk_extentsIn_4 5000 x1 0 0 pl wr
set_option maxHeartbeats 4000000 in
set_option maxRecDepth 100000 in
theorem l_Disk_extentsIn_4 {G : GT} {l : Launch} {D : va_G} {cI cB : ClassId} {a0 a1 a2 a3 a4 a5 a6 a7 a8 a9 : Nat} {ow : Int → Int} {bt : Int → Int} {ki : Int → Int} {va : Int → Int} {rm : Int} {rs : Int → Int} {rz : Int → Int} (X : Cx G l D cI cB b_Disk_extentsIn y_Disk_extentsIn.cls 4 { frames := 2, cells := 0, slots := 0, locals := 46 }) : ∀ (fuel : Nat) (v1 : Int) (v2 : Int) (v3 : Int) (pl : Int → Int) (wr : Int → Int) (o : Int), m_Disk_extentsIn_4 fuel v1 v2 v3 pl wr = some o → Rt G (some .int) (some (.int (zi o))) (w_Disk cI cB a0 a1 a2 a3 a4 a5 a6 a7 a8 a9 ow bt ki pl va wr rm rs rz) → Wx G 0 0 4 [(0, .ref a0), (1, .int (zi v1)), (2, .int (zi v2)), (3, .int (zi v3))] [] (w_Disk cI cB a0 a1 a2 a3 a4 a5 a6 a7 a8 a9 ow bt ki pl va wr rm rs rz) := by
  intro fuel
  induction fuel with
  | zero =>
    intro v1 v2 v3 pl wr o h
    exact absurd h (by simp [m_Disk_extentsIn_4])
  | succ fuel ih =>
    intro v1 v2 v3 pl wr o h hR
    rw [m_Disk_extentsIn_4] at h
    refine x_iload_n (pc := 4) X d_Disk_extentsIn_4 3 rfl rfl ?_
    refine x_bipush (pc := 5) (v := 24) X d_Disk_extentsIn_5 rfl ?_
    refine x_icmpge (pc := 7) (tgt := 37) X d_Disk_extentsIn_7 rfl h (fun h => ?_) (fun h => ?_)
    · skip
      refine x_iload_n (pc := 37) X d_Disk_extentsIn_37 2 rfl rfl ?_
      cases h
      exact x_iret (pc := 38) X hR d_Disk_extentsIn_38
    · skip
      refine x_aload_n (pc := 10) X d_Disk_extentsIn_10 0 rfl rfl ?_
      refine x_iload_n (pc := 11) X d_Disk_extentsIn_11 1 rfl rfl ?_
      refine x_iload_n (pc := 12) X d_Disk_extentsIn_12 3 rfl rfl ?_
      obtain ⟨r1, h2, h⟩ := bnd_e h
      refine x_callV (pc := 13) (As := [.int (zi v1), .int (zi v3)]) (rest := []) (w2 := (w_Disk cI cB a0 a1 a2 a3 a4 a5 a6 a7 a8 a9 ow bt ki pl va wr rm rs rz)) X d_Disk_extentsIn_13 lk_Disk_56 mv_Disk_blockAt (c_Disk_blockAt l D cI cB a0 a1 a2 a3 a4 a5 a6 a7 a8 a9 ow bt ki pl va wr rm rs rz v1 v3 h2) ⟨(Nat.le_of_ble_eq_true rfl), (Nat.le_of_ble_eq_true rfl), (Nat.le_of_ble_eq_true rfl), (Nat.le_of_ble_eq_true rfl)⟩ 0 rfl rfl [0, 1, 2, 3, 4, 5, 6, 7, 8, 9] rfl rfl rfl (Up.same rfl) rfl rfl (Nat.le_of_ble_eq_true rfl) ?_
      refine x_iflt (pc := 16) (tgt := 31) X d_Disk_extentsIn_16 rfl h (fun h => ?_) (fun h => ?_)
      · skip
        refine x_iinc (pc := 31) (ls2 := [(3, .int (zi (v3 + 1))), (0, .ref a0), (1, .int (zi v1)), (2, .int (zi v2))]) X d_Disk_extentsIn_31 3 (Nat.le_of_ble_eq_true rfl) rfl rfl ?_
        refine x_goto (pc := 34) (tgt := 4) X d_Disk_extentsIn_34 rfl ?_
        refine x_ls (ls2 := [(0, .ref a0), (1, .int (zi v1)), (2, .int (zi v2)), (3, .int (zi (v3 + 1)))]) [1, 2, 3, 0] rfl ?_
        exact ih v1 v2 (v3 + 1) pl wr o h hR
      · skip
        refine x_aload_n (pc := 19) X d_Disk_extentsIn_19 0 rfl rfl ?_
        refine x_iload_n (pc := 20) X d_Disk_extentsIn_20 1 rfl rfl ?_
        refine x_iload_n (pc := 21) X d_Disk_extentsIn_21 3 rfl rfl ?_
        obtain ⟨r3, h4, h⟩ := bnd_e h
        refine x_callV (pc := 22) (As := [.int (zi v1), .int (zi v3)]) (rest := []) (w2 := (w_Disk cI cB a0 a1 a2 a3 a4 a5 a6 a7 a8 a9 ow bt ki pl va wr rm rs rz)) X d_Disk_extentsIn_22 lk_Disk_90 mv_Disk_goesOn (c_Disk_goesOn l D cI cB a0 a1 a2 a3 a4 a5 a6 a7 a8 a9 ow bt ki pl va wr rm rs rz v1 v3 h4) ⟨(Nat.le_of_ble_eq_true rfl), (Nat.le_of_ble_eq_true rfl), (Nat.le_of_ble_eq_true rfl), (Nat.le_of_ble_eq_true rfl)⟩ 0 rfl rfl [0, 1, 2, 3, 4, 5, 6, 7, 8, 9] rfl rfl rfl (Up.same rfl) rfl rfl (Nat.le_of_ble_eq_true rfl) ?_
        refine x_ifne (pc := 25) (tgt := 31) X d_Disk_extentsIn_25 rfl h (fun h => ?_) (fun h => ?_)
        · skip
          refine x_iinc (pc := 31) (ls2 := [(3, .int (zi (v3 + 1))), (0, .ref a0), (1, .int (zi v1)), (2, .int (zi v2))]) X d_Disk_extentsIn_31 3 (Nat.le_of_ble_eq_true rfl) rfl rfl ?_
          refine x_goto (pc := 34) (tgt := 4) X d_Disk_extentsIn_34 rfl ?_
          refine x_ls (ls2 := [(0, .ref a0), (1, .int (zi v1)), (2, .int (zi v2)), (3, .int (zi (v3 + 1)))]) [1, 2, 3, 0] rfl ?_
          exact ih v1 v2 (v3 + 1) pl wr o h hR
        · skip
          refine x_iinc (pc := 28) (ls2 := [(2, .int (zi (v2 + 1))), (0, .ref a0), (1, .int (zi v1)), (3, .int (zi v3))]) X d_Disk_extentsIn_28 2 (Nat.le_of_ble_eq_true rfl) rfl rfl ?_
          refine x_iinc (pc := 31) (ls2 := [(3, .int (zi (v3 + 1))), (2, .int (zi (v2 + 1))), (0, .ref a0), (1, .int (zi v1))]) X d_Disk_extentsIn_31 3 (Nat.le_of_ble_eq_true rfl) rfl rfl ?_
          refine x_goto (pc := 34) (tgt := 4) X d_Disk_extentsIn_34 rfl ?_
          refine x_ls (ls2 := [(0, .ref a0), (1, .int (zi v1)), (2, .int (zi (v2 + 1))), (3, .int (zi (v3 + 1)))]) [2, 3, 1, 0] rfl ?_
          exact ih v1 (v2 + 1) (v3 + 1) pl wr o h hR
set_option maxHeartbeats 4000000 in
set_option maxRecDepth 100000 in
theorem c_Disk_extentsIn (l : Launch) (D : va_G) (cI cB : ClassId) (a0 a1 a2 a3 a4 a5 a6 a7 a8 a9 : Nat) (ow : Int → Int) (bt : Int → Int) (ki : Int → Int) (pl : Int → Int) (va : Int → Int) (wr : Int → Int) (rm : Int) (rs : Int → Int) (rz : Int → Int) (x1 : Int) {o : Int} (h : m_Disk_extentsIn x1 pl wr = some o) : Ct l D cI cB y_Disk_extentsIn b_Disk_extentsIn 4 (some .int) { frames := 2, cells := 0, slots := 0, locals := 46 } [.ref a0, .int (zi x1)] (w_Disk cI cB a0 a1 a2 a3 a4 a5 a6 a7 a8 a9 ow bt ki pl va wr rm rs rz) (w_Disk cI cB a0 a1 a2 a3 a4 a5 a6 a7 a8 a9 ow bt ki pl va wr rm rs rz) (some (.int (zi o))) := by
  refine Ct.start (by decide) (Nat.le_of_ble_eq_true rfl) (fun G X hR => ?_)
  refine x_ls (ls2 := [(0, .ref a0), (1, .int (zi x1))]) [0, 1] rfl ?_
  unfold m_Disk_extentsIn at h
  refine x_iconst (pc := 0) X d_Disk_extentsIn_0  ?_
  refine x_istore_n (pc := 1) (ls2 := [(2, .int (zi 0)), (0, .ref a0), (1, .int (zi x1))]) X d_Disk_extentsIn_1 rfl (Nat.le_of_ble_eq_true rfl) rfl ?_
  refine x_iconst (pc := 2) X d_Disk_extentsIn_2  ?_
  refine x_istore_n (pc := 3) (ls2 := [(3, .int (zi 0)), (2, .int (zi 0)), (0, .ref a0), (1, .int (zi x1))]) X d_Disk_extentsIn_3 rfl (Nat.le_of_ble_eq_true rfl) rfl ?_
  refine x_ls (ls2 := [(0, .ref a0), (1, .int (zi x1)), (2, .int (zi 0)), (3, .int (zi 0))]) [2, 3, 1, 0] rfl ?_
  exact l_Disk_extentsIn_4 X 5000 x1 0 0 pl wr o h hR
theorem d_Disk_promisedIn_0 : decode b_Disk_promisedIn 0 = .ok (.iconst 0, 1) := by decide +kernel
theorem d_Disk_promisedIn_1 : decode b_Disk_promisedIn 1 = .ok (.istore_n 2, 1) := by decide +kernel
theorem d_Disk_promisedIn_2 : decode b_Disk_promisedIn 2 = .ok (.iconst 0, 1) := by decide +kernel
theorem d_Disk_promisedIn_3 : decode b_Disk_promisedIn 3 = .ok (.istore_n 3, 1) := by decide +kernel
theorem d_Disk_promisedIn_4 : decode b_Disk_promisedIn 4 = .ok (.iload_n 3, 1) := by decide +kernel
theorem d_Disk_promisedIn_5 : decode b_Disk_promisedIn 5 = .ok (.bipush 24, 2) := by decide +kernel
theorem d_Disk_promisedIn_7 : decode b_Disk_promisedIn 7 = .ok (.if_icmp .ge 21, 3) := by decide +kernel
theorem d_Disk_promisedIn_10 : decode b_Disk_promisedIn 10 = .ok (.aload_n 0, 1) := by decide +kernel
theorem d_Disk_promisedIn_11 : decode b_Disk_promisedIn 11 = .ok (.iload_n 1, 1) := by decide +kernel
theorem d_Disk_promisedIn_12 : decode b_Disk_promisedIn 12 = .ok (.iload_n 3, 1) := by decide +kernel
theorem d_Disk_promisedIn_13 : decode b_Disk_promisedIn 13 = .ok (.invokevirtual 79, 3) := by decide +kernel
theorem d_Disk_promisedIn_16 : decode b_Disk_promisedIn 16 = .ok (.ifCond .eq 6, 3) := by decide +kernel
theorem d_Disk_promisedIn_19 : decode b_Disk_promisedIn 19 = .ok (.iinc 2 1, 3) := by decide +kernel
theorem d_Disk_promisedIn_22 : decode b_Disk_promisedIn 22 = .ok (.iinc 3 1, 3) := by decide +kernel
theorem d_Disk_promisedIn_25 : decode b_Disk_promisedIn 25 = .ok (.goto (-21), 3) := by decide +kernel
theorem d_Disk_promisedIn_28 : decode b_Disk_promisedIn 28 = .ok (.iload_n 2, 1) := by decide +kernel
theorem d_Disk_promisedIn_29 : decode b_Disk_promisedIn 29 = .ok (.ireturn, 1) := by decide +kernel
def m_Disk_promisedIn_4 : Nat → Int → Int → Int → (Int → Int) → (Int → Int) → Option (Int)
  | 0, _, _, _, _, _ => none
  | fuel + 1, v1, v2, v3, pl, va =>
  clt v3 24 (bnd (m_Disk_isPromised v1 v3 pl va) (fun r1 => ceq r1 0 (m_Disk_promisedIn_4 fuel v1 v2 (v3 + 1) pl va) (m_Disk_promisedIn_4 fuel v1 (v2 + 1) (v3 + 1) pl va))) (some (v2))
def m_Disk_promisedIn (x1 : Int) (pl : Int → Int) (va : Int → Int) : Option (Int) :=
  m_Disk_promisedIn_4 5000 x1 0 0 pl va
set_option maxHeartbeats 4000000 in
set_option maxRecDepth 100000 in
theorem l_Disk_promisedIn_4 {G : GT} {l : Launch} {D : va_G} {cI cB : ClassId} {a0 a1 a2 a3 a4 a5 a6 a7 a8 a9 : Nat} {ow : Int → Int} {bt : Int → Int} {ki : Int → Int} {wr : Int → Int} {rm : Int} {rs : Int → Int} {rz : Int → Int} (X : Cx G l D cI cB b_Disk_promisedIn y_Disk_promisedIn.cls 4 { frames := 2, cells := 0, slots := 0, locals := 45 }) : ∀ (fuel : Nat) (v1 : Int) (v2 : Int) (v3 : Int) (pl : Int → Int) (va : Int → Int) (o : Int), m_Disk_promisedIn_4 fuel v1 v2 v3 pl va = some o → Rt G (some .int) (some (.int (zi o))) (w_Disk cI cB a0 a1 a2 a3 a4 a5 a6 a7 a8 a9 ow bt ki pl va wr rm rs rz) → Wx G 0 0 4 [(0, .ref a0), (1, .int (zi v1)), (2, .int (zi v2)), (3, .int (zi v3))] [] (w_Disk cI cB a0 a1 a2 a3 a4 a5 a6 a7 a8 a9 ow bt ki pl va wr rm rs rz) := by
  intro fuel
  induction fuel with
  | zero =>
    intro v1 v2 v3 pl va o h
    exact absurd h (by simp [m_Disk_promisedIn_4])
  | succ fuel ih =>
    intro v1 v2 v3 pl va o h hR
    rw [m_Disk_promisedIn_4] at h
    refine x_iload_n (pc := 4) X d_Disk_promisedIn_4 3 rfl rfl ?_
    refine x_bipush (pc := 5) (v := 24) X d_Disk_promisedIn_5 rfl ?_
    refine x_icmpge (pc := 7) (tgt := 28) X d_Disk_promisedIn_7 rfl h (fun h => ?_) (fun h => ?_)
    · skip
      refine x_iload_n (pc := 28) X d_Disk_promisedIn_28 2 rfl rfl ?_
      cases h
      exact x_iret (pc := 29) X hR d_Disk_promisedIn_29
    · skip
      refine x_aload_n (pc := 10) X d_Disk_promisedIn_10 0 rfl rfl ?_
      refine x_iload_n (pc := 11) X d_Disk_promisedIn_11 1 rfl rfl ?_
      refine x_iload_n (pc := 12) X d_Disk_promisedIn_12 3 rfl rfl ?_
      obtain ⟨r1, h2, h⟩ := bnd_e h
      refine x_callV (pc := 13) (As := [.int (zi v1), .int (zi v3)]) (rest := []) (w2 := (w_Disk cI cB a0 a1 a2 a3 a4 a5 a6 a7 a8 a9 ow bt ki pl va wr rm rs rz)) X d_Disk_promisedIn_13 lk_Disk_79 mv_Disk_isPromised (c_Disk_isPromised l D cI cB a0 a1 a2 a3 a4 a5 a6 a7 a8 a9 ow bt ki pl va wr rm rs rz v1 v3 h2) ⟨(Nat.le_of_ble_eq_true rfl), (Nat.le_of_ble_eq_true rfl), (Nat.le_of_ble_eq_true rfl), (Nat.le_of_ble_eq_true rfl)⟩ 0 rfl rfl [0, 1, 2, 3, 4, 5, 6, 7, 8, 9] rfl rfl rfl (Up.same rfl) rfl rfl (Nat.le_of_ble_eq_true rfl) ?_
      refine x_ifeq (pc := 16) (tgt := 22) X d_Disk_promisedIn_16 rfl h (fun h => ?_) (fun h => ?_)
      · skip
        refine x_iinc (pc := 22) (ls2 := [(3, .int (zi (v3 + 1))), (0, .ref a0), (1, .int (zi v1)), (2, .int (zi v2))]) X d_Disk_promisedIn_22 3 (Nat.le_of_ble_eq_true rfl) rfl rfl ?_
        refine x_goto (pc := 25) (tgt := 4) X d_Disk_promisedIn_25 rfl ?_
        refine x_ls (ls2 := [(0, .ref a0), (1, .int (zi v1)), (2, .int (zi v2)), (3, .int (zi (v3 + 1)))]) [1, 2, 3, 0] rfl ?_
        exact ih v1 v2 (v3 + 1) pl va o h hR
      · skip
        refine x_iinc (pc := 19) (ls2 := [(2, .int (zi (v2 + 1))), (0, .ref a0), (1, .int (zi v1)), (3, .int (zi v3))]) X d_Disk_promisedIn_19 2 (Nat.le_of_ble_eq_true rfl) rfl rfl ?_
        refine x_iinc (pc := 22) (ls2 := [(3, .int (zi (v3 + 1))), (2, .int (zi (v2 + 1))), (0, .ref a0), (1, .int (zi v1))]) X d_Disk_promisedIn_22 3 (Nat.le_of_ble_eq_true rfl) rfl rfl ?_
        refine x_goto (pc := 25) (tgt := 4) X d_Disk_promisedIn_25 rfl ?_
        refine x_ls (ls2 := [(0, .ref a0), (1, .int (zi v1)), (2, .int (zi (v2 + 1))), (3, .int (zi (v3 + 1)))]) [2, 3, 1, 0] rfl ?_
        exact ih v1 (v2 + 1) (v3 + 1) pl va o h hR
set_option maxHeartbeats 4000000 in
set_option maxRecDepth 100000 in
theorem c_Disk_promisedIn (l : Launch) (D : va_G) (cI cB : ClassId) (a0 a1 a2 a3 a4 a5 a6 a7 a8 a9 : Nat) (ow : Int → Int) (bt : Int → Int) (ki : Int → Int) (pl : Int → Int) (va : Int → Int) (wr : Int → Int) (rm : Int) (rs : Int → Int) (rz : Int → Int) (x1 : Int) {o : Int} (h : m_Disk_promisedIn x1 pl va = some o) : Ct l D cI cB y_Disk_promisedIn b_Disk_promisedIn 4 (some .int) { frames := 2, cells := 0, slots := 0, locals := 45 } [.ref a0, .int (zi x1)] (w_Disk cI cB a0 a1 a2 a3 a4 a5 a6 a7 a8 a9 ow bt ki pl va wr rm rs rz) (w_Disk cI cB a0 a1 a2 a3 a4 a5 a6 a7 a8 a9 ow bt ki pl va wr rm rs rz) (some (.int (zi o))) := by
  refine Ct.start (by decide) (Nat.le_of_ble_eq_true rfl) (fun G X hR => ?_)
  refine x_ls (ls2 := [(0, .ref a0), (1, .int (zi x1))]) [0, 1] rfl ?_
  unfold m_Disk_promisedIn at h
  refine x_iconst (pc := 0) X d_Disk_promisedIn_0  ?_
  refine x_istore_n (pc := 1) (ls2 := [(2, .int (zi 0)), (0, .ref a0), (1, .int (zi x1))]) X d_Disk_promisedIn_1 rfl (Nat.le_of_ble_eq_true rfl) rfl ?_
  refine x_iconst (pc := 2) X d_Disk_promisedIn_2  ?_
  refine x_istore_n (pc := 3) (ls2 := [(3, .int (zi 0)), (2, .int (zi 0)), (0, .ref a0), (1, .int (zi x1))]) X d_Disk_promisedIn_3 rfl (Nat.le_of_ble_eq_true rfl) rfl ?_
  refine x_ls (ls2 := [(0, .ref a0), (1, .int (zi x1)), (2, .int (zi 0)), (3, .int (zi 0))]) [2, 3, 1, 0] rfl ?_
  exact l_Disk_promisedIn_4 X 5000 x1 0 0 pl va o h hR
theorem d_Disk_waitingIn_0 : decode b_Disk_waitingIn 0 = .ok (.iconst 0, 1) := by decide +kernel
theorem d_Disk_waitingIn_1 : decode b_Disk_waitingIn 1 = .ok (.istore_n 2, 1) := by decide +kernel
theorem d_Disk_waitingIn_2 : decode b_Disk_waitingIn 2 = .ok (.iconst 0, 1) := by decide +kernel
theorem d_Disk_waitingIn_3 : decode b_Disk_waitingIn 3 = .ok (.istore_n 3, 1) := by decide +kernel
theorem d_Disk_waitingIn_4 : decode b_Disk_waitingIn 4 = .ok (.iload_n 3, 1) := by decide +kernel
theorem d_Disk_waitingIn_5 : decode b_Disk_waitingIn 5 = .ok (.bipush 24, 2) := by decide +kernel
theorem d_Disk_waitingIn_7 : decode b_Disk_waitingIn 7 = .ok (.if_icmp .ge 21, 3) := by decide +kernel
theorem d_Disk_waitingIn_10 : decode b_Disk_waitingIn 10 = .ok (.aload_n 0, 1) := by decide +kernel
theorem d_Disk_waitingIn_11 : decode b_Disk_waitingIn 11 = .ok (.iload_n 1, 1) := by decide +kernel
theorem d_Disk_waitingIn_12 : decode b_Disk_waitingIn 12 = .ok (.iload_n 3, 1) := by decide +kernel
theorem d_Disk_waitingIn_13 : decode b_Disk_waitingIn 13 = .ok (.invokevirtual 60, 3) := by decide +kernel
theorem d_Disk_waitingIn_16 : decode b_Disk_waitingIn 16 = .ok (.ifCond .lt 6, 3) := by decide +kernel
theorem d_Disk_waitingIn_19 : decode b_Disk_waitingIn 19 = .ok (.iinc 2 1, 3) := by decide +kernel
theorem d_Disk_waitingIn_22 : decode b_Disk_waitingIn 22 = .ok (.iinc 3 1, 3) := by decide +kernel
theorem d_Disk_waitingIn_25 : decode b_Disk_waitingIn 25 = .ok (.goto (-21), 3) := by decide +kernel
theorem d_Disk_waitingIn_28 : decode b_Disk_waitingIn 28 = .ok (.iload_n 2, 1) := by decide +kernel
theorem d_Disk_waitingIn_29 : decode b_Disk_waitingIn 29 = .ok (.ireturn, 1) := by decide +kernel
def m_Disk_waitingIn_4 : Nat → Int → Int → Int → (Int → Int) → Option (Int)
  | 0, _, _, _, _ => none
  | fuel + 1, v1, v2, v3, va =>
  clt v3 24 (bnd (m_Disk_valueAt v1 v3 va) (fun r1 => clt r1 0 (m_Disk_waitingIn_4 fuel v1 v2 (v3 + 1) va) (m_Disk_waitingIn_4 fuel v1 (v2 + 1) (v3 + 1) va))) (some (v2))
def m_Disk_waitingIn (x1 : Int) (va : Int → Int) : Option (Int) :=
  m_Disk_waitingIn_4 5000 x1 0 0 va
set_option maxHeartbeats 4000000 in
set_option maxRecDepth 100000 in
theorem l_Disk_waitingIn_4 {G : GT} {l : Launch} {D : va_G} {cI cB : ClassId} {a0 a1 a2 a3 a4 a5 a6 a7 a8 a9 : Nat} {ow : Int → Int} {bt : Int → Int} {ki : Int → Int} {pl : Int → Int} {wr : Int → Int} {rm : Int} {rs : Int → Int} {rz : Int → Int} (X : Cx G l D cI cB b_Disk_waitingIn y_Disk_waitingIn.cls 4 { frames := 1, cells := 0, slots := 0, locals := 23 }) : ∀ (fuel : Nat) (v1 : Int) (v2 : Int) (v3 : Int) (va : Int → Int) (o : Int), m_Disk_waitingIn_4 fuel v1 v2 v3 va = some o → Rt G (some .int) (some (.int (zi o))) (w_Disk cI cB a0 a1 a2 a3 a4 a5 a6 a7 a8 a9 ow bt ki pl va wr rm rs rz) → Wx G 0 0 4 [(0, .ref a0), (1, .int (zi v1)), (2, .int (zi v2)), (3, .int (zi v3))] [] (w_Disk cI cB a0 a1 a2 a3 a4 a5 a6 a7 a8 a9 ow bt ki pl va wr rm rs rz) := by
  intro fuel
  induction fuel with
  | zero =>
    intro v1 v2 v3 va o h
    exact absurd h (by simp [m_Disk_waitingIn_4])
  | succ fuel ih =>
    intro v1 v2 v3 va o h hR
    rw [m_Disk_waitingIn_4] at h
    refine x_iload_n (pc := 4) X d_Disk_waitingIn_4 3 rfl rfl ?_
    refine x_bipush (pc := 5) (v := 24) X d_Disk_waitingIn_5 rfl ?_
    refine x_icmpge (pc := 7) (tgt := 28) X d_Disk_waitingIn_7 rfl h (fun h => ?_) (fun h => ?_)
    · skip
      refine x_iload_n (pc := 28) X d_Disk_waitingIn_28 2 rfl rfl ?_
      cases h
      exact x_iret (pc := 29) X hR d_Disk_waitingIn_29
    · skip
      refine x_aload_n (pc := 10) X d_Disk_waitingIn_10 0 rfl rfl ?_
      refine x_iload_n (pc := 11) X d_Disk_waitingIn_11 1 rfl rfl ?_
      refine x_iload_n (pc := 12) X d_Disk_waitingIn_12 3 rfl rfl ?_
      obtain ⟨r1, h2, h⟩ := bnd_e h
      refine x_callV (pc := 13) (As := [.int (zi v1), .int (zi v3)]) (rest := []) (w2 := (w_Disk cI cB a0 a1 a2 a3 a4 a5 a6 a7 a8 a9 ow bt ki pl va wr rm rs rz)) X d_Disk_waitingIn_13 lk_Disk_60 mv_Disk_valueAt (c_Disk_valueAt l D cI cB a0 a1 a2 a3 a4 a5 a6 a7 a8 a9 ow bt ki pl va wr rm rs rz v1 v3 h2) ⟨(Nat.le_of_ble_eq_true rfl), (Nat.le_of_ble_eq_true rfl), (Nat.le_of_ble_eq_true rfl), (Nat.le_of_ble_eq_true rfl)⟩ 0 rfl rfl [0, 1, 2, 3, 4, 5, 6, 7, 8, 9] rfl rfl rfl (Up.same rfl) rfl rfl (Nat.le_of_ble_eq_true rfl) ?_
      refine x_iflt (pc := 16) (tgt := 22) X d_Disk_waitingIn_16 rfl h (fun h => ?_) (fun h => ?_)
      · skip
        refine x_iinc (pc := 22) (ls2 := [(3, .int (zi (v3 + 1))), (0, .ref a0), (1, .int (zi v1)), (2, .int (zi v2))]) X d_Disk_waitingIn_22 3 (Nat.le_of_ble_eq_true rfl) rfl rfl ?_
        refine x_goto (pc := 25) (tgt := 4) X d_Disk_waitingIn_25 rfl ?_
        refine x_ls (ls2 := [(0, .ref a0), (1, .int (zi v1)), (2, .int (zi v2)), (3, .int (zi (v3 + 1)))]) [1, 2, 3, 0] rfl ?_
        exact ih v1 v2 (v3 + 1) va o h hR
      · skip
        refine x_iinc (pc := 19) (ls2 := [(2, .int (zi (v2 + 1))), (0, .ref a0), (1, .int (zi v1)), (3, .int (zi v3))]) X d_Disk_waitingIn_19 2 (Nat.le_of_ble_eq_true rfl) rfl rfl ?_
        refine x_iinc (pc := 22) (ls2 := [(3, .int (zi (v3 + 1))), (2, .int (zi (v2 + 1))), (0, .ref a0), (1, .int (zi v1))]) X d_Disk_waitingIn_22 3 (Nat.le_of_ble_eq_true rfl) rfl rfl ?_
        refine x_goto (pc := 25) (tgt := 4) X d_Disk_waitingIn_25 rfl ?_
        refine x_ls (ls2 := [(0, .ref a0), (1, .int (zi v1)), (2, .int (zi (v2 + 1))), (3, .int (zi (v3 + 1)))]) [2, 3, 1, 0] rfl ?_
        exact ih v1 (v2 + 1) (v3 + 1) va o h hR
set_option maxHeartbeats 4000000 in
set_option maxRecDepth 100000 in
theorem c_Disk_waitingIn (l : Launch) (D : va_G) (cI cB : ClassId) (a0 a1 a2 a3 a4 a5 a6 a7 a8 a9 : Nat) (ow : Int → Int) (bt : Int → Int) (ki : Int → Int) (pl : Int → Int) (va : Int → Int) (wr : Int → Int) (rm : Int) (rs : Int → Int) (rz : Int → Int) (x1 : Int) {o : Int} (h : m_Disk_waitingIn x1 va = some o) : Ct l D cI cB y_Disk_waitingIn b_Disk_waitingIn 4 (some .int) { frames := 1, cells := 0, slots := 0, locals := 23 } [.ref a0, .int (zi x1)] (w_Disk cI cB a0 a1 a2 a3 a4 a5 a6 a7 a8 a9 ow bt ki pl va wr rm rs rz) (w_Disk cI cB a0 a1 a2 a3 a4 a5 a6 a7 a8 a9 ow bt ki pl va wr rm rs rz) (some (.int (zi o))) := by
  refine Ct.start (by decide) (Nat.le_of_ble_eq_true rfl) (fun G X hR => ?_)
  refine x_ls (ls2 := [(0, .ref a0), (1, .int (zi x1))]) [0, 1] rfl ?_
  unfold m_Disk_waitingIn at h
  refine x_iconst (pc := 0) X d_Disk_waitingIn_0  ?_
  refine x_istore_n (pc := 1) (ls2 := [(2, .int (zi 0)), (0, .ref a0), (1, .int (zi x1))]) X d_Disk_waitingIn_1 rfl (Nat.le_of_ble_eq_true rfl) rfl ?_
  refine x_iconst (pc := 2) X d_Disk_waitingIn_2  ?_
  refine x_istore_n (pc := 3) (ls2 := [(3, .int (zi 0)), (2, .int (zi 0)), (0, .ref a0), (1, .int (zi x1))]) X d_Disk_waitingIn_3 rfl (Nat.le_of_ble_eq_true rfl) rfl ?_
  refine x_ls (ls2 := [(0, .ref a0), (1, .int (zi x1)), (2, .int (zi 0)), (3, .int (zi 0))]) [2, 3, 1, 0] rfl ?_
  exact l_Disk_waitingIn_4 X 5000 x1 0 0 va o h hR
theorem d_Disk_byteAt_0 : decode b_Disk_byteAt 0 = .ok (.iload_n 1, 1) := by decide +kernel
theorem d_Disk_byteAt_1 : decode b_Disk_byteAt 1 = .ok (.ifCond .lt 21, 3) := by decide +kernel
theorem d_Disk_byteAt_4 : decode b_Disk_byteAt 4 = .ok (.iload_n 1, 1) := by decide +kernel
theorem d_Disk_byteAt_5 : decode b_Disk_byteAt 5 = .ok (.aload_n 0, 1) := by decide +kernel
theorem d_Disk_byteAt_6 : decode b_Disk_byteAt 6 = .ok (.getfield 15, 3) := by decide +kernel
theorem d_Disk_byteAt_9 : decode b_Disk_byteAt 9 = .ok (.arraylength, 1) := by decide +kernel
theorem d_Disk_byteAt_10 : decode b_Disk_byteAt 10 = .ok (.if_icmp .ge 12, 3) := by decide +kernel
theorem d_Disk_byteAt_13 : decode b_Disk_byteAt 13 = .ok (.aload_n 0, 1) := by decide +kernel
theorem d_Disk_byteAt_14 : decode b_Disk_byteAt 14 = .ok (.getfield 15, 3) := by decide +kernel
theorem d_Disk_byteAt_17 : decode b_Disk_byteAt 17 = .ok (.iload_n 1, 1) := by decide +kernel
theorem d_Disk_byteAt_18 : decode b_Disk_byteAt 18 = .ok (.iaload, 1) := by decide +kernel
theorem d_Disk_byteAt_19 : decode b_Disk_byteAt 19 = .ok (.goto 4, 3) := by decide +kernel
theorem d_Disk_byteAt_22 : decode b_Disk_byteAt 22 = .ok (.iconst 0, 1) := by decide +kernel
theorem d_Disk_byteAt_23 : decode b_Disk_byteAt 23 = .ok (.ireturn, 1) := by decide +kernel
def m_Disk_byteAt (x1 : Int) (bt : Int → Int) : Option (Int) :=
  clt x1 0 (some (0)) (clt x1 64 (gd (zx x1 64) (some ((bt x1)))) (some (0)))
set_option maxHeartbeats 4000000 in
set_option maxRecDepth 100000 in
theorem c_Disk_byteAt (l : Launch) (D : va_G) (cI cB : ClassId) (a0 a1 a2 a3 a4 a5 a6 a7 a8 a9 : Nat) (ow : Int → Int) (bt : Int → Int) (ki : Int → Int) (pl : Int → Int) (va : Int → Int) (wr : Int → Int) (rm : Int) (rs : Int → Int) (rz : Int → Int) (x1 : Int) {o : Int} (h : m_Disk_byteAt x1 bt = some o) : Ct l D cI cB y_Disk_byteAt b_Disk_byteAt 2 (some .int) { frames := 0, cells := 0, slots := 0, locals := 0 } [.ref a0, .int (zi x1)] (w_Disk cI cB a0 a1 a2 a3 a4 a5 a6 a7 a8 a9 ow bt ki pl va wr rm rs rz) (w_Disk cI cB a0 a1 a2 a3 a4 a5 a6 a7 a8 a9 ow bt ki pl va wr rm rs rz) (some (.int (zi o))) := by
  refine Ct.start (by decide) (Nat.le_of_ble_eq_true rfl) (fun G X hR => ?_)
  refine x_ls (ls2 := [(0, .ref a0), (1, .int (zi x1))]) [0, 1] rfl ?_
  unfold m_Disk_byteAt at h
  refine x_iload_n (pc := 0) X d_Disk_byteAt_0 1 rfl rfl ?_
  refine x_iflt (pc := 1) (tgt := 22) X d_Disk_byteAt_1 rfl h (fun h => ?_) (fun h => ?_)
  · skip
    refine x_iconst (pc := 22) X d_Disk_byteAt_22  ?_
    cases h
    exact x_iret (pc := 23) X hR d_Disk_byteAt_23
  · skip
    refine x_iload_n (pc := 4) X d_Disk_byteAt_4 1 rfl rfl ?_
    refine x_aload_n (pc := 5) X d_Disk_byteAt_5 0 rfl rfl ?_
    refine x_get (pc := 6) X d_Disk_byteAt_6 0 rfl fl_Disk_15 rfl ?_
    refine x_alen (pc := 9) (M := 64) X d_Disk_byteAt_9 2 rfl rfl ?_
    refine x_icmpge (pc := 10) (tgt := 22) X d_Disk_byteAt_10 rfl h (fun h => ?_) (fun h => ?_)
    · skip
      refine x_iconst (pc := 22) X d_Disk_byteAt_22  ?_
      cases h
      exact x_iret (pc := 23) X hR d_Disk_byteAt_23
    · skip
      refine x_aload_n (pc := 13) X d_Disk_byteAt_13 0 rfl rfl ?_
      refine x_get (pc := 14) X d_Disk_byteAt_14 0 rfl fl_Disk_15 rfl ?_
      refine x_iload_n (pc := 17) X d_Disk_byteAt_17 1 rfl rfl ?_
      refine x_iald (pc := 18) X d_Disk_byteAt_18 2 rfl (Nat.le_of_ble_eq_true rfl) rfl h (fun h => ?_)
      refine x_goto (pc := 19) (tgt := 23) X d_Disk_byteAt_19 rfl ?_
      cases h
      exact x_iret (pc := 23) X hR d_Disk_byteAt_23
theorem d_Disk_readAt_0 : decode b_Disk_readAt 0 = .ok (.aload_n 0, 1) := by decide +kernel
theorem d_Disk_readAt_1 : decode b_Disk_readAt 1 = .ok (.iload_n 1, 1) := by decide +kernel
theorem d_Disk_readAt_2 : decode b_Disk_readAt 2 = .ok (.iload_n 2, 1) := by decide +kernel
theorem d_Disk_readAt_3 : decode b_Disk_readAt 3 = .ok (.invokevirtual 60, 3) := by decide +kernel
theorem d_Disk_readAt_6 : decode b_Disk_readAt 6 = .ok (.ifCond .lt 10, 3) := by decide +kernel
theorem d_Disk_readAt_9 : decode b_Disk_readAt 9 = .ok (.aload_n 0, 1) := by decide +kernel
theorem d_Disk_readAt_10 : decode b_Disk_readAt 10 = .ok (.iload_n 1, 1) := by decide +kernel
theorem d_Disk_readAt_11 : decode b_Disk_readAt 11 = .ok (.iload_n 2, 1) := by decide +kernel
theorem d_Disk_readAt_12 : decode b_Disk_readAt 12 = .ok (.invokevirtual 60, 3) := by decide +kernel
theorem d_Disk_readAt_15 : decode b_Disk_readAt 15 = .ok (.ireturn, 1) := by decide +kernel
theorem d_Disk_readAt_16 : decode b_Disk_readAt 16 = .ok (.aload_n 0, 1) := by decide +kernel
theorem d_Disk_readAt_17 : decode b_Disk_readAt 17 = .ok (.iload_n 1, 1) := by decide +kernel
theorem d_Disk_readAt_18 : decode b_Disk_readAt 18 = .ok (.iload_n 2, 1) := by decide +kernel
theorem d_Disk_readAt_19 : decode b_Disk_readAt 19 = .ok (.invokevirtual 63, 3) := by decide +kernel
theorem d_Disk_readAt_22 : decode b_Disk_readAt 22 = .ok (.ifCond .eq 16, 3) := by decide +kernel
theorem d_Disk_readAt_25 : decode b_Disk_readAt 25 = .ok (.aload_n 0, 1) := by decide +kernel
theorem d_Disk_readAt_26 : decode b_Disk_readAt 26 = .ok (.aload_n 0, 1) := by decide +kernel
theorem d_Disk_readAt_27 : decode b_Disk_readAt 27 = .ok (.iload_n 1, 1) := by decide +kernel
theorem d_Disk_readAt_28 : decode b_Disk_readAt 28 = .ok (.iload_n 2, 1) := by decide +kernel
theorem d_Disk_readAt_29 : decode b_Disk_readAt 29 = .ok (.invokevirtual 56, 3) := by decide +kernel
theorem d_Disk_readAt_32 : decode b_Disk_readAt 32 = .ok (.invokevirtual 67, 3) := by decide +kernel
theorem d_Disk_readAt_35 : decode b_Disk_readAt 35 = .ok (.goto 4, 3) := by decide +kernel
theorem d_Disk_readAt_38 : decode b_Disk_readAt 38 = .ok (.iconst 0, 1) := by decide +kernel
theorem d_Disk_readAt_39 : decode b_Disk_readAt 39 = .ok (.ireturn, 1) := by decide +kernel
def m_Disk_readAt (x1 : Int) (x2 : Int) (bt : Int → Int) (pl : Int → Int) (va : Int → Int) (wr : Int → Int) : Option (Int) :=
  bnd (m_Disk_valueAt x1 x2 va) (fun r1 => clt r1 0 (bnd (m_Disk_isWritten x1 x2 wr) (fun r3 => ceq r3 0 (some (0)) (bnd (m_Disk_blockAt x1 x2 pl) (fun r5 => bnd (m_Disk_byteAt r5 bt) (fun r7 => some (r7)))))) (bnd (m_Disk_valueAt x1 x2 va) (fun r9 => some (r9))))
set_option maxHeartbeats 4000000 in
set_option maxRecDepth 100000 in
theorem c_Disk_readAt (l : Launch) (D : va_G) (cI cB : ClassId) (a0 a1 a2 a3 a4 a5 a6 a7 a8 a9 : Nat) (ow : Int → Int) (bt : Int → Int) (ki : Int → Int) (pl : Int → Int) (va : Int → Int) (wr : Int → Int) (rm : Int) (rs : Int → Int) (rz : Int → Int) (x1 : Int) (x2 : Int) {o : Int} (h : m_Disk_readAt x1 x2 bt pl va wr = some o) : Ct l D cI cB y_Disk_readAt b_Disk_readAt 3 (some .int) { frames := 1, cells := 0, slots := 0, locals := 23 } [.ref a0, .int (zi x1), .int (zi x2)] (w_Disk cI cB a0 a1 a2 a3 a4 a5 a6 a7 a8 a9 ow bt ki pl va wr rm rs rz) (w_Disk cI cB a0 a1 a2 a3 a4 a5 a6 a7 a8 a9 ow bt ki pl va wr rm rs rz) (some (.int (zi o))) := by
  refine Ct.start (by decide) (Nat.le_of_ble_eq_true rfl) (fun G X hR => ?_)
  refine x_ls (ls2 := [(0, .ref a0), (1, .int (zi x1)), (2, .int (zi x2))]) [0, 1, 2] rfl ?_
  unfold m_Disk_readAt at h
  refine x_aload_n (pc := 0) X d_Disk_readAt_0 0 rfl rfl ?_
  refine x_iload_n (pc := 1) X d_Disk_readAt_1 1 rfl rfl ?_
  refine x_iload_n (pc := 2) X d_Disk_readAt_2 2 rfl rfl ?_
  obtain ⟨r1, h2, h⟩ := bnd_e h
  refine x_callV (pc := 3) (As := [.int (zi x1), .int (zi x2)]) (rest := []) (w2 := (w_Disk cI cB a0 a1 a2 a3 a4 a5 a6 a7 a8 a9 ow bt ki pl va wr rm rs rz)) X d_Disk_readAt_3 lk_Disk_60 mv_Disk_valueAt (c_Disk_valueAt l D cI cB a0 a1 a2 a3 a4 a5 a6 a7 a8 a9 ow bt ki pl va wr rm rs rz x1 x2 h2) ⟨(Nat.le_of_ble_eq_true rfl), (Nat.le_of_ble_eq_true rfl), (Nat.le_of_ble_eq_true rfl), (Nat.le_of_ble_eq_true rfl)⟩ 0 rfl rfl [0, 1, 2, 3, 4, 5, 6, 7, 8, 9] rfl rfl rfl (Up.same rfl) rfl rfl (Nat.le_of_ble_eq_true rfl) ?_
  refine x_iflt (pc := 6) (tgt := 16) X d_Disk_readAt_6 rfl h (fun h => ?_) (fun h => ?_)
  · skip
    refine x_aload_n (pc := 16) X d_Disk_readAt_16 0 rfl rfl ?_
    refine x_iload_n (pc := 17) X d_Disk_readAt_17 1 rfl rfl ?_
    refine x_iload_n (pc := 18) X d_Disk_readAt_18 2 rfl rfl ?_
    obtain ⟨r3, h4, h⟩ := bnd_e h
    refine x_callV (pc := 19) (As := [.int (zi x1), .int (zi x2)]) (rest := []) (w2 := (w_Disk cI cB a0 a1 a2 a3 a4 a5 a6 a7 a8 a9 ow bt ki pl va wr rm rs rz)) X d_Disk_readAt_19 lk_Disk_63 mv_Disk_isWritten (c_Disk_isWritten l D cI cB a0 a1 a2 a3 a4 a5 a6 a7 a8 a9 ow bt ki pl va wr rm rs rz x1 x2 h4) ⟨(Nat.le_of_ble_eq_true rfl), (Nat.le_of_ble_eq_true rfl), (Nat.le_of_ble_eq_true rfl), (Nat.le_of_ble_eq_true rfl)⟩ 0 rfl rfl [0, 1, 2, 3, 4, 5, 6, 7, 8, 9] rfl rfl rfl (Up.same rfl) rfl rfl (Nat.le_of_ble_eq_true rfl) ?_
    refine x_ifeq (pc := 22) (tgt := 38) X d_Disk_readAt_22 rfl h (fun h => ?_) (fun h => ?_)
    · skip
      refine x_iconst (pc := 38) X d_Disk_readAt_38  ?_
      cases h
      exact x_iret (pc := 39) X hR d_Disk_readAt_39
    · skip
      refine x_aload_n (pc := 25) X d_Disk_readAt_25 0 rfl rfl ?_
      refine x_aload_n (pc := 26) X d_Disk_readAt_26 0 rfl rfl ?_
      refine x_iload_n (pc := 27) X d_Disk_readAt_27 1 rfl rfl ?_
      refine x_iload_n (pc := 28) X d_Disk_readAt_28 2 rfl rfl ?_
      obtain ⟨r5, h6, h⟩ := bnd_e h
      refine x_callV (pc := 29) (As := [.int (zi x1), .int (zi x2)]) (rest := [.ref a0]) (w2 := (w_Disk cI cB a0 a1 a2 a3 a4 a5 a6 a7 a8 a9 ow bt ki pl va wr rm rs rz)) X d_Disk_readAt_29 lk_Disk_56 mv_Disk_blockAt (c_Disk_blockAt l D cI cB a0 a1 a2 a3 a4 a5 a6 a7 a8 a9 ow bt ki pl va wr rm rs rz x1 x2 h6) ⟨(Nat.le_of_ble_eq_true rfl), (Nat.le_of_ble_eq_true rfl), (Nat.le_of_ble_eq_true rfl), (Nat.le_of_ble_eq_true rfl)⟩ 0 rfl rfl [0, 1, 2, 3, 4, 5, 6, 7, 8, 9] rfl rfl rfl (Up.same rfl) rfl rfl (Nat.le_of_ble_eq_true rfl) ?_
      obtain ⟨r7, h8, h⟩ := bnd_e h
      refine x_callV (pc := 32) (As := [.int (zi r5)]) (rest := []) (w2 := (w_Disk cI cB a0 a1 a2 a3 a4 a5 a6 a7 a8 a9 ow bt ki pl va wr rm rs rz)) X d_Disk_readAt_32 lk_Disk_67 mv_Disk_byteAt (c_Disk_byteAt l D cI cB a0 a1 a2 a3 a4 a5 a6 a7 a8 a9 ow bt ki pl va wr rm rs rz r5 h8) ⟨(Nat.le_of_ble_eq_true rfl), (Nat.le_of_ble_eq_true rfl), (Nat.le_of_ble_eq_true rfl), (Nat.le_of_ble_eq_true rfl)⟩ 0 rfl rfl [0, 1, 2, 3, 4, 5, 6, 7, 8, 9] rfl rfl rfl (Up.same rfl) rfl rfl (Nat.le_of_ble_eq_true rfl) ?_
      refine x_goto (pc := 35) (tgt := 39) X d_Disk_readAt_35 rfl ?_
      cases h
      exact x_iret (pc := 39) X hR d_Disk_readAt_39
  · skip
    refine x_aload_n (pc := 9) X d_Disk_readAt_9 0 rfl rfl ?_
    refine x_iload_n (pc := 10) X d_Disk_readAt_10 1 rfl rfl ?_
    refine x_iload_n (pc := 11) X d_Disk_readAt_11 2 rfl rfl ?_
    obtain ⟨r9, h10, h⟩ := bnd_e h
    refine x_callV (pc := 12) (As := [.int (zi x1), .int (zi x2)]) (rest := []) (w2 := (w_Disk cI cB a0 a1 a2 a3 a4 a5 a6 a7 a8 a9 ow bt ki pl va wr rm rs rz)) X d_Disk_readAt_12 lk_Disk_60 mv_Disk_valueAt (c_Disk_valueAt l D cI cB a0 a1 a2 a3 a4 a5 a6 a7 a8 a9 ow bt ki pl va wr rm rs rz x1 x2 h10) ⟨(Nat.le_of_ble_eq_true rfl), (Nat.le_of_ble_eq_true rfl), (Nat.le_of_ble_eq_true rfl), (Nat.le_of_ble_eq_true rfl)⟩ 0 rfl rfl [0, 1, 2, 3, 4, 5, 6, 7, 8, 9] rfl rfl rfl (Up.same rfl) rfl rfl (Nat.le_of_ble_eq_true rfl) ?_
    cases h
    exact x_iret (pc := 15) X hR d_Disk_readAt_15
theorem d_Disk_lookedAtRuns_0 : decode b_Disk_lookedAtRuns 0 = .ok (.aload_n 0, 1) := by decide +kernel
theorem d_Disk_lookedAtRuns_1 : decode b_Disk_lookedAtRuns 1 = .ok (.getfield 34, 3) := by decide +kernel
theorem d_Disk_lookedAtRuns_4 : decode b_Disk_lookedAtRuns 4 = .ok (.aload_n 0, 1) := by decide +kernel
theorem d_Disk_lookedAtRuns_5 : decode b_Disk_lookedAtRuns 5 = .ok (.getfield 9, 3) := by decide +kernel
theorem d_Disk_lookedAtRuns_8 : decode b_Disk_lookedAtRuns 8 = .ok (.invokevirtual 44, 3) := by decide +kernel
theorem d_Disk_lookedAtRuns_11 : decode b_Disk_lookedAtRuns 11 = .ok (.aload_n 0, 1) := by decide +kernel
theorem d_Disk_lookedAtRuns_12 : decode b_Disk_lookedAtRuns 12 = .ok (.getfield 34, 3) := by decide +kernel
theorem d_Disk_lookedAtRuns_15 : decode b_Disk_lookedAtRuns 15 = .ok (.areturn, 1) := by decide +kernel
def m_Disk_lookedAtRuns  (ow : Int → Int) (rm : Int) (rs : Int → Int) (rz : Int → Int) : Option (Int × (Int → Int) × (Int → Int)) :=
  bnd (m_Runs_lookAt rm rs rz ow) (fun r1 => some (r1.1, r1.2.1, r1.2.2))
set_option maxHeartbeats 4000000 in
set_option maxRecDepth 100000 in
theorem c_Disk_lookedAtRuns (l : Launch) (D : va_G) (cI cB : ClassId) (a0 a1 a2 a3 a4 a5 a6 a7 a8 a9 : Nat) (ow : Int → Int) (bt : Int → Int) (ki : Int → Int) (pl : Int → Int) (va : Int → Int) (wr : Int → Int) (rm : Int) (rs : Int → Int) (rz : Int → Int)  {o : Int × (Int → Int) × (Int → Int)} (h : m_Disk_lookedAtRuns ow rm rs rz = some o) : Ct l D cI cB y_Disk_lookedAtRuns b_Disk_lookedAtRuns 1 (some (.object "TwinTreeVolume$Runs")) { frames := 2, cells := 0, slots := 0, locals := 45 } [.ref a0] (w_Disk cI cB a0 a1 a2 a3 a4 a5 a6 a7 a8 a9 ow bt ki pl va wr rm rs rz) (w_Disk cI cB a0 a1 a2 a3 a4 a5 a6 a7 a8 a9 ow bt ki pl va wr o.1 o.2.1 o.2.2) (some (.ref a7)) := by
  refine Ct.start (by decide) (Nat.le_of_ble_eq_true rfl) (fun G X hR => ?_)
  refine x_ls (ls2 := [(0, .ref a0)]) [0] rfl ?_
  unfold m_Disk_lookedAtRuns at h
  refine x_aload_n (pc := 0) X d_Disk_lookedAtRuns_0 0 rfl rfl ?_
  refine x_get (pc := 1) X d_Disk_lookedAtRuns_1 0 rfl fl_Disk_34 rfl ?_
  refine x_aload_n (pc := 4) X d_Disk_lookedAtRuns_4 0 rfl rfl ?_
  refine x_get (pc := 5) X d_Disk_lookedAtRuns_5 0 rfl fl_Disk_9 rfl ?_
  obtain ⟨r1, h2, h⟩ := bnd_e h
  refine x_callV (pc := 8) (As := [.ref a1]) (rest := []) (w2 := (w_Disk cI cB a0 a1 a2 a3 a4 a5 a6 a7 a8 a9 ow bt ki pl va wr r1.1 r1.2.1 r1.2.2)) X d_Disk_lookedAtRuns_8 lk_Disk_44 mv_Runs_lookAt (c_Runs_lookAt l D cI cB a7 a8 a9 a1 rm rs rz ow h2) ⟨(Nat.le_of_ble_eq_true rfl), (Nat.le_of_ble_eq_true rfl), (Nat.le_of_ble_eq_true rfl), (Nat.le_of_ble_eq_true rfl)⟩ 7 rfl rfl [7, 8, 9, 1] rfl rfl rfl (Up.of [0, 2, 3, 4, 5, 6] [(a0, .inr (0, [.ref a1, .ref a2, .ref a3, .ref a4, .ref a5, .ref a6, .ref a7])), (a2, zA cI 64 bt), (a3, zA cI 4 ki), (a4, zA cI 96 pl), (a5, zA cI 96 va), (a6, zA cB 96 wr)] rfl rfl rfl 10 rfl (by decide +kernel)) rfl rfl (Nat.le_of_ble_eq_true rfl) ?_
  refine x_aload_n (pc := 11) X d_Disk_lookedAtRuns_11 0 rfl rfl ?_
  refine x_get (pc := 12) X d_Disk_lookedAtRuns_12 0 rfl fl_Disk_34 rfl ?_
  cases h
  exact x_aret (pc := 15) X hR d_Disk_lookedAtRuns_15
theorem d_Disk_ownerAt_0 : decode b_Disk_ownerAt 0 = .ok (.iload_n 1, 1) := by decide +kernel
theorem d_Disk_ownerAt_1 : decode b_Disk_ownerAt 1 = .ok (.ifCond .lt 21, 3) := by decide +kernel
theorem d_Disk_ownerAt_4 : decode b_Disk_ownerAt 4 = .ok (.iload_n 1, 1) := by decide +kernel
theorem d_Disk_ownerAt_5 : decode b_Disk_ownerAt 5 = .ok (.aload_n 0, 1) := by decide +kernel
theorem d_Disk_ownerAt_6 : decode b_Disk_ownerAt 6 = .ok (.getfield 9, 3) := by decide +kernel
theorem d_Disk_ownerAt_9 : decode b_Disk_ownerAt 9 = .ok (.arraylength, 1) := by decide +kernel
theorem d_Disk_ownerAt_10 : decode b_Disk_ownerAt 10 = .ok (.if_icmp .ge 12, 3) := by decide +kernel
theorem d_Disk_ownerAt_13 : decode b_Disk_ownerAt 13 = .ok (.aload_n 0, 1) := by decide +kernel
theorem d_Disk_ownerAt_14 : decode b_Disk_ownerAt 14 = .ok (.getfield 9, 3) := by decide +kernel
theorem d_Disk_ownerAt_17 : decode b_Disk_ownerAt 17 = .ok (.iload_n 1, 1) := by decide +kernel
theorem d_Disk_ownerAt_18 : decode b_Disk_ownerAt 18 = .ok (.iaload, 1) := by decide +kernel
theorem d_Disk_ownerAt_19 : decode b_Disk_ownerAt 19 = .ok (.goto 4, 3) := by decide +kernel
theorem d_Disk_ownerAt_22 : decode b_Disk_ownerAt 22 = .ok (.iconst (-1), 1) := by decide +kernel
theorem d_Disk_ownerAt_23 : decode b_Disk_ownerAt 23 = .ok (.ireturn, 1) := by decide +kernel
def m_Disk_ownerAt (x1 : Int) (ow : Int → Int) : Option (Int) :=
  clt x1 0 (some ((-1))) (clt x1 64 (gd (zx x1 64) (some ((ow x1)))) (some ((-1))))
set_option maxHeartbeats 4000000 in
set_option maxRecDepth 100000 in
theorem c_Disk_ownerAt (l : Launch) (D : va_G) (cI cB : ClassId) (a0 a1 a2 a3 a4 a5 a6 a7 a8 a9 : Nat) (ow : Int → Int) (bt : Int → Int) (ki : Int → Int) (pl : Int → Int) (va : Int → Int) (wr : Int → Int) (rm : Int) (rs : Int → Int) (rz : Int → Int) (x1 : Int) {o : Int} (h : m_Disk_ownerAt x1 ow = some o) : Ct l D cI cB y_Disk_ownerAt b_Disk_ownerAt 2 (some .int) { frames := 0, cells := 0, slots := 0, locals := 0 } [.ref a0, .int (zi x1)] (w_Disk cI cB a0 a1 a2 a3 a4 a5 a6 a7 a8 a9 ow bt ki pl va wr rm rs rz) (w_Disk cI cB a0 a1 a2 a3 a4 a5 a6 a7 a8 a9 ow bt ki pl va wr rm rs rz) (some (.int (zi o))) := by
  refine Ct.start (by decide) (Nat.le_of_ble_eq_true rfl) (fun G X hR => ?_)
  refine x_ls (ls2 := [(0, .ref a0), (1, .int (zi x1))]) [0, 1] rfl ?_
  unfold m_Disk_ownerAt at h
  refine x_iload_n (pc := 0) X d_Disk_ownerAt_0 1 rfl rfl ?_
  refine x_iflt (pc := 1) (tgt := 22) X d_Disk_ownerAt_1 rfl h (fun h => ?_) (fun h => ?_)
  · skip
    refine x_iconst (pc := 22) X d_Disk_ownerAt_22  ?_
    cases h
    exact x_iret (pc := 23) X hR d_Disk_ownerAt_23
  · skip
    refine x_iload_n (pc := 4) X d_Disk_ownerAt_4 1 rfl rfl ?_
    refine x_aload_n (pc := 5) X d_Disk_ownerAt_5 0 rfl rfl ?_
    refine x_get (pc := 6) X d_Disk_ownerAt_6 0 rfl fl_Disk_9 rfl ?_
    refine x_alen (pc := 9) (M := 64) X d_Disk_ownerAt_9 1 rfl rfl ?_
    refine x_icmpge (pc := 10) (tgt := 22) X d_Disk_ownerAt_10 rfl h (fun h => ?_) (fun h => ?_)
    · skip
      refine x_iconst (pc := 22) X d_Disk_ownerAt_22  ?_
      cases h
      exact x_iret (pc := 23) X hR d_Disk_ownerAt_23
    · skip
      refine x_aload_n (pc := 13) X d_Disk_ownerAt_13 0 rfl rfl ?_
      refine x_get (pc := 14) X d_Disk_ownerAt_14 0 rfl fl_Disk_9 rfl ?_
      refine x_iload_n (pc := 17) X d_Disk_ownerAt_17 1 rfl rfl ?_
      refine x_iald (pc := 18) X d_Disk_ownerAt_18 1 rfl (Nat.le_of_ble_eq_true rfl) rfl h (fun h => ?_)
      refine x_goto (pc := 19) (tgt := 23) X d_Disk_ownerAt_19 rfl ?_
      cases h
      exact x_iret (pc := 23) X hR d_Disk_ownerAt_23
theorem d_Disk_staleBlocks_0 : decode b_Disk_staleBlocks 0 = .ok (.iconst 0, 1) := by decide +kernel
theorem d_Disk_staleBlocks_1 : decode b_Disk_staleBlocks 1 = .ok (.istore_n 2, 1) := by decide +kernel
theorem d_Disk_staleBlocks_2 : decode b_Disk_staleBlocks 2 = .ok (.iconst 0, 1) := by decide +kernel
theorem d_Disk_staleBlocks_3 : decode b_Disk_staleBlocks 3 = .ok (.istore_n 3, 1) := by decide +kernel
theorem d_Disk_staleBlocks_4 : decode b_Disk_staleBlocks 4 = .ok (.iload_n 3, 1) := by decide +kernel
theorem d_Disk_staleBlocks_5 : decode b_Disk_staleBlocks 5 = .ok (.aload_n 0, 1) := by decide +kernel
theorem d_Disk_staleBlocks_6 : decode b_Disk_staleBlocks 6 = .ok (.getfield 9, 3) := by decide +kernel
theorem d_Disk_staleBlocks_9 : decode b_Disk_staleBlocks 9 = .ok (.arraylength, 1) := by decide +kernel
theorem d_Disk_staleBlocks_10 : decode b_Disk_staleBlocks 10 = .ok (.if_icmp .ge 78, 3) := by decide +kernel
theorem d_Disk_staleBlocks_13 : decode b_Disk_staleBlocks 13 = .ok (.aload_n 0, 1) := by decide +kernel
theorem d_Disk_staleBlocks_14 : decode b_Disk_staleBlocks 14 = .ok (.iload_n 3, 1) := by decide +kernel
theorem d_Disk_staleBlocks_15 : decode b_Disk_staleBlocks 15 = .ok (.invokevirtual 70, 3) := by decide +kernel
theorem d_Disk_staleBlocks_18 : decode b_Disk_staleBlocks 18 = .ok (.istore 4, 2) := by decide +kernel
theorem d_Disk_staleBlocks_20 : decode b_Disk_staleBlocks 20 = .ok (.iload_n 1, 1) := by decide +kernel
theorem d_Disk_staleBlocks_21 : decode b_Disk_staleBlocks 21 = .ok (.ifCond .eq 16, 3) := by decide +kernel
theorem d_Disk_staleBlocks_24 : decode b_Disk_staleBlocks 24 = .ok (.iload 4, 2) := by decide +kernel
theorem d_Disk_staleBlocks_26 : decode b_Disk_staleBlocks 26 = .ok (.ifCond .ge 7, 3) := by decide +kernel
theorem d_Disk_staleBlocks_29 : decode b_Disk_staleBlocks 29 = .ok (.iconst 1, 1) := by decide +kernel
theorem d_Disk_staleBlocks_30 : decode b_Disk_staleBlocks 30 = .ok (.goto 34, 3) := by decide +kernel
theorem d_Disk_staleBlocks_33 : decode b_Disk_staleBlocks 33 = .ok (.iconst 0, 1) := by decide +kernel
theorem d_Disk_staleBlocks_34 : decode b_Disk_staleBlocks 34 = .ok (.goto 30, 3) := by decide +kernel
theorem d_Disk_staleBlocks_37 : decode b_Disk_staleBlocks 37 = .ok (.iload 4, 2) := by decide +kernel
theorem d_Disk_staleBlocks_39 : decode b_Disk_staleBlocks 39 = .ok (.ifCond .lt 24, 3) := by decide +kernel
theorem d_Disk_staleBlocks_42 : decode b_Disk_staleBlocks 42 = .ok (.aload_n 0, 1) := by decide +kernel
theorem d_Disk_staleBlocks_43 : decode b_Disk_staleBlocks 43 = .ok (.iload 4, 2) := by decide +kernel
theorem d_Disk_staleBlocks_45 : decode b_Disk_staleBlocks 45 = .ok (.bipush 24, 2) := by decide +kernel
theorem d_Disk_staleBlocks_47 : decode b_Disk_staleBlocks 47 = .ok (.idiv, 1) := by decide +kernel
theorem d_Disk_staleBlocks_48 : decode b_Disk_staleBlocks 48 = .ok (.iload 4, 2) := by decide +kernel
theorem d_Disk_staleBlocks_50 : decode b_Disk_staleBlocks 50 = .ok (.bipush 24, 2) := by decide +kernel
theorem d_Disk_staleBlocks_52 : decode b_Disk_staleBlocks 52 = .ok (.irem, 1) := by decide +kernel
theorem d_Disk_staleBlocks_53 : decode b_Disk_staleBlocks 53 = .ok (.invokevirtual 63, 3) := by decide +kernel
theorem d_Disk_staleBlocks_56 : decode b_Disk_staleBlocks 56 = .ok (.ifCond .ne 7, 3) := by decide +kernel
theorem d_Disk_staleBlocks_59 : decode b_Disk_staleBlocks 59 = .ok (.iconst 1, 1) := by decide +kernel
theorem d_Disk_staleBlocks_60 : decode b_Disk_staleBlocks 60 = .ok (.goto 4, 3) := by decide +kernel
theorem d_Disk_staleBlocks_63 : decode b_Disk_staleBlocks 63 = .ok (.iconst 0, 1) := by decide +kernel
theorem d_Disk_staleBlocks_64 : decode b_Disk_staleBlocks 64 = .ok (.istore 5, 2) := by decide +kernel
theorem d_Disk_staleBlocks_66 : decode b_Disk_staleBlocks 66 = .ok (.iload 5, 2) := by decide +kernel
theorem d_Disk_staleBlocks_68 : decode b_Disk_staleBlocks 68 = .ok (.ifCond .eq 14, 3) := by decide +kernel
theorem d_Disk_staleBlocks_71 : decode b_Disk_staleBlocks 71 = .ok (.aload_n 0, 1) := by decide +kernel
theorem d_Disk_staleBlocks_72 : decode b_Disk_staleBlocks 72 = .ok (.iload_n 3, 1) := by decide +kernel
theorem d_Disk_staleBlocks_73 : decode b_Disk_staleBlocks 73 = .ok (.invokevirtual 67, 3) := by decide +kernel
theorem d_Disk_staleBlocks_76 : decode b_Disk_staleBlocks 76 = .ok (.ifCond .eq 6, 3) := by decide +kernel
theorem d_Disk_staleBlocks_79 : decode b_Disk_staleBlocks 79 = .ok (.iinc 2 1, 3) := by decide +kernel
theorem d_Disk_staleBlocks_82 : decode b_Disk_staleBlocks 82 = .ok (.iinc 3 1, 3) := by decide +kernel
theorem d_Disk_staleBlocks_85 : decode b_Disk_staleBlocks 85 = .ok (.goto (-81), 3) := by decide +kernel
theorem d_Disk_staleBlocks_88 : decode b_Disk_staleBlocks 88 = .ok (.iload_n 2, 1) := by decide +kernel
theorem d_Disk_staleBlocks_89 : decode b_Disk_staleBlocks 89 = .ok (.ireturn, 1) := by decide +kernel
def m_Disk_staleBlocks_4 : Nat → Int → Int → Int → (Int → Int) → (Int → Int) → (Int → Int) → Option (Int)
  | 0, _, _, _, _, _, _ => none
  | fuel + 1, v1, v2, v3, ow, bt, wr =>
  clt v3 64 (bnd (m_Disk_ownerAt v3 ow) (fun r1 => jn (fun (z4 : Int) (z5 : Int) (z6 : Int) (z7 : Int) => ceq z7 0 (m_Disk_staleBlocks_4 fuel z4 z5 (z6 + 1) ow bt wr) (bnd (m_Disk_byteAt z6 bt) (fun r8 => ceq r8 0 (m_Disk_staleBlocks_4 fuel z4 z5 (z6 + 1) ow bt wr) (m_Disk_staleBlocks_4 fuel z4 (z5 + 1) (z6 + 1) ow bt wr)))) (fun j3 => ceq v1 0 (jn (fun (z13 : Int) (z14 : Int) (z15 : Int) => j3 z13 z14 z15 0) (fun j12 => clt r1 0 (j12 v1 v2 v3) (gd (zx r1 2147483648 ∧ zp 24 2147483648) (gd (zx r1 2147483648 ∧ zp 24 2147483648) (bnd (m_Disk_isWritten (r1 / 24) (r1 % 24) wr) (fun r18 => ceq r18 0 (j3 v1 v2 v3 1) (j12 v1 v2 v3))))))) (clt r1 0 (j3 v1 v2 v3 1) (j3 v1 v2 v3 0))))) (some (v2))
def m_Disk_staleBlocks (x1 : Int) (ow : Int → Int) (bt : Int → Int) (wr : Int → Int) : Option (Int) :=
  m_Disk_staleBlocks_4 5000 x1 0 0 ow bt wr
set_option maxHeartbeats 4000000 in
set_option maxRecDepth 100000 in
theorem l_Disk_staleBlocks_4 {G : GT} {l : Launch} {D : va_G} {cI cB : ClassId} {a0 a1 a2 a3 a4 a5 a6 a7 a8 a9 : Nat} {ki : Int → Int} {pl : Int → Int} {va : Int → Int} {rm : Int} {rs : Int → Int} {rz : Int → Int} (X : Cx G l D cI cB b_Disk_staleBlocks y_Disk_staleBlocks.cls 6 { frames := 1, cells := 0, slots := 0, locals := 23 }) : ∀ (fuel : Nat) (v1 : Int) (v2 : Int) (v3 : Int) (ow : Int → Int) (bt : Int → Int) (wr : Int → Int) (o : Int), m_Disk_staleBlocks_4 fuel v1 v2 v3 ow bt wr = some o → Rt G (some .int) (some (.int (zi o))) (w_Disk cI cB a0 a1 a2 a3 a4 a5 a6 a7 a8 a9 ow bt ki pl va wr rm rs rz) → Wx G 0 0 4 [(0, .ref a0), (1, .int (zi v1)), (2, .int (zi v2)), (3, .int (zi v3))] [] (w_Disk cI cB a0 a1 a2 a3 a4 a5 a6 a7 a8 a9 ow bt ki pl va wr rm rs rz) := by
  intro fuel
  induction fuel with
  | zero =>
    intro v1 v2 v3 ow bt wr o h
    exact absurd h (by simp [m_Disk_staleBlocks_4])
  | succ fuel ih =>
    intro v1 v2 v3 ow bt wr o h hR
    rw [m_Disk_staleBlocks_4] at h
    refine x_iload_n (pc := 4) X d_Disk_staleBlocks_4 3 rfl rfl ?_
    refine x_aload_n (pc := 5) X d_Disk_staleBlocks_5 0 rfl rfl ?_
    refine x_get (pc := 6) X d_Disk_staleBlocks_6 0 rfl fl_Disk_9 rfl ?_
    refine x_alen (pc := 9) (M := 64) X d_Disk_staleBlocks_9 1 rfl rfl ?_
    refine x_icmpge (pc := 10) (tgt := 88) X d_Disk_staleBlocks_10 rfl h (fun h => ?_) (fun h => ?_)
    · skip
      refine x_iload_n (pc := 88) X d_Disk_staleBlocks_88 2 rfl rfl ?_
      cases h
      exact x_iret (pc := 89) X hR d_Disk_staleBlocks_89
    · skip
      refine x_aload_n (pc := 13) X d_Disk_staleBlocks_13 0 rfl rfl ?_
      refine x_iload_n (pc := 14) X d_Disk_staleBlocks_14 3 rfl rfl ?_
      obtain ⟨r1, h2, h⟩ := bnd_e h
      refine x_callV (pc := 15) (As := [.int (zi v3)]) (rest := []) (w2 := (w_Disk cI cB a0 a1 a2 a3 a4 a5 a6 a7 a8 a9 ow bt ki pl va wr rm rs rz)) X d_Disk_staleBlocks_15 lk_Disk_70 mv_Disk_ownerAt (c_Disk_ownerAt l D cI cB a0 a1 a2 a3 a4 a5 a6 a7 a8 a9 ow bt ki pl va wr rm rs rz v3 h2) ⟨(Nat.le_of_ble_eq_true rfl), (Nat.le_of_ble_eq_true rfl), (Nat.le_of_ble_eq_true rfl), (Nat.le_of_ble_eq_true rfl)⟩ 0 rfl rfl [0, 1, 2, 3, 4, 5, 6, 7, 8, 9] rfl rfl rfl (Up.same rfl) rfl rfl (Nat.le_of_ble_eq_true rfl) ?_
      refine x_istore (pc := 18) (ls2 := [(4, .int (zi r1)), (0, .ref a0), (1, .int (zi v1)), (2, .int (zi v2)), (3, .int (zi v3))]) X d_Disk_staleBlocks_18 (Nat.le_of_ble_eq_true rfl) rfl ?_
      refine x_iload_n (pc := 20) X d_Disk_staleBlocks_20 2 rfl rfl ?_
      obtain ⟨j3, hj10, h⟩ := jn_e h
      have J11 : ∀ (z4 : Int) (z5 : Int) (z6 : Int) (z7 : Int), j3 z4 z5 z6 z7 = some o → Wx G 0 0 64 [(0, .ref a0), (1, .int (zi z4)), (2, .int (zi z5)), (3, .int (zi z6))] [.int (zi z7)] (w_Disk cI cB a0 a1 a2 a3 a4 a5 a6 a7 a8 a9 ow bt ki pl va wr rm rs rz) := by
        intro z4 z5 z6 z7 h
        rw [hj10] at h
        (try dsimp only at h)
        refine x_istore (pc := 64) (ls2 := [(5, .int (zi z7)), (0, .ref a0), (1, .int (zi z4)), (2, .int (zi z5)), (3, .int (zi z6))]) X d_Disk_staleBlocks_64 (Nat.le_of_ble_eq_true rfl) rfl ?_
        refine x_iload (pc := 66) X d_Disk_staleBlocks_66 0 rfl ?_
        refine x_ifeq (pc := 68) (tgt := 82) X d_Disk_staleBlocks_68 rfl h (fun h => ?_) (fun h => ?_)
        · skip
          refine x_iinc (pc := 82) (ls2 := [(3, .int (zi (z6 + 1))), (5, .int (zi z7)), (0, .ref a0), (1, .int (zi z4)), (2, .int (zi z5))]) X d_Disk_staleBlocks_82 4 (Nat.le_of_ble_eq_true rfl) rfl rfl ?_
          refine x_goto (pc := 85) (tgt := 4) X d_Disk_staleBlocks_85 rfl ?_
          refine x_ls (ls2 := [(0, .ref a0), (1, .int (zi z4)), (2, .int (zi z5)), (3, .int (zi (z6 + 1)))]) [2, 3, 4, 0] rfl ?_
          exact ih z4 z5 (z6 + 1) ow bt wr o h hR
        · skip
          refine x_aload_n (pc := 71) X d_Disk_staleBlocks_71 1 rfl rfl ?_
          refine x_iload_n (pc := 72) X d_Disk_staleBlocks_72 4 rfl rfl ?_
          obtain ⟨r8, h9, h⟩ := bnd_e h
          refine x_callV (pc := 73) (As := [.int (zi z6)]) (rest := []) (w2 := (w_Disk cI cB a0 a1 a2 a3 a4 a5 a6 a7 a8 a9 ow bt ki pl va wr rm rs rz)) X d_Disk_staleBlocks_73 lk_Disk_67 mv_Disk_byteAt (c_Disk_byteAt l D cI cB a0 a1 a2 a3 a4 a5 a6 a7 a8 a9 ow bt ki pl va wr rm rs rz z6 h9) ⟨(Nat.le_of_ble_eq_true rfl), (Nat.le_of_ble_eq_true rfl), (Nat.le_of_ble_eq_true rfl), (Nat.le_of_ble_eq_true rfl)⟩ 0 rfl rfl [0, 1, 2, 3, 4, 5, 6, 7, 8, 9] rfl rfl rfl (Up.same rfl) rfl rfl (Nat.le_of_ble_eq_true rfl) ?_
          refine x_ifeq (pc := 76) (tgt := 82) X d_Disk_staleBlocks_76 rfl h (fun h => ?_) (fun h => ?_)
          · skip
            refine x_iinc (pc := 82) (ls2 := [(3, .int (zi (z6 + 1))), (5, .int (zi z7)), (0, .ref a0), (1, .int (zi z4)), (2, .int (zi z5))]) X d_Disk_staleBlocks_82 4 (Nat.le_of_ble_eq_true rfl) rfl rfl ?_
            refine x_goto (pc := 85) (tgt := 4) X d_Disk_staleBlocks_85 rfl ?_
            refine x_ls (ls2 := [(0, .ref a0), (1, .int (zi z4)), (2, .int (zi z5)), (3, .int (zi (z6 + 1)))]) [2, 3, 4, 0] rfl ?_
            exact ih z4 z5 (z6 + 1) ow bt wr o h hR
          · skip
            refine x_iinc (pc := 79) (ls2 := [(2, .int (zi (z5 + 1))), (5, .int (zi z7)), (0, .ref a0), (1, .int (zi z4)), (3, .int (zi z6))]) X d_Disk_staleBlocks_79 3 (Nat.le_of_ble_eq_true rfl) rfl rfl ?_
            refine x_iinc (pc := 82) (ls2 := [(3, .int (zi (z6 + 1))), (2, .int (zi (z5 + 1))), (5, .int (zi z7)), (0, .ref a0), (1, .int (zi z4))]) X d_Disk_staleBlocks_82 4 (Nat.le_of_ble_eq_true rfl) rfl rfl ?_
            refine x_goto (pc := 85) (tgt := 4) X d_Disk_staleBlocks_85 rfl ?_
            refine x_ls (ls2 := [(0, .ref a0), (1, .int (zi z4)), (2, .int (zi (z5 + 1))), (3, .int (zi (z6 + 1)))]) [3, 4, 1, 0] rfl ?_
            exact ih z4 (z5 + 1) (z6 + 1) ow bt wr o h hR
      clear hj10
      refine x_ifeq (pc := 21) (tgt := 37) X d_Disk_staleBlocks_21 rfl h (fun h => ?_) (fun h => ?_)
      · skip
        refine x_iload (pc := 37) X d_Disk_staleBlocks_37 0 rfl ?_
        obtain ⟨j12, hj16, h⟩ := jn_e h
        have J17 : ∀ (z13 : Int) (z14 : Int) (z15 : Int), j12 z13 z14 z15 = some o → Wx G 0 0 63 [(0, .ref a0), (1, .int (zi z13)), (2, .int (zi z14)), (3, .int (zi z15))] [] (w_Disk cI cB a0 a1 a2 a3 a4 a5 a6 a7 a8 a9 ow bt ki pl va wr rm rs rz) := by
          intro z13 z14 z15 h
          rw [hj16] at h
          (try dsimp only at h)
          refine x_iconst (pc := 63) X d_Disk_staleBlocks_63  ?_
          exact J11 z13 z14 z15 0 h
        clear hj16
        refine x_iflt (pc := 39) (tgt := 63) X d_Disk_staleBlocks_39 rfl h (fun h => ?_) (fun h => ?_)
        · skip
          refine x_ls (ls2 := [(0, .ref a0), (1, .int (zi v1)), (2, .int (zi v2)), (3, .int (zi v3))]) [1, 2, 3, 4] rfl ?_
          exact J17 v1 v2 v3 h
        · skip
          refine x_aload_n (pc := 42) X d_Disk_staleBlocks_42 1 rfl rfl ?_
          refine x_iload (pc := 43) X d_Disk_staleBlocks_43 0 rfl ?_
          refine x_bipush (pc := 45) (v := 24) X d_Disk_staleBlocks_45 rfl ?_
          refine x_idiv (pc := 47) X d_Disk_staleBlocks_47 h (fun h => ?_)
          refine x_iload (pc := 48) X d_Disk_staleBlocks_48 0 rfl ?_
          refine x_bipush (pc := 50) (v := 24) X d_Disk_staleBlocks_50 rfl ?_
          refine x_irem (pc := 52) X d_Disk_staleBlocks_52 h (fun h => ?_)
          obtain ⟨r18, h19, h⟩ := bnd_e h
          refine x_callV (pc := 53) (As := [.int (zi (r1 / 24)), .int (zi (r1 % 24))]) (rest := []) (w2 := (w_Disk cI cB a0 a1 a2 a3 a4 a5 a6 a7 a8 a9 ow bt ki pl va wr rm rs rz)) X d_Disk_staleBlocks_53 lk_Disk_63 mv_Disk_isWritten (c_Disk_isWritten l D cI cB a0 a1 a2 a3 a4 a5 a6 a7 a8 a9 ow bt ki pl va wr rm rs rz (r1 / 24) (r1 % 24) h19) ⟨(Nat.le_of_ble_eq_true rfl), (Nat.le_of_ble_eq_true rfl), (Nat.le_of_ble_eq_true rfl), (Nat.le_of_ble_eq_true rfl)⟩ 0 rfl rfl [0, 1, 2, 3, 4, 5, 6, 7, 8, 9] rfl rfl rfl (Up.same rfl) rfl rfl (Nat.le_of_ble_eq_true rfl) ?_
          refine x_ifne (pc := 56) (tgt := 63) X d_Disk_staleBlocks_56 rfl h (fun h => ?_) (fun h => ?_)
          · skip
            refine x_ls (ls2 := [(0, .ref a0), (1, .int (zi v1)), (2, .int (zi v2)), (3, .int (zi v3))]) [1, 2, 3, 4] rfl ?_
            exact J17 v1 v2 v3 h
          · skip
            refine x_iconst (pc := 59) X d_Disk_staleBlocks_59  ?_
            refine x_goto (pc := 60) (tgt := 64) X d_Disk_staleBlocks_60 rfl ?_
            refine x_ls (ls2 := [(0, .ref a0), (1, .int (zi v1)), (2, .int (zi v2)), (3, .int (zi v3))]) [1, 2, 3, 4] rfl ?_
            exact J11 v1 v2 v3 1 h
      · skip
        refine x_iload (pc := 24) X d_Disk_staleBlocks_24 0 rfl ?_
        refine x_ifge (pc := 26) (tgt := 33) X d_Disk_staleBlocks_26 rfl h (fun h => ?_) (fun h => ?_)
        · skip
          refine x_iconst (pc := 33) X d_Disk_staleBlocks_33  ?_
          refine x_goto (pc := 34) (tgt := 64) X d_Disk_staleBlocks_34 rfl ?_
          refine x_ls (ls2 := [(0, .ref a0), (1, .int (zi v1)), (2, .int (zi v2)), (3, .int (zi v3))]) [1, 2, 3, 4] rfl ?_
          exact J11 v1 v2 v3 0 h
        · skip
          refine x_iconst (pc := 29) X d_Disk_staleBlocks_29  ?_
          refine x_goto (pc := 30) (tgt := 64) X d_Disk_staleBlocks_30 rfl ?_
          refine x_ls (ls2 := [(0, .ref a0), (1, .int (zi v1)), (2, .int (zi v2)), (3, .int (zi v3))]) [1, 2, 3, 4] rfl ?_
          exact J11 v1 v2 v3 1 h
set_option maxHeartbeats 4000000 in
set_option maxRecDepth 100000 in
theorem c_Disk_staleBlocks (l : Launch) (D : va_G) (cI cB : ClassId) (a0 a1 a2 a3 a4 a5 a6 a7 a8 a9 : Nat) (ow : Int → Int) (bt : Int → Int) (ki : Int → Int) (pl : Int → Int) (va : Int → Int) (wr : Int → Int) (rm : Int) (rs : Int → Int) (rz : Int → Int) (x1 : Int) {o : Int} (h : m_Disk_staleBlocks x1 ow bt wr = some o) : Ct l D cI cB y_Disk_staleBlocks b_Disk_staleBlocks 6 (some .int) { frames := 1, cells := 0, slots := 0, locals := 23 } [.ref a0, .int (zi x1)] (w_Disk cI cB a0 a1 a2 a3 a4 a5 a6 a7 a8 a9 ow bt ki pl va wr rm rs rz) (w_Disk cI cB a0 a1 a2 a3 a4 a5 a6 a7 a8 a9 ow bt ki pl va wr rm rs rz) (some (.int (zi o))) := by
  refine Ct.start (by decide) (Nat.le_of_ble_eq_true rfl) (fun G X hR => ?_)
  refine x_ls (ls2 := [(0, .ref a0), (1, .int (zi x1))]) [0, 1] rfl ?_
  unfold m_Disk_staleBlocks at h
  refine x_iconst (pc := 0) X d_Disk_staleBlocks_0  ?_
  refine x_istore_n (pc := 1) (ls2 := [(2, .int (zi 0)), (0, .ref a0), (1, .int (zi x1))]) X d_Disk_staleBlocks_1 rfl (Nat.le_of_ble_eq_true rfl) rfl ?_
  refine x_iconst (pc := 2) X d_Disk_staleBlocks_2  ?_
  refine x_istore_n (pc := 3) (ls2 := [(3, .int (zi 0)), (2, .int (zi 0)), (0, .ref a0), (1, .int (zi x1))]) X d_Disk_staleBlocks_3 rfl (Nat.le_of_ble_eq_true rfl) rfl ?_
  refine x_ls (ls2 := [(0, .ref a0), (1, .int (zi x1)), (2, .int (zi 0)), (3, .int (zi 0))]) [2, 3, 1, 0] rfl ?_
  exact l_Disk_staleBlocks_4 X 5000 x1 0 0 ow bt wr o h hR
theorem d_Disk_extentsInAll_0 : decode b_Disk_extentsInAll 0 = .ok (.iconst 0, 1) := by decide +kernel
theorem d_Disk_extentsInAll_1 : decode b_Disk_extentsInAll 1 = .ok (.istore_n 1, 1) := by decide +kernel
theorem d_Disk_extentsInAll_2 : decode b_Disk_extentsInAll 2 = .ok (.iconst 0, 1) := by decide +kernel
theorem d_Disk_extentsInAll_3 : decode b_Disk_extentsInAll 3 = .ok (.istore_n 2, 1) := by decide +kernel
theorem d_Disk_extentsInAll_4 : decode b_Disk_extentsInAll 4 = .ok (.iload_n 2, 1) := by decide +kernel
theorem d_Disk_extentsInAll_5 : decode b_Disk_extentsInAll 5 = .ok (.iconst 4, 1) := by decide +kernel
theorem d_Disk_extentsInAll_6 : decode b_Disk_extentsInAll 6 = .ok (.if_icmp .ge 17, 3) := by decide +kernel
theorem d_Disk_extentsInAll_9 : decode b_Disk_extentsInAll 9 = .ok (.iload_n 1, 1) := by decide +kernel
theorem d_Disk_extentsInAll_10 : decode b_Disk_extentsInAll 10 = .ok (.aload_n 0, 1) := by decide +kernel
theorem d_Disk_extentsInAll_11 : decode b_Disk_extentsInAll 11 = .ok (.iload_n 2, 1) := by decide +kernel
theorem d_Disk_extentsInAll_12 : decode b_Disk_extentsInAll 12 = .ok (.invokevirtual 93, 3) := by decide +kernel
theorem d_Disk_extentsInAll_15 : decode b_Disk_extentsInAll 15 = .ok (.iadd, 1) := by decide +kernel
theorem d_Disk_extentsInAll_16 : decode b_Disk_extentsInAll 16 = .ok (.istore_n 1, 1) := by decide +kernel
theorem d_Disk_extentsInAll_17 : decode b_Disk_extentsInAll 17 = .ok (.iinc 2 1, 3) := by decide +kernel
theorem d_Disk_extentsInAll_20 : decode b_Disk_extentsInAll 20 = .ok (.goto (-16), 3) := by decide +kernel
theorem d_Disk_extentsInAll_23 : decode b_Disk_extentsInAll 23 = .ok (.iload_n 1, 1) := by decide +kernel
theorem d_Disk_extentsInAll_24 : decode b_Disk_extentsInAll 24 = .ok (.ireturn, 1) := by decide +kernel
def m_Disk_extentsInAll_4 : Nat → Int → Int → (Int → Int) → (Int → Int) → Option (Int)
  | 0, _, _, _, _ => none
  | fuel + 1, v1, v2, pl, wr =>
  clt v2 4 (bnd (m_Disk_extentsIn v2 pl wr) (fun r1 => m_Disk_extentsInAll_4 fuel (v1 + r1) (v2 + 1) pl wr)) (some (v1))
def m_Disk_extentsInAll  (pl : Int → Int) (wr : Int → Int) : Option (Int) :=
  m_Disk_extentsInAll_4 5000 0 0 pl wr
set_option maxHeartbeats 4000000 in
set_option maxRecDepth 100000 in
theorem l_Disk_extentsInAll_4 {G : GT} {l : Launch} {D : va_G} {cI cB : ClassId} {a0 a1 a2 a3 a4 a5 a6 a7 a8 a9 : Nat} {ow : Int → Int} {bt : Int → Int} {ki : Int → Int} {va : Int → Int} {rm : Int} {rs : Int → Int} {rz : Int → Int} (X : Cx G l D cI cB b_Disk_extentsInAll y_Disk_extentsInAll.cls 3 { frames := 3, cells := 0, slots := 0, locals := 69 }) : ∀ (fuel : Nat) (v1 : Int) (v2 : Int) (pl : Int → Int) (wr : Int → Int) (o : Int), m_Disk_extentsInAll_4 fuel v1 v2 pl wr = some o → Rt G (some .int) (some (.int (zi o))) (w_Disk cI cB a0 a1 a2 a3 a4 a5 a6 a7 a8 a9 ow bt ki pl va wr rm rs rz) → Wx G 0 0 4 [(0, .ref a0), (1, .int (zi v1)), (2, .int (zi v2))] [] (w_Disk cI cB a0 a1 a2 a3 a4 a5 a6 a7 a8 a9 ow bt ki pl va wr rm rs rz) := by
  intro fuel
  induction fuel with
  | zero =>
    intro v1 v2 pl wr o h
    exact absurd h (by simp [m_Disk_extentsInAll_4])
  | succ fuel ih =>
    intro v1 v2 pl wr o h hR
    rw [m_Disk_extentsInAll_4] at h
    refine x_iload_n (pc := 4) X d_Disk_extentsInAll_4 2 rfl rfl ?_
    refine x_iconst (pc := 5) X d_Disk_extentsInAll_5  ?_
    refine x_icmpge (pc := 6) (tgt := 23) X d_Disk_extentsInAll_6 rfl h (fun h => ?_) (fun h => ?_)
    · skip
      refine x_iload_n (pc := 23) X d_Disk_extentsInAll_23 1 rfl rfl ?_
      cases h
      exact x_iret (pc := 24) X hR d_Disk_extentsInAll_24
    · skip
      refine x_iload_n (pc := 9) X d_Disk_extentsInAll_9 1 rfl rfl ?_
      refine x_aload_n (pc := 10) X d_Disk_extentsInAll_10 0 rfl rfl ?_
      refine x_iload_n (pc := 11) X d_Disk_extentsInAll_11 2 rfl rfl ?_
      obtain ⟨r1, h2, h⟩ := bnd_e h
      refine x_callV (pc := 12) (As := [.int (zi v2)]) (rest := [.int (zi v1)]) (w2 := (w_Disk cI cB a0 a1 a2 a3 a4 a5 a6 a7 a8 a9 ow bt ki pl va wr rm rs rz)) X d_Disk_extentsInAll_12 lk_Disk_93 mv_Disk_extentsIn (c_Disk_extentsIn l D cI cB a0 a1 a2 a3 a4 a5 a6 a7 a8 a9 ow bt ki pl va wr rm rs rz v2 h2) ⟨(Nat.le_of_ble_eq_true rfl), (Nat.le_of_ble_eq_true rfl), (Nat.le_of_ble_eq_true rfl), (Nat.le_of_ble_eq_true rfl)⟩ 0 rfl rfl [0, 1, 2, 3, 4, 5, 6, 7, 8, 9] rfl rfl rfl (Up.same rfl) rfl rfl (Nat.le_of_ble_eq_true rfl) ?_
      refine x_iadd (pc := 15) X d_Disk_extentsInAll_15  ?_
      refine x_istore_n (pc := 16) (ls2 := [(1, .int (zi (v1 + r1))), (0, .ref a0), (2, .int (zi v2))]) X d_Disk_extentsInAll_16 rfl (Nat.le_of_ble_eq_true rfl) rfl ?_
      refine x_iinc (pc := 17) (ls2 := [(2, .int (zi (v2 + 1))), (1, .int (zi (v1 + r1))), (0, .ref a0)]) X d_Disk_extentsInAll_17 2 (Nat.le_of_ble_eq_true rfl) rfl rfl ?_
      refine x_goto (pc := 20) (tgt := 4) X d_Disk_extentsInAll_20 rfl ?_
      refine x_ls (ls2 := [(0, .ref a0), (1, .int (zi (v1 + r1))), (2, .int (zi (v2 + 1)))]) [2, 1, 0] rfl ?_
      exact ih (v1 + r1) (v2 + 1) pl wr o h hR
set_option maxHeartbeats 4000000 in
set_option maxRecDepth 100000 in
theorem c_Disk_extentsInAll (l : Launch) (D : va_G) (cI cB : ClassId) (a0 a1 a2 a3 a4 a5 a6 a7 a8 a9 : Nat) (ow : Int → Int) (bt : Int → Int) (ki : Int → Int) (pl : Int → Int) (va : Int → Int) (wr : Int → Int) (rm : Int) (rs : Int → Int) (rz : Int → Int)  {o : Int} (h : m_Disk_extentsInAll pl wr = some o) : Ct l D cI cB y_Disk_extentsInAll b_Disk_extentsInAll 3 (some .int) { frames := 3, cells := 0, slots := 0, locals := 69 } [.ref a0] (w_Disk cI cB a0 a1 a2 a3 a4 a5 a6 a7 a8 a9 ow bt ki pl va wr rm rs rz) (w_Disk cI cB a0 a1 a2 a3 a4 a5 a6 a7 a8 a9 ow bt ki pl va wr rm rs rz) (some (.int (zi o))) := by
  refine Ct.start (by decide) (Nat.le_of_ble_eq_true rfl) (fun G X hR => ?_)
  refine x_ls (ls2 := [(0, .ref a0)]) [0] rfl ?_
  unfold m_Disk_extentsInAll at h
  refine x_iconst (pc := 0) X d_Disk_extentsInAll_0  ?_
  refine x_istore_n (pc := 1) (ls2 := [(1, .int (zi 0)), (0, .ref a0)]) X d_Disk_extentsInAll_1 rfl (Nat.le_of_ble_eq_true rfl) rfl ?_
  refine x_iconst (pc := 2) X d_Disk_extentsInAll_2  ?_
  refine x_istore_n (pc := 3) (ls2 := [(2, .int (zi 0)), (1, .int (zi 0)), (0, .ref a0)]) X d_Disk_extentsInAll_3 rfl (Nat.le_of_ble_eq_true rfl) rfl ?_
  refine x_ls (ls2 := [(0, .ref a0), (1, .int (zi 0)), (2, .int (zi 0))]) [2, 1, 0] rfl ?_
  exact l_Disk_extentsInAll_4 X 5000 0 0 pl wr o h hR
theorem d_Disk_takenAmong_0 : decode b_Disk_takenAmong 0 = .ok (.iconst 0, 1) := by decide +kernel
theorem d_Disk_takenAmong_1 : decode b_Disk_takenAmong 1 = .ok (.istore_n 3, 1) := by decide +kernel
theorem d_Disk_takenAmong_2 : decode b_Disk_takenAmong 2 = .ok (.iconst 0, 1) := by decide +kernel
theorem d_Disk_takenAmong_3 : decode b_Disk_takenAmong 3 = .ok (.istore 4, 2) := by decide +kernel
theorem d_Disk_takenAmong_5 : decode b_Disk_takenAmong 5 = .ok (.iload 4, 2) := by decide +kernel
theorem d_Disk_takenAmong_7 : decode b_Disk_takenAmong 7 = .ok (.iload_n 2, 1) := by decide +kernel
theorem d_Disk_takenAmong_8 : decode b_Disk_takenAmong 8 = .ok (.if_icmp .ge 23, 3) := by decide +kernel
theorem d_Disk_takenAmong_11 : decode b_Disk_takenAmong 11 = .ok (.aload_n 0, 1) := by decide +kernel
theorem d_Disk_takenAmong_12 : decode b_Disk_takenAmong 12 = .ok (.iload_n 1, 1) := by decide +kernel
theorem d_Disk_takenAmong_13 : decode b_Disk_takenAmong 13 = .ok (.iload 4, 2) := by decide +kernel
theorem d_Disk_takenAmong_15 : decode b_Disk_takenAmong 15 = .ok (.iadd, 1) := by decide +kernel
theorem d_Disk_takenAmong_16 : decode b_Disk_takenAmong 16 = .ok (.invokevirtual 70, 3) := by decide +kernel
theorem d_Disk_takenAmong_19 : decode b_Disk_takenAmong 19 = .ok (.ifCond .lt 6, 3) := by decide +kernel
theorem d_Disk_takenAmong_22 : decode b_Disk_takenAmong 22 = .ok (.iinc 3 1, 3) := by decide +kernel
theorem d_Disk_takenAmong_25 : decode b_Disk_takenAmong 25 = .ok (.iinc 4 1, 3) := by decide +kernel
theorem d_Disk_takenAmong_28 : decode b_Disk_takenAmong 28 = .ok (.goto (-23), 3) := by decide +kernel
theorem d_Disk_takenAmong_31 : decode b_Disk_takenAmong 31 = .ok (.iload_n 3, 1) := by decide +kernel
theorem d_Disk_takenAmong_32 : decode b_Disk_takenAmong 32 = .ok (.ireturn, 1) := by decide +kernel
def m_Disk_takenAmong_5 : Nat → Int → Int → Int → Int → (Int → Int) → Option (Int)
  | 0, _, _, _, _, _ => none
  | fuel + 1, v1, v2, v3, v4, ow =>
  clt v4 v2 (bnd (m_Disk_ownerAt (v1 + v4) ow) (fun r1 => clt r1 0 (m_Disk_takenAmong_5 fuel v1 v2 v3 (v4 + 1) ow) (m_Disk_takenAmong_5 fuel v1 v2 (v3 + 1) (v4 + 1) ow))) (some (v3))
def m_Disk_takenAmong (x1 : Int) (x2 : Int) (ow : Int → Int) : Option (Int) :=
  m_Disk_takenAmong_5 5000 x1 x2 0 0 ow
set_option maxHeartbeats 4000000 in
set_option maxRecDepth 100000 in
theorem l_Disk_takenAmong_5 {G : GT} {l : Launch} {D : va_G} {cI cB : ClassId} {a0 a1 a2 a3 a4 a5 a6 a7 a8 a9 : Nat} {bt : Int → Int} {ki : Int → Int} {pl : Int → Int} {va : Int → Int} {wr : Int → Int} {rm : Int} {rs : Int → Int} {rz : Int → Int} (X : Cx G l D cI cB b_Disk_takenAmong y_Disk_takenAmong.cls 5 { frames := 1, cells := 0, slots := 0, locals := 21 }) : ∀ (fuel : Nat) (v1 : Int) (v2 : Int) (v3 : Int) (v4 : Int) (ow : Int → Int) (o : Int), m_Disk_takenAmong_5 fuel v1 v2 v3 v4 ow = some o → Rt G (some .int) (some (.int (zi o))) (w_Disk cI cB a0 a1 a2 a3 a4 a5 a6 a7 a8 a9 ow bt ki pl va wr rm rs rz) → Wx G 0 0 5 [(0, .ref a0), (1, .int (zi v1)), (2, .int (zi v2)), (3, .int (zi v3)), (4, .int (zi v4))] [] (w_Disk cI cB a0 a1 a2 a3 a4 a5 a6 a7 a8 a9 ow bt ki pl va wr rm rs rz) := by
  intro fuel
  induction fuel with
  | zero =>
    intro v1 v2 v3 v4 ow o h
    exact absurd h (by simp [m_Disk_takenAmong_5])
  | succ fuel ih =>
    intro v1 v2 v3 v4 ow o h hR
    rw [m_Disk_takenAmong_5] at h
    refine x_iload (pc := 5) X d_Disk_takenAmong_5 4 rfl ?_
    refine x_iload_n (pc := 7) X d_Disk_takenAmong_7 2 rfl rfl ?_
    refine x_icmpge (pc := 8) (tgt := 31) X d_Disk_takenAmong_8 rfl h (fun h => ?_) (fun h => ?_)
    · skip
      refine x_iload_n (pc := 31) X d_Disk_takenAmong_31 3 rfl rfl ?_
      cases h
      exact x_iret (pc := 32) X hR d_Disk_takenAmong_32
    · skip
      refine x_aload_n (pc := 11) X d_Disk_takenAmong_11 0 rfl rfl ?_
      refine x_iload_n (pc := 12) X d_Disk_takenAmong_12 1 rfl rfl ?_
      refine x_iload (pc := 13) X d_Disk_takenAmong_13 4 rfl ?_
      refine x_iadd (pc := 15) X d_Disk_takenAmong_15  ?_
      obtain ⟨r1, h2, h⟩ := bnd_e h
      refine x_callV (pc := 16) (As := [.int (zi (v1 + v4))]) (rest := []) (w2 := (w_Disk cI cB a0 a1 a2 a3 a4 a5 a6 a7 a8 a9 ow bt ki pl va wr rm rs rz)) X d_Disk_takenAmong_16 lk_Disk_70 mv_Disk_ownerAt (c_Disk_ownerAt l D cI cB a0 a1 a2 a3 a4 a5 a6 a7 a8 a9 ow bt ki pl va wr rm rs rz (v1 + v4) h2) ⟨(Nat.le_of_ble_eq_true rfl), (Nat.le_of_ble_eq_true rfl), (Nat.le_of_ble_eq_true rfl), (Nat.le_of_ble_eq_true rfl)⟩ 0 rfl rfl [0, 1, 2, 3, 4, 5, 6, 7, 8, 9] rfl rfl rfl (Up.same rfl) rfl rfl (Nat.le_of_ble_eq_true rfl) ?_
      refine x_iflt (pc := 19) (tgt := 25) X d_Disk_takenAmong_19 rfl h (fun h => ?_) (fun h => ?_)
      · skip
        refine x_iinc (pc := 25) (ls2 := [(4, .int (zi (v4 + 1))), (0, .ref a0), (1, .int (zi v1)), (2, .int (zi v2)), (3, .int (zi v3))]) X d_Disk_takenAmong_25 4 (Nat.le_of_ble_eq_true rfl) rfl rfl ?_
        refine x_goto (pc := 28) (tgt := 5) X d_Disk_takenAmong_28 rfl ?_
        refine x_ls (ls2 := [(0, .ref a0), (1, .int (zi v1)), (2, .int (zi v2)), (3, .int (zi v3)), (4, .int (zi (v4 + 1)))]) [1, 2, 3, 4, 0] rfl ?_
        exact ih v1 v2 v3 (v4 + 1) ow o h hR
      · skip
        refine x_iinc (pc := 22) (ls2 := [(3, .int (zi (v3 + 1))), (0, .ref a0), (1, .int (zi v1)), (2, .int (zi v2)), (4, .int (zi v4))]) X d_Disk_takenAmong_22 3 (Nat.le_of_ble_eq_true rfl) rfl rfl ?_
        refine x_iinc (pc := 25) (ls2 := [(4, .int (zi (v4 + 1))), (3, .int (zi (v3 + 1))), (0, .ref a0), (1, .int (zi v1)), (2, .int (zi v2))]) X d_Disk_takenAmong_25 4 (Nat.le_of_ble_eq_true rfl) rfl rfl ?_
        refine x_goto (pc := 28) (tgt := 5) X d_Disk_takenAmong_28 rfl ?_
        refine x_ls (ls2 := [(0, .ref a0), (1, .int (zi v1)), (2, .int (zi v2)), (3, .int (zi (v3 + 1))), (4, .int (zi (v4 + 1)))]) [2, 3, 4, 1, 0] rfl ?_
        exact ih v1 v2 (v3 + 1) (v4 + 1) ow o h hR
set_option maxHeartbeats 4000000 in
set_option maxRecDepth 100000 in
theorem c_Disk_takenAmong (l : Launch) (D : va_G) (cI cB : ClassId) (a0 a1 a2 a3 a4 a5 a6 a7 a8 a9 : Nat) (ow : Int → Int) (bt : Int → Int) (ki : Int → Int) (pl : Int → Int) (va : Int → Int) (wr : Int → Int) (rm : Int) (rs : Int → Int) (rz : Int → Int) (x1 : Int) (x2 : Int) {o : Int} (h : m_Disk_takenAmong x1 x2 ow = some o) : Ct l D cI cB y_Disk_takenAmong b_Disk_takenAmong 5 (some .int) { frames := 1, cells := 0, slots := 0, locals := 21 } [.ref a0, .int (zi x1), .int (zi x2)] (w_Disk cI cB a0 a1 a2 a3 a4 a5 a6 a7 a8 a9 ow bt ki pl va wr rm rs rz) (w_Disk cI cB a0 a1 a2 a3 a4 a5 a6 a7 a8 a9 ow bt ki pl va wr rm rs rz) (some (.int (zi o))) := by
  refine Ct.start (by decide) (Nat.le_of_ble_eq_true rfl) (fun G X hR => ?_)
  refine x_ls (ls2 := [(0, .ref a0), (1, .int (zi x1)), (2, .int (zi x2))]) [0, 1, 2] rfl ?_
  unfold m_Disk_takenAmong at h
  refine x_iconst (pc := 0) X d_Disk_takenAmong_0  ?_
  refine x_istore_n (pc := 1) (ls2 := [(3, .int (zi 0)), (0, .ref a0), (1, .int (zi x1)), (2, .int (zi x2))]) X d_Disk_takenAmong_1 rfl (Nat.le_of_ble_eq_true rfl) rfl ?_
  refine x_iconst (pc := 2) X d_Disk_takenAmong_2  ?_
  refine x_istore (pc := 3) (ls2 := [(4, .int (zi 0)), (3, .int (zi 0)), (0, .ref a0), (1, .int (zi x1)), (2, .int (zi x2))]) X d_Disk_takenAmong_3 (Nat.le_of_ble_eq_true rfl) rfl ?_
  refine x_ls (ls2 := [(0, .ref a0), (1, .int (zi x1)), (2, .int (zi x2)), (3, .int (zi 0)), (4, .int (zi 0))]) [2, 3, 4, 1, 0] rfl ?_
  exact l_Disk_takenAmong_5 X 5000 x1 x2 0 0 ow o h hR
theorem d_Disk_leastTakenWindow_0 : decode b_Disk_leastTakenWindow 0 = .ok (.aload_n 0, 1) := by decide +kernel
theorem d_Disk_leastTakenWindow_1 : decode b_Disk_leastTakenWindow 1 = .ok (.invokevirtual 73, 3) := by decide +kernel
theorem d_Disk_leastTakenWindow_4 : decode b_Disk_leastTakenWindow 4 = .ok (.istore_n 2, 1) := by decide +kernel
theorem d_Disk_leastTakenWindow_5 : decode b_Disk_leastTakenWindow 5 = .ok (.iconst (-1), 1) := by decide +kernel
theorem d_Disk_leastTakenWindow_6 : decode b_Disk_leastTakenWindow 6 = .ok (.istore_n 3, 1) := by decide +kernel
theorem d_Disk_leastTakenWindow_7 : decode b_Disk_leastTakenWindow 7 = .ok (.bipush 64, 2) := by decide +kernel
theorem d_Disk_leastTakenWindow_9 : decode b_Disk_leastTakenWindow 9 = .ok (.istore 4, 2) := by decide +kernel
theorem d_Disk_leastTakenWindow_11 : decode b_Disk_leastTakenWindow 11 = .ok (.iconst 0, 1) := by decide +kernel
theorem d_Disk_leastTakenWindow_12 : decode b_Disk_leastTakenWindow 12 = .ok (.istore 5, 2) := by decide +kernel
theorem d_Disk_leastTakenWindow_14 : decode b_Disk_leastTakenWindow 14 = .ok (.iload 5, 2) := by decide +kernel
theorem d_Disk_leastTakenWindow_16 : decode b_Disk_leastTakenWindow 16 = .ok (.iload_n 1, 1) := by decide +kernel
theorem d_Disk_leastTakenWindow_17 : decode b_Disk_leastTakenWindow 17 = .ok (.iadd, 1) := by decide +kernel
theorem d_Disk_leastTakenWindow_18 : decode b_Disk_leastTakenWindow 18 = .ok (.bipush 64, 2) := by decide +kernel
theorem d_Disk_leastTakenWindow_20 : decode b_Disk_leastTakenWindow 20 = .ok (.if_icmp .gt 51, 3) := by decide +kernel
theorem d_Disk_leastTakenWindow_23 : decode b_Disk_leastTakenWindow 23 = .ok (.aload_n 0, 1) := by decide +kernel
theorem d_Disk_leastTakenWindow_24 : decode b_Disk_leastTakenWindow 24 = .ok (.iload 5, 2) := by decide +kernel
theorem d_Disk_leastTakenWindow_26 : decode b_Disk_leastTakenWindow 26 = .ok (.iload_n 1, 1) := by decide +kernel
theorem d_Disk_leastTakenWindow_27 : decode b_Disk_leastTakenWindow 27 = .ok (.invokevirtual 76, 3) := by decide +kernel
theorem d_Disk_leastTakenWindow_30 : decode b_Disk_leastTakenWindow 30 = .ok (.istore 6, 2) := by decide +kernel
theorem d_Disk_leastTakenWindow_32 : decode b_Disk_leastTakenWindow 32 = .ok (.iload_n 2, 1) := by decide +kernel
theorem d_Disk_leastTakenWindow_33 : decode b_Disk_leastTakenWindow 33 = .ok (.iload_n 1, 1) := by decide +kernel
theorem d_Disk_leastTakenWindow_34 : decode b_Disk_leastTakenWindow 34 = .ok (.iload 6, 2) := by decide +kernel
theorem d_Disk_leastTakenWindow_36 : decode b_Disk_leastTakenWindow 36 = .ok (.isub, 1) := by decide +kernel
theorem d_Disk_leastTakenWindow_37 : decode b_Disk_leastTakenWindow 37 = .ok (.isub, 1) := by decide +kernel
theorem d_Disk_leastTakenWindow_38 : decode b_Disk_leastTakenWindow 38 = .ok (.istore 7, 2) := by decide +kernel
theorem d_Disk_leastTakenWindow_40 : decode b_Disk_leastTakenWindow 40 = .ok (.iload 6, 2) := by decide +kernel
theorem d_Disk_leastTakenWindow_42 : decode b_Disk_leastTakenWindow 42 = .ok (.iload 7, 2) := by decide +kernel
theorem d_Disk_leastTakenWindow_44 : decode b_Disk_leastTakenWindow 44 = .ok (.if_icmp .gt 21, 3) := by decide +kernel
theorem d_Disk_leastTakenWindow_47 : decode b_Disk_leastTakenWindow 47 = .ok (.iload_n 3, 1) := by decide +kernel
theorem d_Disk_leastTakenWindow_48 : decode b_Disk_leastTakenWindow 48 = .ok (.ifCond .lt 10, 3) := by decide +kernel
theorem d_Disk_leastTakenWindow_51 : decode b_Disk_leastTakenWindow 51 = .ok (.iload 6, 2) := by decide +kernel
theorem d_Disk_leastTakenWindow_53 : decode b_Disk_leastTakenWindow 53 = .ok (.iload 4, 2) := by decide +kernel
theorem d_Disk_leastTakenWindow_55 : decode b_Disk_leastTakenWindow 55 = .ok (.if_icmp .ge 10, 3) := by decide +kernel
theorem d_Disk_leastTakenWindow_58 : decode b_Disk_leastTakenWindow 58 = .ok (.iload 5, 2) := by decide +kernel
theorem d_Disk_leastTakenWindow_60 : decode b_Disk_leastTakenWindow 60 = .ok (.istore_n 3, 1) := by decide +kernel
theorem d_Disk_leastTakenWindow_61 : decode b_Disk_leastTakenWindow 61 = .ok (.iload 6, 2) := by decide +kernel
theorem d_Disk_leastTakenWindow_63 : decode b_Disk_leastTakenWindow 63 = .ok (.istore 4, 2) := by decide +kernel
theorem d_Disk_leastTakenWindow_65 : decode b_Disk_leastTakenWindow 65 = .ok (.iinc 5 1, 3) := by decide +kernel
theorem d_Disk_leastTakenWindow_68 : decode b_Disk_leastTakenWindow 68 = .ok (.goto (-54), 3) := by decide +kernel
theorem d_Disk_leastTakenWindow_71 : decode b_Disk_leastTakenWindow 71 = .ok (.iload_n 3, 1) := by decide +kernel
theorem d_Disk_leastTakenWindow_72 : decode b_Disk_leastTakenWindow 72 = .ok (.ireturn, 1) := by decide +kernel
def m_Disk_leastTakenWindow_14 : Nat → Int → Int → Int → Int → Int → (Int → Int) → Option (Int)
  | 0, _, _, _, _, _, _ => none
  | fuel + 1, v1, v2, v3, v4, v5, ow =>
  cle (v5 + v1) 64 (bnd (m_Disk_takenAmong v5 v1 ow) (fun r3 => cle r3 (v2 - (v1 - r3)) (clt v3 0 (m_Disk_leastTakenWindow_14 fuel v1 v2 v5 r3 (v5 + 1) ow) (clt r3 v4 (m_Disk_leastTakenWindow_14 fuel v1 v2 v5 r3 (v5 + 1) ow) (m_Disk_leastTakenWindow_14 fuel v1 v2 v3 v4 (v5 + 1) ow))) (m_Disk_leastTakenWindow_14 fuel v1 v2 v3 v4 (v5 + 1) ow))) (some (v3))
def m_Disk_leastTakenWindow (x1 : Int) (ow : Int → Int) : Option (Int) :=
  bnd (m_Disk_freeBlocks ow) (fun r1 => m_Disk_leastTakenWindow_14 5000 x1 r1 (-1) 64 0 ow)
set_option maxHeartbeats 4000000 in
set_option maxRecDepth 100000 in
theorem l_Disk_leastTakenWindow_14 {G : GT} {l : Launch} {D : va_G} {cI cB : ClassId} {a0 a1 a2 a3 a4 a5 a6 a7 a8 a9 : Nat} {bt : Int → Int} {ki : Int → Int} {pl : Int → Int} {va : Int → Int} {wr : Int → Int} {rm : Int} {rs : Int → Int} {rz : Int → Int} (X : Cx G l D cI cB b_Disk_leastTakenWindow y_Disk_leastTakenWindow.cls 8 { frames := 2, cells := 0, slots := 0, locals := 45 }) : ∀ (fuel : Nat) (v1 : Int) (v2 : Int) (v3 : Int) (v4 : Int) (v5 : Int) (ow : Int → Int) (o : Int), m_Disk_leastTakenWindow_14 fuel v1 v2 v3 v4 v5 ow = some o → Rt G (some .int) (some (.int (zi o))) (w_Disk cI cB a0 a1 a2 a3 a4 a5 a6 a7 a8 a9 ow bt ki pl va wr rm rs rz) → Wx G 0 0 14 [(0, .ref a0), (1, .int (zi v1)), (2, .int (zi v2)), (3, .int (zi v3)), (4, .int (zi v4)), (5, .int (zi v5))] [] (w_Disk cI cB a0 a1 a2 a3 a4 a5 a6 a7 a8 a9 ow bt ki pl va wr rm rs rz) := by
  intro fuel
  induction fuel with
  | zero =>
    intro v1 v2 v3 v4 v5 ow o h
    exact absurd h (by simp [m_Disk_leastTakenWindow_14])
  | succ fuel ih =>
    intro v1 v2 v3 v4 v5 ow o h hR
    rw [m_Disk_leastTakenWindow_14] at h
    refine x_iload (pc := 14) X d_Disk_leastTakenWindow_14 5 rfl ?_
    refine x_iload_n (pc := 16) X d_Disk_leastTakenWindow_16 1 rfl rfl ?_
    refine x_iadd (pc := 17) X d_Disk_leastTakenWindow_17  ?_
    refine x_bipush (pc := 18) (v := 64) X d_Disk_leastTakenWindow_18 rfl ?_
    refine x_icmpgt (pc := 20) (tgt := 71) X d_Disk_leastTakenWindow_20 rfl h (fun h => ?_) (fun h => ?_)
    · skip
      refine x_iload_n (pc := 71) X d_Disk_leastTakenWindow_71 3 rfl rfl ?_
      cases h
      exact x_iret (pc := 72) X hR d_Disk_leastTakenWindow_72
    · skip
      refine x_aload_n (pc := 23) X d_Disk_leastTakenWindow_23 0 rfl rfl ?_
      refine x_iload (pc := 24) X d_Disk_leastTakenWindow_24 5 rfl ?_
      refine x_iload_n (pc := 26) X d_Disk_leastTakenWindow_26 1 rfl rfl ?_
      obtain ⟨r3, h4, h⟩ := bnd_e h
      refine x_callV (pc := 27) (As := [.int (zi v5), .int (zi v1)]) (rest := []) (w2 := (w_Disk cI cB a0 a1 a2 a3 a4 a5 a6 a7 a8 a9 ow bt ki pl va wr rm rs rz)) X d_Disk_leastTakenWindow_27 lk_Disk_76 mv_Disk_takenAmong (c_Disk_takenAmong l D cI cB a0 a1 a2 a3 a4 a5 a6 a7 a8 a9 ow bt ki pl va wr rm rs rz v5 v1 h4) ⟨(Nat.le_of_ble_eq_true rfl), (Nat.le_of_ble_eq_true rfl), (Nat.le_of_ble_eq_true rfl), (Nat.le_of_ble_eq_true rfl)⟩ 0 rfl rfl [0, 1, 2, 3, 4, 5, 6, 7, 8, 9] rfl rfl rfl (Up.same rfl) rfl rfl (Nat.le_of_ble_eq_true rfl) ?_
      refine x_istore (pc := 30) (ls2 := [(6, .int (zi r3)), (0, .ref a0), (1, .int (zi v1)), (2, .int (zi v2)), (3, .int (zi v3)), (4, .int (zi v4)), (5, .int (zi v5))]) X d_Disk_leastTakenWindow_30 (Nat.le_of_ble_eq_true rfl) rfl ?_
      refine x_iload_n (pc := 32) X d_Disk_leastTakenWindow_32 3 rfl rfl ?_
      refine x_iload_n (pc := 33) X d_Disk_leastTakenWindow_33 2 rfl rfl ?_
      refine x_iload (pc := 34) X d_Disk_leastTakenWindow_34 0 rfl ?_
      refine x_isub (pc := 36) X d_Disk_leastTakenWindow_36  ?_
      refine x_isub (pc := 37) X d_Disk_leastTakenWindow_37  ?_
      refine x_istore (pc := 38) (ls2 := [(7, .int (zi (v2 - (v1 - r3)))), (6, .int (zi r3)), (0, .ref a0), (1, .int (zi v1)), (2, .int (zi v2)), (3, .int (zi v3)), (4, .int (zi v4)), (5, .int (zi v5))]) X d_Disk_leastTakenWindow_38 (Nat.le_of_ble_eq_true rfl) rfl ?_
      refine x_iload (pc := 40) X d_Disk_leastTakenWindow_40 1 rfl ?_
      refine x_iload (pc := 42) X d_Disk_leastTakenWindow_42 0 rfl ?_
      refine x_icmpgt (pc := 44) (tgt := 65) X d_Disk_leastTakenWindow_44 rfl h (fun h => ?_) (fun h => ?_)
      · skip
        refine x_iinc (pc := 65) (ls2 := [(5, .int (zi (v5 + 1))), (7, .int (zi (v2 - (v1 - r3)))), (6, .int (zi r3)), (0, .ref a0), (1, .int (zi v1)), (2, .int (zi v2)), (3, .int (zi v3)), (4, .int (zi v4))]) X d_Disk_leastTakenWindow_65 7 (Nat.le_of_ble_eq_true rfl) rfl rfl ?_
        refine x_goto (pc := 68) (tgt := 14) X d_Disk_leastTakenWindow_68 rfl ?_
        refine x_ls (ls2 := [(0, .ref a0), (1, .int (zi v1)), (2, .int (zi v2)), (3, .int (zi v3)), (4, .int (zi v4)), (5, .int (zi (v5 + 1)))]) [3, 4, 5, 6, 7, 0] rfl ?_
        exact ih v1 v2 v3 v4 (v5 + 1) ow o h hR
      · skip
        refine x_iload_n (pc := 47) X d_Disk_leastTakenWindow_47 5 rfl rfl ?_
        refine x_iflt (pc := 48) (tgt := 58) X d_Disk_leastTakenWindow_48 rfl h (fun h => ?_) (fun h => ?_)
        · skip
          refine x_iload (pc := 58) X d_Disk_leastTakenWindow_58 7 rfl ?_
          refine x_istore_n (pc := 60) (ls2 := [(3, .int (zi v5)), (7, .int (zi (v2 - (v1 - r3)))), (6, .int (zi r3)), (0, .ref a0), (1, .int (zi v1)), (2, .int (zi v2)), (4, .int (zi v4)), (5, .int (zi v5))]) X d_Disk_leastTakenWindow_60 rfl (Nat.le_of_ble_eq_true rfl) rfl ?_
          refine x_iload (pc := 61) X d_Disk_leastTakenWindow_61 2 rfl ?_
          refine x_istore (pc := 63) (ls2 := [(4, .int (zi r3)), (3, .int (zi v5)), (7, .int (zi (v2 - (v1 - r3)))), (6, .int (zi r3)), (0, .ref a0), (1, .int (zi v1)), (2, .int (zi v2)), (5, .int (zi v5))]) X d_Disk_leastTakenWindow_63 (Nat.le_of_ble_eq_true rfl) rfl ?_
          refine x_iinc (pc := 65) (ls2 := [(5, .int (zi (v5 + 1))), (4, .int (zi r3)), (3, .int (zi v5)), (7, .int (zi (v2 - (v1 - r3)))), (6, .int (zi r3)), (0, .ref a0), (1, .int (zi v1)), (2, .int (zi v2))]) X d_Disk_leastTakenWindow_65 7 (Nat.le_of_ble_eq_true rfl) rfl rfl ?_
          refine x_goto (pc := 68) (tgt := 14) X d_Disk_leastTakenWindow_68 rfl ?_
          refine x_ls (ls2 := [(0, .ref a0), (1, .int (zi v1)), (2, .int (zi v2)), (3, .int (zi v5)), (4, .int (zi r3)), (5, .int (zi (v5 + 1)))]) [5, 6, 7, 2, 1, 0] rfl ?_
          exact ih v1 v2 v5 r3 (v5 + 1) ow o h hR
        · skip
          refine x_iload (pc := 51) X d_Disk_leastTakenWindow_51 1 rfl ?_
          refine x_iload (pc := 53) X d_Disk_leastTakenWindow_53 6 rfl ?_
          refine x_icmpge (pc := 55) (tgt := 65) X d_Disk_leastTakenWindow_55 rfl h (fun h => ?_) (fun h => ?_)
          · skip
            refine x_iinc (pc := 65) (ls2 := [(5, .int (zi (v5 + 1))), (7, .int (zi (v2 - (v1 - r3)))), (6, .int (zi r3)), (0, .ref a0), (1, .int (zi v1)), (2, .int (zi v2)), (3, .int (zi v3)), (4, .int (zi v4))]) X d_Disk_leastTakenWindow_65 7 (Nat.le_of_ble_eq_true rfl) rfl rfl ?_
            refine x_goto (pc := 68) (tgt := 14) X d_Disk_leastTakenWindow_68 rfl ?_
            refine x_ls (ls2 := [(0, .ref a0), (1, .int (zi v1)), (2, .int (zi v2)), (3, .int (zi v3)), (4, .int (zi v4)), (5, .int (zi (v5 + 1)))]) [3, 4, 5, 6, 7, 0] rfl ?_
            exact ih v1 v2 v3 v4 (v5 + 1) ow o h hR
          · skip
            refine x_iload (pc := 58) X d_Disk_leastTakenWindow_58 7 rfl ?_
            refine x_istore_n (pc := 60) (ls2 := [(3, .int (zi v5)), (7, .int (zi (v2 - (v1 - r3)))), (6, .int (zi r3)), (0, .ref a0), (1, .int (zi v1)), (2, .int (zi v2)), (4, .int (zi v4)), (5, .int (zi v5))]) X d_Disk_leastTakenWindow_60 rfl (Nat.le_of_ble_eq_true rfl) rfl ?_
            refine x_iload (pc := 61) X d_Disk_leastTakenWindow_61 2 rfl ?_
            refine x_istore (pc := 63) (ls2 := [(4, .int (zi r3)), (3, .int (zi v5)), (7, .int (zi (v2 - (v1 - r3)))), (6, .int (zi r3)), (0, .ref a0), (1, .int (zi v1)), (2, .int (zi v2)), (5, .int (zi v5))]) X d_Disk_leastTakenWindow_63 (Nat.le_of_ble_eq_true rfl) rfl ?_
            refine x_iinc (pc := 65) (ls2 := [(5, .int (zi (v5 + 1))), (4, .int (zi r3)), (3, .int (zi v5)), (7, .int (zi (v2 - (v1 - r3)))), (6, .int (zi r3)), (0, .ref a0), (1, .int (zi v1)), (2, .int (zi v2))]) X d_Disk_leastTakenWindow_65 7 (Nat.le_of_ble_eq_true rfl) rfl rfl ?_
            refine x_goto (pc := 68) (tgt := 14) X d_Disk_leastTakenWindow_68 rfl ?_
            refine x_ls (ls2 := [(0, .ref a0), (1, .int (zi v1)), (2, .int (zi v2)), (3, .int (zi v5)), (4, .int (zi r3)), (5, .int (zi (v5 + 1)))]) [5, 6, 7, 2, 1, 0] rfl ?_
            exact ih v1 v2 v5 r3 (v5 + 1) ow o h hR
set_option maxHeartbeats 4000000 in
set_option maxRecDepth 100000 in
theorem c_Disk_leastTakenWindow (l : Launch) (D : va_G) (cI cB : ClassId) (a0 a1 a2 a3 a4 a5 a6 a7 a8 a9 : Nat) (ow : Int → Int) (bt : Int → Int) (ki : Int → Int) (pl : Int → Int) (va : Int → Int) (wr : Int → Int) (rm : Int) (rs : Int → Int) (rz : Int → Int) (x1 : Int) {o : Int} (h : m_Disk_leastTakenWindow x1 ow = some o) : Ct l D cI cB y_Disk_leastTakenWindow b_Disk_leastTakenWindow 8 (some .int) { frames := 2, cells := 0, slots := 0, locals := 45 } [.ref a0, .int (zi x1)] (w_Disk cI cB a0 a1 a2 a3 a4 a5 a6 a7 a8 a9 ow bt ki pl va wr rm rs rz) (w_Disk cI cB a0 a1 a2 a3 a4 a5 a6 a7 a8 a9 ow bt ki pl va wr rm rs rz) (some (.int (zi o))) := by
  refine Ct.start (by decide) (Nat.le_of_ble_eq_true rfl) (fun G X hR => ?_)
  refine x_ls (ls2 := [(0, .ref a0), (1, .int (zi x1))]) [0, 1] rfl ?_
  unfold m_Disk_leastTakenWindow at h
  refine x_aload_n (pc := 0) X d_Disk_leastTakenWindow_0 0 rfl rfl ?_
  obtain ⟨r1, h2, h⟩ := bnd_e h
  refine x_callV (pc := 1) (As := []) (rest := []) (w2 := (w_Disk cI cB a0 a1 a2 a3 a4 a5 a6 a7 a8 a9 ow bt ki pl va wr rm rs rz)) X d_Disk_leastTakenWindow_1 lk_Disk_73 mv_Disk_freeBlocks (c_Disk_freeBlocks l D cI cB a0 a1 a2 a3 a4 a5 a6 a7 a8 a9 ow bt ki pl va wr rm rs rz h2) ⟨(Nat.le_of_ble_eq_true rfl), (Nat.le_of_ble_eq_true rfl), (Nat.le_of_ble_eq_true rfl), (Nat.le_of_ble_eq_true rfl)⟩ 0 rfl rfl [0, 1, 2, 3, 4, 5, 6, 7, 8, 9] rfl rfl rfl (Up.same rfl) rfl rfl (Nat.le_of_ble_eq_true rfl) ?_
  refine x_istore_n (pc := 4) (ls2 := [(2, .int (zi r1)), (0, .ref a0), (1, .int (zi x1))]) X d_Disk_leastTakenWindow_4 rfl (Nat.le_of_ble_eq_true rfl) rfl ?_
  refine x_iconst (pc := 5) X d_Disk_leastTakenWindow_5  ?_
  refine x_istore_n (pc := 6) (ls2 := [(3, .int (zi (-1))), (2, .int (zi r1)), (0, .ref a0), (1, .int (zi x1))]) X d_Disk_leastTakenWindow_6 rfl (Nat.le_of_ble_eq_true rfl) rfl ?_
  refine x_bipush (pc := 7) (v := 64) X d_Disk_leastTakenWindow_7 rfl ?_
  refine x_istore (pc := 9) (ls2 := [(4, .int (zi 64)), (3, .int (zi (-1))), (2, .int (zi r1)), (0, .ref a0), (1, .int (zi x1))]) X d_Disk_leastTakenWindow_9 (Nat.le_of_ble_eq_true rfl) rfl ?_
  refine x_iconst (pc := 11) X d_Disk_leastTakenWindow_11  ?_
  refine x_istore (pc := 12) (ls2 := [(5, .int (zi 0)), (4, .int (zi 64)), (3, .int (zi (-1))), (2, .int (zi r1)), (0, .ref a0), (1, .int (zi x1))]) X d_Disk_leastTakenWindow_12 (Nat.le_of_ble_eq_true rfl) rfl ?_
  refine x_ls (ls2 := [(0, .ref a0), (1, .int (zi x1)), (2, .int (zi r1)), (3, .int (zi (-1))), (4, .int (zi 64)), (5, .int (zi 0))]) [4, 5, 3, 2, 1, 0] rfl ?_
  exact l_Disk_leastTakenWindow_14 X 5000 x1 r1 (-1) 64 0 ow o h hR
theorem d_Disk_greatestSize_0 : decode b_Disk_greatestSize 0 = .ok (.aload_n 0, 1) := by decide +kernel
theorem d_Disk_greatestSize_1 : decode b_Disk_greatestSize 1 = .ok (.getfield 34, 3) := by decide +kernel
theorem d_Disk_greatestSize_4 : decode b_Disk_greatestSize 4 = .ok (.aload_n 0, 1) := by decide +kernel
theorem d_Disk_greatestSize_5 : decode b_Disk_greatestSize 5 = .ok (.getfield 9, 3) := by decide +kernel
theorem d_Disk_greatestSize_8 : decode b_Disk_greatestSize 8 = .ok (.invokevirtual 44, 3) := by decide +kernel
theorem d_Disk_greatestSize_11 : decode b_Disk_greatestSize 11 = .ok (.aload_n 0, 1) := by decide +kernel
theorem d_Disk_greatestSize_12 : decode b_Disk_greatestSize 12 = .ok (.getfield 34, 3) := by decide +kernel
theorem d_Disk_greatestSize_15 : decode b_Disk_greatestSize 15 = .ok (.aload_n 0, 1) := by decide +kernel
theorem d_Disk_greatestSize_16 : decode b_Disk_greatestSize 16 = .ok (.getfield 34, 3) := by decide +kernel
theorem d_Disk_greatestSize_19 : decode b_Disk_greatestSize 19 = .ok (.invokevirtual 48, 3) := by decide +kernel
theorem d_Disk_greatestSize_22 : decode b_Disk_greatestSize 22 = .ok (.invokevirtual 52, 3) := by decide +kernel
theorem d_Disk_greatestSize_25 : decode b_Disk_greatestSize 25 = .ok (.ireturn, 1) := by decide +kernel
def m_Disk_greatestSize  (ow : Int → Int) (rm : Int) (rs : Int → Int) (rz : Int → Int) : Option (Int × Int × (Int → Int) × (Int → Int)) :=
  bnd (m_Runs_lookAt rm rs rz ow) (fun r1 => bnd (m_Runs_greatest r1.1 r1.2.2) (fun r3 => bnd (m_Runs_sizeAt r3 r1.1 r1.2.2) (fun r5 => some (r5, r1.1, r1.2.1, r1.2.2))))
set_option maxHeartbeats 4000000 in
set_option maxRecDepth 100000 in
theorem c_Disk_greatestSize (l : Launch) (D : va_G) (cI cB : ClassId) (a0 a1 a2 a3 a4 a5 a6 a7 a8 a9 : Nat) (ow : Int → Int) (bt : Int → Int) (ki : Int → Int) (pl : Int → Int) (va : Int → Int) (wr : Int → Int) (rm : Int) (rs : Int → Int) (rz : Int → Int)  {o : Int × Int × (Int → Int) × (Int → Int)} (h : m_Disk_greatestSize ow rm rs rz = some o) : Ct l D cI cB y_Disk_greatestSize b_Disk_greatestSize 1 (some .int) { frames := 2, cells := 0, slots := 0, locals := 45 } [.ref a0] (w_Disk cI cB a0 a1 a2 a3 a4 a5 a6 a7 a8 a9 ow bt ki pl va wr rm rs rz) (w_Disk cI cB a0 a1 a2 a3 a4 a5 a6 a7 a8 a9 ow bt ki pl va wr o.2.1 o.2.2.1 o.2.2.2) (some (.int (zi o.1))) := by
  refine Ct.start (by decide) (Nat.le_of_ble_eq_true rfl) (fun G X hR => ?_)
  refine x_ls (ls2 := [(0, .ref a0)]) [0] rfl ?_
  unfold m_Disk_greatestSize at h
  refine x_aload_n (pc := 0) X d_Disk_greatestSize_0 0 rfl rfl ?_
  refine x_get (pc := 1) X d_Disk_greatestSize_1 0 rfl fl_Disk_34 rfl ?_
  refine x_aload_n (pc := 4) X d_Disk_greatestSize_4 0 rfl rfl ?_
  refine x_get (pc := 5) X d_Disk_greatestSize_5 0 rfl fl_Disk_9 rfl ?_
  obtain ⟨r1, h2, h⟩ := bnd_e h
  refine x_callV (pc := 8) (As := [.ref a1]) (rest := []) (w2 := (w_Disk cI cB a0 a1 a2 a3 a4 a5 a6 a7 a8 a9 ow bt ki pl va wr r1.1 r1.2.1 r1.2.2)) X d_Disk_greatestSize_8 lk_Disk_44 mv_Runs_lookAt (c_Runs_lookAt l D cI cB a7 a8 a9 a1 rm rs rz ow h2) ⟨(Nat.le_of_ble_eq_true rfl), (Nat.le_of_ble_eq_true rfl), (Nat.le_of_ble_eq_true rfl), (Nat.le_of_ble_eq_true rfl)⟩ 7 rfl rfl [7, 8, 9, 1] rfl rfl rfl (Up.of [0, 2, 3, 4, 5, 6] [(a0, .inr (0, [.ref a1, .ref a2, .ref a3, .ref a4, .ref a5, .ref a6, .ref a7])), (a2, zA cI 64 bt), (a3, zA cI 4 ki), (a4, zA cI 96 pl), (a5, zA cI 96 va), (a6, zA cB 96 wr)] rfl rfl rfl 10 rfl (by decide +kernel)) rfl rfl (Nat.le_of_ble_eq_true rfl) ?_
  refine x_aload_n (pc := 11) X d_Disk_greatestSize_11 0 rfl rfl ?_
  refine x_get (pc := 12) X d_Disk_greatestSize_12 0 rfl fl_Disk_34 rfl ?_
  refine x_aload_n (pc := 15) X d_Disk_greatestSize_15 0 rfl rfl ?_
  refine x_get (pc := 16) X d_Disk_greatestSize_16 0 rfl fl_Disk_34 rfl ?_
  obtain ⟨r3, h4, h⟩ := bnd_e h
  refine x_callV (pc := 19) (As := []) (rest := [.ref a7]) (w2 := (w_Disk cI cB a0 a1 a2 a3 a4 a5 a6 a7 a8 a9 ow bt ki pl va wr r1.1 r1.2.1 r1.2.2)) X d_Disk_greatestSize_19 lk_Disk_48 mv_Runs_greatest (c_Runs_greatest l D cI cB a7 a8 a9 r1.1 r1.2.1 r1.2.2 h4) ⟨(Nat.le_of_ble_eq_true rfl), (Nat.le_of_ble_eq_true rfl), (Nat.le_of_ble_eq_true rfl), (Nat.le_of_ble_eq_true rfl)⟩ 7 rfl rfl [7, 8, 9] rfl rfl rfl (Up.same rfl) rfl rfl (Nat.le_of_ble_eq_true rfl) ?_
  obtain ⟨r5, h6, h⟩ := bnd_e h
  refine x_callV (pc := 22) (As := [.int (zi r3)]) (rest := []) (w2 := (w_Disk cI cB a0 a1 a2 a3 a4 a5 a6 a7 a8 a9 ow bt ki pl va wr r1.1 r1.2.1 r1.2.2)) X d_Disk_greatestSize_22 lk_Disk_52 mv_Runs_sizeAt (c_Runs_sizeAt l D cI cB a7 a8 a9 r1.1 r1.2.1 r1.2.2 r3 h6) ⟨(Nat.le_of_ble_eq_true rfl), (Nat.le_of_ble_eq_true rfl), (Nat.le_of_ble_eq_true rfl), (Nat.le_of_ble_eq_true rfl)⟩ 7 rfl rfl [7, 8, 9] rfl rfl rfl (Up.same rfl) rfl rfl (Nat.le_of_ble_eq_true rfl) ?_
  cases h
  exact x_iret (pc := 25) X hR d_Disk_greatestSize_25
