/-! a statement is played -/
theorem punch_up {bt ki vbt vki : Int → Int} {f p n : Int} (hf : 0 ≤ f ∧ f < 4) (hp : 0 ≤ p ∧ p < 24) (hn : 1 ≤ n ∧ p + n ≤ 24) : ∀ (d : Nat) (i v : Int) (f1 f2 : Nat) (vow vpl vva vwr ow bl wr wa : Int → Int), 0 ≤ i → i + d = n → d < f1 → d < f2 → Inv bt ow bl wr wa ki → Dsk vow vbt vki vpl vva vwr bt ow bl wr wa ki →
    ∃ c vow' vpl' vva' vwr' ow' bl' wr' wa', m_Disk_punchOut_6 f1 f p n v i vow vpl vva vwr = some (c, vow', vpl', vva', vwr') ∧ m_Mod_punches_11 f2 f p n v (24 * f + p + i) ow bl wr wa = some (c, ow', bl', wr', wa') ∧ Inv bt ow' bl' wr' wa' ki ∧ Dsk vow' vbt vki vpl' vva' vwr' bt ow' bl' wr' wa' ki ∧ v ≤ c ∧ c ≤ v + d := by
  intro d
  induction d with
  | zero =>
    intro i v f1 f2 vow vpl vva vwr ow bl wr wa h0 h1 h2 h3 hI hD
    cases f1 with
    | zero => omega
    | succ f1 =>
      cases f2 with
      | zero => omega
      | succ f2 =>
        refine ⟨v, vow, vpl, vva, vwr, ow, bl, wr, wa, ?_, ?_, hI, hD, by omega, by omega⟩
        · rw [m_Disk_punchOut_6, clt_f (by omega)]
        · rw [m_Mod_punches_11, clt_f (by omega)]
  | succ d ih =>
    intro i v f1 f2 vow vpl vva vwr ow bl wr wa h0 h1 h2 h3 hI hD
    cases f1 with
    | zero => omega
    | succ f1 =>
      cases f2 with
      | zero => omega
      | succ f2 =>
        obtain ⟨c, vow', vpl', vva', vwr', ow', bl', wr', wa', e1, e2, e3, e4, e5⟩ := punch_one (f := f) (p := p + i) hI hD hf (by omega)
        obtain ⟨c', vow2, vpl2, vva2, vwr2, ow2, bl2, wr2, wa2, g1, g2, g3, g4, g5, g6⟩ := ih (i + 1) (v + c) f1 f2 vow' vpl' vva' vwr' ow' bl' wr' wa' (by omega) (by omega) (by omega) (by omega) e3 e4
        refine ⟨c', vow2, vpl2, vva2, vwr2, ow2, bl2, wr2, wa2, ?_, ?_, g3, g4, by omega, by omega⟩
        · rw [m_Disk_punchOut_6, clt_t (by omega), e1, bnd_s]
          exact g1
        · have := e2 f2 f p n v (24 * f + p + n) (by omega) (by omega) (by omega)
          rw [show 24 * f + p + i = 24 * f + (p + i) by omega, this, show 24 * f + (p + i) + 1 = 24 * f + p + (i + 1) by omega]
          exact g2
section PLY
variable {bt ow bl wr wa ki vow vbt vki vpl vva vwr : Int → Int}
theorem punch_both (hI : Inv bt ow bl wr wa ki) (hD : Dsk vow vbt vki vpl vva vwr bt ow bl wr wa ki) {f p n : Int} (hf : 0 ≤ f ∧ f < 4) (hp : 0 ≤ p ∧ p < 24) (hn : 1 ≤ n ∧ p + n ≤ 24) : ∃ c vow' vpl' vva' vwr' ow' bl' wr' wa', m_Disk_punchOut f p n vow vpl vva vwr = some (c, vow', vpl', vva', vwr') ∧ m_Mod_punches f p n ow bl wr wa = some (c, ow', bl', wr', wa') ∧ Inv bt ow' bl' wr' wa' ki ∧ Dsk vow' vbt vki vpl' vva' vwr' bt ow' bl' wr' wa' ki ∧ 0 ≤ c ∧ c ≤ 24 := by
  obtain ⟨c, vow', vpl', vva', vwr', ow', bl', wr', wa', e1, e2, e3, e4, e5, e6⟩ := punch_up hf hp hn n.toNat 0 0 5000 5000 vow vpl vva vwr ow bl wr wa (by omega) (by omega) (by omega) (by omega) hI hD
  rw [Int.add_zero] at e2
  exact ⟨c, vow', vpl', vva', vwr', ow', bl', wr', wa', e1, e2, e3, e4, by omega, by omega⟩
theorem p_serD {x y : Int} (hx : -10000 ≤ x ∧ x ≤ 10000) (hy : -10000 ≤ y ∧ y ≤ 10000) : m_Text_isSeries x y = some (if (0 ≤ x ∧ x < 24) ∧ 1 ≤ y ∧ x + y ≤ 24 then 1 else 0) := by
  unfold m_Text_isSeries
  rw [p_Vol_isPage (by omega), bnd_s, ceq_yn]
  by_cases c : 0 ≤ x ∧ x < 24
  · rw [if_pos c]
    by_cases c2 : y < 1
    · rw [clt_t (by omega), if_neg (by omega)]
    · rw [clt_f (by omega)]
      by_cases c3 : y ≤ 24 - x
      · rw [cle_t (by omega), if_pos (by omega)]
      · rw [cle_f (by omega), if_neg (by omega)]
  · rw [if_neg c, if_neg (fun q => c q.1)]
theorem p_serM {x y : Int} (hx : -10000 ≤ x ∧ x ≤ 10000) (hy : -10000 ≤ y ∧ y ≤ 10000) : m_Mod_isSeries x y = some (if 1 ≤ y ∧ x + y ≤ 24 then 1 else 0) := by
  unfold m_Mod_isSeries
  by_cases c2 : y < 1
  · rw [clt_t (by omega), if_neg (by omega)]
  · rw [clt_f (by omega)]
    by_cases c3 : x + y ≤ 24
    · rw [cle_t (by omega), if_pos (by omega)]
    · rw [cle_f (by omega), if_neg (by omega)]
theorem say_out {f p v : Int} {o q w : Int → Int} (hf : 0 ≤ f ∧ f < 4) (hp : ¬ (0 ≤ p ∧ p < 24)) (hb : -10000 ≤ p ∧ p ≤ 10000) : m_Disk_sayAt f p v o q w = some (0, w) := by
  unfold m_Disk_sayAt
  simp only [jn_s]
  rw [p_Vol_isFile (by omega), bnd_s, if_pos hf, ceq_f (by omega), p_Vol_isPage (by omega), bnd_s, if_neg hp, ceq_t (by omega)]
variable {m : Int} {T snu : Int → Int}
theorem good_at {b j : Int} (hd : 0 < dgs (T b)) (hg : good m T b (b + sem (T b))) (h1 : 1 ≤ j) (h2 : j ≤ dgs (T b)) : 48 ≤ Lt m T (b + j) ∧ Lt m T (b + j) ≤ 57 := by
  have hs : dgs (T b) + 1 ≤ sem (T b) := by
    unfold sem
    split <;> omega
  have hl := hg.1
  have h := (hg.2 (b + j) (by omega) (by omega)).1
  rw [show Lt m T (b + j) = T (b + j) from if_pos (by omega)]
  rcases h with q | q | ⟨q1, q2, -⟩
  · omega
  · omega
  · omega
theorem p_digAt (hm : 0 ≤ m ∧ m ≤ 96) (hs : ∀ j : Int, 0 ≤ j → j < m → snu j = T j ∧ 0 ≤ T j ∧ T j ≤ 255) {i : Int} (hi : 0 ≤ i ∧ i ≤ 1000) : m_Text_digitAt i m snu = some (Lt m T i - 48) := by
  unfold m_Text_digitAt
  rw [p_num hm hs hi, bnd_s]
theorem plays_both {t : TG} (hI : Inv bt ow bl wr wa ki) (hD : Dsk t.1 t.2.1 t.2.2.1 t.2.2.2.1 t.2.2.2.2.1 t.2.2.2.2.2.1 bt ow bl wr wa ki) (hm : 0 ≤ m ∧ m ≤ 96) (hs : ∀ j : Int, 0 ≤ j → j < m → snu j = T j ∧ 0 ≤ T j ∧ T j ≤ 255) {b k sm sM : Int} {sort told : Int → Int} (hb : 0 ≤ b ∧ b < m) (hk : 0 ≤ k ∧ k < 33) (hd : 0 < dgs (T b)) (hg : good m T b (b + sem (T b))) (hT : TV m T b (3 * k) told) (hso : sort k = T b) :
    ∃ (r : Int) (t' : TG) (s1 s2 : Int) (bt' ow' bl' wr' wa' ki' : Int → Int), (r = 0 ∨ r = 1) ∧ m_Text_plays b m snu t.1 t.2.1 t.2.2.1 t.2.2.2.1 t.2.2.2.2.1 t.2.2.2.2.2.1 t.2.2.2.2.2.2.1 t.2.2.2.2.2.2.2.1 t.2.2.2.2.2.2.2.2 = some (r, t') ∧ m_Mod_comesTold k sm sM bt ow bl wr wa ki sort told = some (r, s1, s2, bt', ow', bl', wr', wa', ki') ∧ (r = 1 → Inv bt' ow' bl' wr' wa' ki' ∧ Dsk t'.1 t'.2.1 t'.2.2.1 t'.2.2.2.1 t'.2.2.2.2.1 t'.2.2.2.2.2.1 bt' ow' bl' wr' wa' ki') := by
  have l1 := Lt_bd hs (i := b + 1) (by omega)
  have l2 := Lt_bd hs (i := b + 2) (by omega)
  have l3 := Lt_bd hs (i := b + 3) (by omega)
  have l4 := Lt_bd hs (i := b + 4) (by omega)
  have l5 := Lt_bd hs (i := b + 5) (by omega)
  have hTb := hs b hb.1 hb.2
  obtain ⟨v1, v2, v3, v4⟩ := hT
  have d1 := good_at hd hg (j := 1) (by omega) (by omega)
  have dg : ∀ j : Int, 1 ≤ j → j ≤ dgs (T b) → 48 ≤ Lt m T (b + j) ∧ Lt m T (b + j) ≤ 57 := fun j h1 h2 => good_at hd hg h1 h2
  unfold m_Text_plays m_Mod_comesTold
  rw [p_digAt hm hs ⟨by omega, by omega⟩, bnd_s, p_digAt hm hs ⟨by omega, by omega⟩, bnd_s, p_digAt hm hs ⟨by omega, by omega⟩, bnd_s, p_digAt hm hs ⟨by omega, by omega⟩, bnd_s, p_digAt hm hs ⟨by omega, by omega⟩, bnd_s, gd_x (by omega), v1]
  generalize hF : Lt m T (b + 1) - 48 = F at *
  rw [p_Vol_isFile (by omega), bnd_s, ceq_yn, p_Mod_isFile (by omega), bnd_s, ceq_yn]
  by_cases hf : 0 ≤ F ∧ F < 4
  · rw [if_pos hf, if_pos hf, p_num hm hs ⟨hb.1, by omega⟩, bnd_s, show Lt m T b = T b from if_pos hb.2, gd_x (by omega), hso]
    rcases dgs_h hd with ⟨hh, h5⟩ | ⟨hh, h3⟩ | ⟨hh, h3⟩ | ⟨hh, h3⟩
    · obtain ⟨w1, w2⟩ := v2 h5
      have x2 := dg 2 (by omega) (by omega)
      have x3 := dg 3 (by omega) (by omega)
      have x4 := dg 4 (by omega) (by omega)
      have x5 := dg 5 (by omega) (by omega)
      rw [w1, w2]
      generalize hX : 10 * (Lt m T (b + 2) - 48) + (Lt m T (b + 3) - 48) = X at *
      generalize hY : 10 * (Lt m T (b + 4) - 48) + (Lt m T (b + 5) - 48) = Y at *
      have bX : 0 ≤ X ∧ X ≤ 99 := by omega
      have bY : 0 ≤ Y ∧ Y ≤ 99 := by omega
      rcases hh with hh | hh | hh
      · -- ahead
        rw [ceq_t (by omega), ceq_t (by omega), p_serD (by omega) (by omega), bnd_s, ceq_yn, gd_x (by omega), gd_x (by omega), gd_x (by omega)]
        unfold m_Mod_comesAhead
        rw [p_Mod_isPage (by omega), bnd_s, ceq_yn]
        by_cases c1 : 0 ≤ X ∧ X < 24
        · rw [if_pos c1, p_serM (by omega) (by omega), bnd_s, ceq_yn]
          by_cases c2 : 1 ≤ Y ∧ X + Y ≤ 24
          · rw [if_pos ⟨c1, c2⟩, if_pos c2]
            have hr := rom_bd hI
            obtain ⟨h, b0, b1, k1, k2, k3⟩ := ahead_both hI hD hf (p := X) (n := Y) c1.1 ⟨by omega, c2.2⟩ t.2.2.2.2.2.2.1 t.2.2.2.2.2.2.2.1 t.2.2.2.2.2.2.2.2 sm sM
            rw [k2, bnd_s, k1, bnd_s]
            rcases k3 with ⟨c, e1⟩ | ⟨c, s1, s2, vow', vpl', rm', rs', rz', ow', bl', wr', e1, e2, nI, nD⟩
            · rw [e1, bnd_s]
              dsimp only
              rw [clt_t (by omega), clt_t (by omega), bnd_s]
              dsimp only
              rw [gd_b (by omega)]
              exact ⟨_, _, _, _, _, _, _, _, _, _, Or.inl rfl, rfl, rfl, fun q => by omega⟩
            · rw [e1, bnd_s]
              dsimp only
              rw [clt_f (by omega), clt_f (by omega), e2, bnd_s, bnd_s]
              dsimp only
              rw [gd_b (by omega)]
              exact ⟨_, _, _, _, _, _, _, _, _, _, Or.inr rfl, rfl, rfl, fun _ => ⟨nI, nD⟩⟩
          · rw [if_neg (fun q => c2 q.2), if_neg c2, bnd_s]
            dsimp only
            rw [gd_b (by omega)]
            exact ⟨_, _, _, _, _, _, _, _, _, _, Or.inl rfl, rfl, rfl, fun q => by omega⟩
        · rw [if_neg (fun q => c1 q.1), if_neg c1, bnd_s]
          dsimp only
          rw [gd_b (by omega)]
          exact ⟨_, _, _, _, _, _, _, _, _, _, Or.inl rfl, rfl, rfl, fun q => by omega⟩
      · -- punch
        rw [ceq_f (by omega), ceq_f (by omega), ceq_f (by omega), ceq_t (by omega), ceq_f (by omega), ceq_t (by omega), p_serD (by omega) (by omega), bnd_s, ceq_yn, gd_x (by omega), gd_x (by omega), gd_x (by omega)]
        unfold m_Mod_comesPunch
        rw [p_Mod_isPage (by omega), bnd_s, ceq_yn]
        by_cases c1 : 0 ≤ X ∧ X < 24
        · rw [if_pos c1, p_serM (by omega) (by omega), bnd_s, ceq_yn]
          by_cases c2 : 1 ≤ Y ∧ X + Y ≤ 24
          · rw [if_pos ⟨c1, c2⟩, if_pos c2]
            obtain ⟨c, vow', vpl', vva', vwr', ow', bl', wr', wa', e1, e2, nI, nD, c0, c24⟩ := punch_both hI hD hf (p := X) (n := Y) c1 c2
            rw [e1, bnd_s]
            dsimp only
            rw [clt_f (by omega), e2, bnd_s, bnd_s]
            dsimp only
            rw [gd_b (by omega)]
            exact ⟨_, _, _, _, _, _, _, _, _, _, Or.inr rfl, rfl, rfl, fun _ => ⟨nI, nD⟩⟩
          · rw [if_neg (fun q => c2 q.2), if_neg c2, bnd_s]
            dsimp only
            rw [gd_b (by omega)]
            exact ⟨_, _, _, _, _, _, _, _, _, _, Or.inl rfl, rfl, rfl, fun q => by omega⟩
        · rw [if_neg (fun q => c1 q.1), if_neg c1, bnd_s]
          dsimp only
          rw [gd_b (by omega)]
          exact ⟨_, _, _, _, _, _, _, _, _, _, Or.inl rfl, rfl, rfl, fun q => by omega⟩
      · -- said
        rw [ceq_f (by omega), ceq_f (by omega), ceq_f (by omega), ceq_f (by omega), ceq_f (by omega), ceq_t (by omega), ceq_f (by omega), ceq_f (by omega), ceq_f (by omega), ceq_t (by omega), gd_x (by omega), gd_x (by omega), gd_x (by omega)]
        unfold m_Mod_comesSaid
        rw [p_Mod_isPage (by omega), bnd_s, ceq_yn]
        by_cases c1 : 0 ≤ X ∧ X < 24
        · rw [if_pos c1, pD_sayAt hI hD hf c1, bnd_s, pM_canSay hI ⟨by omega, by omega⟩, bnd_s]
          by_cases c : ¬ (bl (24 * F + X) < 0 ∧ wa (24 * F + X) < 0) ∨ 1 ≤ rom ow bl wa
          · rw [if_pos c, if_pos c]
            unfold m_Mod_saysAt
            dsimp only
            rw [gd_b (by omega), ceq_f (by omega), gd_x (by omega), bnd_s, bnd_s]
            dsimp only
            rw [gd_b (by omega)]
            exact ⟨_, _, _, _, _, _, _, _, _, _, Or.inr rfl, rfl, rfl, fun _ => ⟨hI.say ⟨by omega, by omega⟩ bY c, hD.say bY.1⟩⟩
          · rw [if_neg c, if_neg c]
            dsimp only
            rw [gd_b (by omega), ceq_t (by omega), bnd_s]
            dsimp only
            rw [gd_b (by omega)]
            exact ⟨_, _, _, _, _, _, _, _, _, _, Or.inl rfl, rfl, rfl, fun q => by omega⟩
        · rw [if_neg c1, say_out hf c1 (by omega), bnd_s, bnd_s]
          dsimp only
          rw [gd_b (by omega), gd_b (by omega)]
          exact ⟨_, _, _, _, _, _, _, _, _, _, Or.inl rfl, rfl, rfl, fun q => by omega⟩
    · -- crash
      have w1 := v3 hh
      have x2 := dg 2 (by omega) (by omega)
      have x3 := dg 3 (by omega) (by omega)
      rw [ceq_f (by omega), ceq_t (by omega), ceq_f (by omega), ceq_f (by omega), ceq_f (by omega), ceq_f (by omega), gd_x (by omega), gd_x (by omega), gd_x (by omega), w1]
      generalize hX : 10 * (Lt m T (b + 2) - 48) + (Lt m T (b + 3) - 48) = X at *
      unfold m_Mod_comesPlain
      obtain ⟨n, st, vow', vbt', vpl', vva', vwr', rm', rs', rz', va', bt', ow', bl', wr', wa', e1, e2, e3, nI, nD, s0, s1, s2, n0, n1, -⟩ := crash_both hI hD hf (K := X) (M := X) (Or.inl ⟨by omega, by omega, rfl⟩) t.2.2.2.2.2.2.1 t.2.2.2.2.2.2.2.1 t.2.2.2.2.2.2.2.2 sm sM
      rw [e1, bnd_s]
      dsimp only
      rw [e2, bnd_s]
      dsimp only
      rw [clt_f (by omega), ceq_f (by omega), ceq_t (by omega), e3, bnd_s, bnd_s]
      dsimp only
      rw [gd_b (by omega)]
      exact ⟨_, _, _, _, _, _, _, _, _, _, Or.inr rfl, rfl, rfl, fun _ => ⟨nI, nD⟩⟩
    · rcases hh with hh | hh
      · -- flush
        rw [ceq_f (by omega), ceq_f (by omega), ceq_t (by omega), ceq_f (by omega), ceq_f (by omega), ceq_f (by omega), ceq_f (by omega), gd_x (by omega), gd_x (by omega), gd_x (by omega)]
        unfold m_Mod_comesPlain
        obtain ⟨st, vow', vbt', vpl', vva', vwr', rm', rs', rz', bt', ow', bl', wr', wa', e1, e2, nI, nD, s0, -, s1, -⟩ := flush_both hI hD hf (K := 1000) (M := 1000000) (Or.inr ⟨rfl, rfl⟩) t.2.2.2.2.2.2.1 t.2.2.2.2.2.2.2.1 t.2.2.2.2.2.2.2.2 sm sM
        rw [e1, bnd_s]
        dsimp only
        rw [clt_f (by omega), ceq_t (by omega), e2, bnd_s, bnd_s]
        dsimp only
        rw [gd_b (by omega)]
        exact ⟨_, _, _, _, _, _, _, _, _, _, Or.inr rfl, rfl, rfl, fun _ => ⟨nI, nD⟩⟩
      · -- settle
        rw [ceq_f (by omega), ceq_f (by omega), ceq_f (by omega), ceq_f (by omega), ceq_t (by omega), ceq_f (by omega), ceq_f (by omega), ceq_t (by omega), gd_x (by omega)]
        unfold m_Mod_comesSettle
        rcases settle_both hI hD hf t.2.2.2.2.2.2.1 t.2.2.2.2.2.2.2.1 t.2.2.2.2.2.2.2.2 with ⟨rm', rs', rz', e1, e2⟩ | ⟨s, vow', vbt', vpl', rm', rs', rz', bt', ow', bl', s0, s1, e1, e2, e3, nI, nD⟩
        · rw [e1, bnd_s]
          dsimp only
          rw [clt_t (by omega), e2, bnd_s, ceq_t (by omega), bnd_s]
          dsimp only
          rw [gd_b (by omega)]
          exact ⟨_, _, _, _, _, _, _, _, _, _, Or.inl rfl, rfl, rfl, fun q => by omega⟩
        · rw [e1, bnd_s]
          dsimp only
          rw [clt_f (by omega), e2, bnd_s, ceq_f (by omega), e3, bnd_s, bnd_s]
          dsimp only
          rw [gd_b (by omega)]
          exact ⟨_, _, _, _, _, _, _, _, _, _, Or.inr rfl, rfl, rfl, fun _ => ⟨nI, nD⟩⟩
    · -- kind
      obtain ⟨w1, w2⟩ := v4 hh
      have hkd := p_kd (s := Lt m T (b + 2)) l2
      rw [ceq_f (by omega), ceq_f (by omega), ceq_f (by omega), ceq_f (by omega), ceq_f (by omega), ceq_f (by omega), ceq_f (by omega), ceq_f (by omega), ceq_f (by omega), ceq_f (by omega), gd_x (by omega), gd_x (by omega), gd_x (by omega), w1]
      unfold m_Mod_comesPlain
      rw [p_num hm hs ⟨by omega, by omega⟩, bnd_s, hkd.1, bnd_s, p_turnKind hf, bnd_s, ceq_f (by omega), ceq_f (by omega), gd_x (by omega), bnd_s]
      dsimp only
      rw [gd_b (by omega)]
      exact ⟨_, _, _, _, _, _, _, _, _, _, Or.inr rfl, rfl, rfl, fun _ => ⟨hI.kind ⟨w2, hkd.2.2.2⟩, hD.kind⟩⟩
  · rw [if_neg hf, if_neg hf]
    exact ⟨_, _, _, _, _, _, _, _, _, _, Or.inl rfl, rfl, rfl, fun q => by omega⟩
end PLY
