/-! e_lots -/
theorem z_and_bd (x : Int) : 0 ≤ z_and x 2147483647 ∧ z_and x 2147483647 < 2147483648 := by
  unfold z_and
  have h : (Int32.ofInt x &&& Int32.ofInt 2147483647).toBitVec.msb = false := by
    rw [Int32.toBitVec_and, BitVec.msb_and, show (Int32.ofInt 2147483647).toBitVec.msb = false from by decide +kernel, Bool.and_false]
  have e : (Int32.ofInt x &&& Int32.ofInt 2147483647).toInt = ((Int32.ofInt x &&& Int32.ofInt 2147483647).toBitVec.toNat : Int) := BitVec.toInt_eq_toNat_of_msb h
  have h2 := Int32.toInt_lt (Int32.ofInt x &&& Int32.ofInt 2147483647)
  omega
def dr (m s : Int) : Int := z_and (s * 1664525 + 1013904223) 2147483647 / 256 % m
theorem p_draw {m s : Int} (hm : 0 < m ∧ m ≤ 1000) : m_Mind_drawBelow m s = some (dr m s, s * 1664525 + 1013904223) ∧ m_Mod_draw m s = some (dr m s, s * 1664525 + 1013904223) ∧ 0 ≤ dr m s ∧ dr m s < m := by
  have h := z_and_bd (s * 1664525 + 1013904223)
  refine ⟨?_, ?_, Int.emod_nonneg _ (by omega), Int.emod_lt_of_pos _ hm.1⟩
  · unfold m_Mind_drawBelow dr
    rw [cle_f (by omega), gd_xz (by omega), gd_xz (by omega)]
  · unfold m_Mod_draw dr
    rw [gd_xz (by omega), gd_xz (by omega)]
section LOT
variable {bt ow bl wr ki vow vbt vki vpl vwr : Int → Int}
theorem says_loop {qow qbt qki qpl qva qwr : Int → Int} {trm : Int} {trs trz : Int → Int} : ∀ (d : Nat) (i s : Int) (va wa : Int → Int) (fD fM : Nat), i + d = 8 → 0 ≤ i → d < fD → d < fM → Inv bt ow bl wr wa ki → Dsk vow vbt vki vpl va vwr bt ow bl wr wa ki →
    ∃ (s' : Int) (va' wa' : Int → Int), Inv bt ow bl wr wa' ki ∧ Dsk vow vbt vki vpl va' vwr bt ow bl wr wa' ki ∧ m_Mind_playLot_13 fD i s qow qbt qki qpl qva qwr vow vbt vki vpl va vwr trm trs trz = m_Mind_playLot_60 5000 0 s' qow qbt qki qpl qva qwr vow vbt vki vpl va' vwr trm trs trz ∧ ∀ kk (v1 v3 v5 v6 sm sM mi mc : Int) (mr kp : Int → Int), m_Mod_lots_63 kk fM v1 v3 v5 v6 i sm sM mi mc s mr bt ow bl wr wa ki kp = kk v1 v3 v5 v6 sm sM mi mc s' mr bt ow bl wr wa' ki kp := by
  intro d
  induction d with
  | zero =>
    intro i s va wa fD fM h1 h2 h3 h4 hI hD
    cases fD with
    | zero => omega
    | succ fD =>
      cases fM with
      | zero => omega
      | succ fM => exact ⟨s, va, wa, hI, hD, by rw [m_Mind_playLot_13, clt_f (by omega)], fun kk v1 v3 v5 v6 sm sM mi mc mr kp => by rw [m_Mod_lots_63, clt_f (by omega)]⟩
  | succ d ih =>
    intro i s va wa fD fM h1 h2 h3 h4 hI hD
    cases fD with
    | zero => omega
    | succ fD =>
      cases fM with
      | zero => omega
      | succ fM =>
        obtain ⟨a1, a2, a3, a4⟩ := p_draw (m := 4) (s := s) (by omega)
        obtain ⟨b1, b2, b3, b4⟩ := p_draw (m := 24) (s := s * 1664525 + 1013904223) (by omega)
        obtain ⟨c1, c2, c3, c4⟩ := p_draw (m := 100) (s := (s * 1664525 + 1013904223) * 1664525 + 1013904223) (by omega)
        have hs := pD_sayAt hI hD (f := dr 4 s) (p := dr 24 (s * 1664525 + 1013904223)) (v := dr 100 ((s * 1664525 + 1013904223) * 1664525 + 1013904223)) ⟨a3, a4⟩ ⟨b3, b4⟩
        have hc := pM_canSay hI (a := 24 * dr 4 s + dr 24 (s * 1664525 + 1013904223)) ⟨by omega, by omega⟩
        by_cases c : ¬ (bl (24 * dr 4 s + dr 24 (s * 1664525 + 1013904223)) < 0 ∧ wa (24 * dr 4 s + dr 24 (s * 1664525 + 1013904223)) < 0) ∨ 1 ≤ rom ow bl wa
        · rw [if_pos c] at hs hc
          obtain ⟨s', va', wa', nI, nD, e1, e2⟩ := ih (i + 1) _ _ _ fD fM (by omega) (by omega) (by omega) (by omega) (hI.say (a := 24 * dr 4 s + dr 24 (s * 1664525 + 1013904223)) (v := dr 100 ((s * 1664525 + 1013904223) * 1664525 + 1013904223)) ⟨by omega, by omega⟩ ⟨c3, by omega⟩ c) (hD.say (a := 24 * dr 4 s + dr 24 (s * 1664525 + 1013904223)) c3)
          refine ⟨s', va', wa', nI, nD, ?_, fun kk v1 v3 v5 v6 sm sM mi mc mr kp => ?_⟩
          · rw [m_Mind_playLot_13, clt_t (by omega), a1, bnd_s, b1, bnd_s, c1, bnd_s, hs, bnd_s]
            exact e1
          · unfold m_Mod_lots_63
            unfold m_Mod_saysByLot m_Mod_saysAt
            rw [clt_t (by omega), a2, bnd_s, b2, bnd_s, c2, bnd_s, hc, bnd_s, ceq_f (by omega), gd_x (by omega), bnd_s, bnd_s]
            exact e2 kk v1 v3 v5 v6 sm sM mi mc mr kp
        · rw [if_neg c] at hs hc
          obtain ⟨s', va', wa', nI, nD, e1, e2⟩ := ih (i + 1) _ _ _ fD fM (by omega) (by omega) (by omega) (by omega) hI hD
          refine ⟨s', va', wa', nI, nD, ?_, fun kk v1 v3 v5 v6 sm sM mi mc mr kp => ?_⟩
          · rw [m_Mind_playLot_13, clt_t (by omega), a1, bnd_s, b1, bnd_s, c1, bnd_s, hs, bnd_s]
            exact e1
          · unfold m_Mod_lots_63
            unfold m_Mod_saysByLot
            rw [clt_t (by omega), a2, bnd_s, b2, bnd_s, c2, bnd_s, hc, bnd_s, ceq_t (by omega), bnd_s]
            exact e2 kk v1 v3 v5 v6 sm sM mi mc mr kp
end LOT
theorem all4D {s : Int} {qow qbt qki qpl qva qwr : Int → Int} {t t' : TG} (h : dseq [0, 1, 2, 3] t = some t') : m_Mind_playLot_60 5000 0 s qow qbt qki qpl qva qwr t.1 t.2.1 t.2.2.1 t.2.2.2.1 t.2.2.2.2.1 t.2.2.2.2.2.1 t.2.2.2.2.2.2.1 t.2.2.2.2.2.2.2.1 t.2.2.2.2.2.2.2.2 = some (s, t') := by
  rw [dseq] at h
  obtain ⟨r1, e1, h⟩ := bnd_e h
  rw [dseq] at h
  obtain ⟨r2, e2, h⟩ := bnd_e h
  rw [dseq] at h
  obtain ⟨r3, e3, h⟩ := bnd_e h
  rw [dseq] at h
  obtain ⟨r4, e4, h⟩ := bnd_e h
  rw [dseq] at h
  cases h
  rw [m_Mind_playLot_60, clt_t (by omega), e1, bnd_s, m_Mind_playLot_60, clt_t (by omega), show (0 : Int) + 1 = 1 from rfl, e2, bnd_s, m_Mind_playLot_60, clt_t (by omega), show (1 : Int) + 1 = 2 from rfl, e3, bnd_s, m_Mind_playLot_60, clt_t (by omega), show (2 : Int) + 1 = 3 from rfl, e4, bnd_s, m_Mind_playLot_60, clt_f (by omega)]
theorem all4M {k : Int → Int} {x y : MR} (h : mseq k [0, 1, 2, 3] x = some y) : ∀ kk (v1 v3 v5 v6 mi mc s : Int) (mr kp : Int → Int), m_Mod_lots_83 kk 5000 v1 v3 v5 v6 0 x.1 x.2.1 mi mc s mr x.2.2.1 x.2.2.2.1 x.2.2.2.2.1 x.2.2.2.2.2.1 x.2.2.2.2.2.2 k kp = kk v1 v3 v5 v6 y.1 y.2.1 mi mc s mr y.2.2.1 y.2.2.2.1 y.2.2.2.2.1 y.2.2.2.2.2.1 y.2.2.2.2.2.2 k kp := by
  intro kk v1 v3 v5 v6 mi mc s mr kp
  rw [mseq] at h
  obtain ⟨r1, e1, h⟩ := bnd_e h
  rw [mseq] at h
  obtain ⟨r2, e2, h⟩ := bnd_e h
  rw [mseq] at h
  obtain ⟨r3, e3, h⟩ := bnd_e h
  rw [mseq] at h
  obtain ⟨r4, e4, h⟩ := bnd_e h
  rw [mseq] at h
  cases h
  rw [m_Mod_lots_83, clt_t (by omega), e1, bnd_s, m_Mod_lots_83, clt_t (by omega), show (0 : Int) + 1 = 1 from rfl, e2, bnd_s, m_Mod_lots_83, clt_t (by omega), show (1 : Int) + 1 = 2 from rfl, e3, bnd_s, m_Mod_lots_83, clt_t (by omega), show (2 : Int) + 1 = 3 from rfl, e4, bnd_s, m_Mod_lots_83, clt_f (by omega)]
section LO2
variable {bt ow bl wr wa ki vow vbt vki vpl vva vwr : Int → Int}
theorem lots_loop (hI : Inv bt ow bl wr wa ki) (hD : Dsk vow vbt vki vpl vva vwr bt ow bl wr wa ki) {n w z : Int} (hn : 1 ≤ n ∧ n ≤ 20) (hw : (w = 0 ∧ z = 1) ∨ (w = 1 ∧ z = 0)) {mr mz : Int → Int} : ∀ (d : Nat) (i v s : Int) (g : TG) (x : MS) (fD fM : Nat), i + d = n → 0 ≤ i → d < fD → d < fM → SmT bt ow bl wr wa ki mz x →
    ∃ (r s' : Int) (t : TG) (u : MS), m_Mind_sumOfLots_11 fD n z v i s vow vbt vki vpl vva vwr g.1 g.2.1 g.2.2.1 g.2.2.2.1 g.2.2.2.2.1 g.2.2.2.2.2.1 g.2.2.2.2.2.2.1 g.2.2.2.2.2.2.2.1 g.2.2.2.2.2.2.2.2 = some (r, s', t) ∧ m_Mod_lots_50 fM n w v i x.1 x.2.1 x.2.2.1 x.2.2.2.1 s mr x.2.2.2.2.1 x.2.2.2.2.2.1 x.2.2.2.2.2.2.1 x.2.2.2.2.2.2.2.1 x.2.2.2.2.2.2.2.2.1 x.2.2.2.2.2.2.2.2.2.1 x.2.2.2.2.2.2.2.2.2.2 = some (r, u.1, u.2.1, u.2.2.1, u.2.2.2.1, s', mr, u.2.2.2.2.1, u.2.2.2.2.2.1, u.2.2.2.2.2.2.1, u.2.2.2.2.2.2.2.1, u.2.2.2.2.2.2.2.2.1, u.2.2.2.2.2.2.2.2.2.1, u.2.2.2.2.2.2.2.2.2.2) ∧ SmT bt ow bl wr wa ki mz u := by
  intro d
  induction d with
  | zero =>
    intro i v s g x fD fM h1 h2 h3 h4 h5
    cases fD with
    | zero => omega
    | succ fD =>
      cases fM with
      | zero => omega
      | succ fM => exact ⟨v, s, g, x, by rw [m_Mind_sumOfLots_11, clt_f (by omega)], by rw [m_Mod_lots_50, clt_f (by omega)], h5⟩
  | succ d ih =>
    intro i v s g x fD fM h1 h2 h3 h4 h5
    cases fD with
    | zero => omega
    | succ fD =>
      cases fM with
      | zero => omega
      | succ fM =>
        have jI := h5.inv hI
        have jD := h5.dsk hD
        obtain ⟨w', c1, c2⟩ := copied jI jD vki g.1 g.2.1 g.2.2.1 g.2.2.2.1 g.2.2.2.2.1 g.2.2.2.2.2.1
        obtain ⟨s', va', wa', nI, nD, e1, e2⟩ := says_loop (qow := vow) (qbt := vbt) (qki := vki) (qpl := vpl) (qva := vva) (qwr := vwr) (trm := g.2.2.2.2.2.2.1) (trs := g.2.2.2.2.2.2.2.1) (trz := g.2.2.2.2.2.2.2.2) 8 0 s vva _ 5000 5000 (by omega) (by omega) (by omega) (by omega) jI c2
        obtain ⟨t, y, f1, f2, pI, pD⟩ := seq_both (ki := x.2.2.2.2.2.2.2.2.2.1) [0, 1, 2, 3] (vow, vbt, vki, vpl, va', w', g.2.2.2.2.2.2.1, g.2.2.2.2.2.2.2.1, g.2.2.2.2.2.2.2.2) (x.1, x.2.1, x.2.2.2.2.1, x.2.2.2.2.2.1, x.2.2.2.2.2.2.1, x.2.2.2.2.2.2.2.1, wa') (fun f hf => by
          simp only [List.mem_cons, List.not_mem_nil, or_false] at hf
          omega) nI nD
        have g1 := all4D (s := s') (qow := vow) (qbt := vbt) (qki := vki) (qpl := vpl) (qva := vva) (qwr := vwr) f1
        have g2 := all4M f2
        obtain ⟨c, kp, m1, m2⟩ := minds_forgets x.2.2.1 x.2.2.2.1 x.2.2.2.2.1 x.2.2.2.2.2.1 x.2.2.2.2.2.2.1 x.2.2.2.2.2.2.2.1 x.2.2.2.2.2.2.2.2.1 x.2.2.2.2.2.2.2.2.2.1 x.2.2.2.2.2.2.2.2.2.2
        obtain ⟨cc, b3, o3, l3, w3, x3, k3, m3, m4⟩ := m2 1 c y.2.2.1 y.2.2.2.1 y.2.2.2.2.1 y.2.2.2.2.2.1 y.2.2.2.2.2.2 x.2.2.2.2.2.2.2.2.2.1
        have hlot : m_Mind_playLot s vow vbt vki vpl vva vwr g.1 g.2.1 g.2.2.1 g.2.2.2.1 g.2.2.2.2.1 g.2.2.2.2.2.1 g.2.2.2.2.2.2.1 g.2.2.2.2.2.2.2.1 g.2.2.2.2.2.2.2.2 = some (s', t) := by
          unfold m_Mind_playLot
          rw [c1, bnd_s]
          exact e1.trans g1
        rcases hw with ⟨w0, z0⟩ | ⟨w0, z0⟩
        · obtain ⟨r, s2, t2, u2, y1, y2, y3⟩ := ih (i + 1) (v + exts y.2.2.2.2.1 y.2.2.2.2.2.1) s' t (y.1, y.2.1, 0, cc, b3, o3, l3, w3, x3, k3, kp) fD fM (by omega) (by omega) (by omega) (by omega) (h5.tr m4)
          refine ⟨r, s2, t2, u2, ?_, ?_, y3⟩
          · rw [m_Mind_sumOfLots_11, clt_t (by omega), hlot, bnd_s]
            dsimp only
            rw [ceq_f (by omega), pD_extentsInAll pI pD, bnd_s]
            exact y1
          · rw [m_Mod_lots_50, clt_t (by omega), m1, bnd_s]
            dsimp only
            rw [e2, g2]
            simp only [jn_s]
            rw [ceq_t (by omega), pM_allExtents pI, bnd_s, m3, bnd_s]
            exact y2
        · obtain ⟨rm', rs', rz', k1, R⟩ := lookedAt pI pD t.2.2.2.2.2.2.1 t.2.2.2.2.2.2.2.1 t.2.2.2.2.2.2.2.2
          have k2 := p_runs (Inv.at pI).1 R
          obtain ⟨r, s2, t2, u2, y1, y2, y3⟩ := ih (i + 1) (v + rm') s' (t.1, t.2.1, t.2.2.1, t.2.2.2.1, t.2.2.2.2.1, t.2.2.2.2.2.1, rm', rs', rz') (y.1, y.2.1, 0, cc, b3, o3, l3, w3, x3, k3, kp) fD fM (by omega) (by omega) (by omega) (by omega) (h5.tr m4)
          refine ⟨r, s2, t2, u2, ?_, ?_, y3⟩
          · rw [m_Mind_sumOfLots_11, clt_t (by omega), hlot, bnd_s]
            dsimp only
            rw [ceq_t (by omega), k1, bnd_s]
            exact y1
          · rw [m_Mod_lots_50, clt_t (by omega), m1, bnd_s]
            dsimp only
            rw [e2, g2]
            simp only [jn_s]
            rw [ceq_f (by omega), k2, bnd_s, m3, bnd_s]
            exact y2
end LO2
theorem e_lots : E_lots := by
  intro ik now nbt nki npl nva nwr kow kbt kki kpl kva kwr smn snu rmn rnu rf mr mb mo ml mw mt mk mp mq mz mh my mn tow tbt tki tpl tva twr trm trs trz seed sm sM mi mc ml2 x1 x2 x3 hR hx hx2 hx3
  obtain ⟨hI, hD, hk, hk1, h5, h6, h7⟩ := id hR
  unfold m_Vol_lots m_Mod_lots
  simp only [jn_s]
  rw [p_Mod_bound hx (by omega) (by omega), bnd_s]
  by_cases h1 : x1 < 1
  · rw [clt_t (by omega), if_pos h1, ceq_f (by omega), ceq_f (by omega), p_refuse (by omega), p_no (by omega), bnd_s, bnd_s]
    exact ⟨_, _, rfl, rfl, rfl, hR.no (-4) (by omega)⟩
  · rw [clt_f (by omega), if_neg h1]
    by_cases h2 : x1 ≤ 20
    · rw [cle_t (by omega), if_pos h2, ceq_t (x := 0) (y := 0) (by omega), p_Vol_isEither hx3, bnd_s, p_Mod_isIn hx3 (by omega) (by omega), bnd_s, ceq_yn, ceq_yn]
      by_cases hw : x3 = 0 ∨ x3 = 1
      · rw [if_pos hw, if_pos (by omega), ceq_t (x := 0) (y := 0) (by omega)]
        unfold m_Mind_sumOfLots
        rcases hw with hw | hw
        · obtain ⟨r, s', t, u, q1, q2, q3⟩ := lots_loop hI hD (w := x3) (z := 1) (n := x1) ⟨by omega, h2⟩ (Or.inl ⟨hw, rfl⟩) (mr := mr) (mz := mz) x1.toNat 0 0 x2 (tow, tbt, tki, tpl, tva, twr, trm, trs, trz) (sm, sM, mi, mc, mb, mo, ml, mw, mt, mk, mz) 5000 5000 (by omega) (by omega) (by omega) (by omega) Sm.rf
          dsimp only at q1 q2
          rw [ceq_t (by omega), q1, bnd_s, q2]
          exact ⟨_, _, rfl, rfl, rfl, hR.sm q3⟩
        · obtain ⟨r, s', t, u, q1, q2, q3⟩ := lots_loop hI hD (w := x3) (z := 0) (n := x1) ⟨by omega, h2⟩ (Or.inr ⟨hw, rfl⟩) (mr := mr) (mz := mz) x1.toNat 0 0 x2 (tow, tbt, tki, tpl, tva, twr, trm, trs, trz) (sm, sM, mi, mc, mb, mo, ml, mw, mt, mk, mz) 5000 5000 (by omega) (by omega) (by omega) (by omega) Sm.rf
          dsimp only at q1 q2
          rw [ceq_f (by omega), q1, bnd_s, q2]
          exact ⟨_, _, rfl, rfl, rfl, hR.sm q3⟩
      · rw [if_neg hw, if_neg (by omega), ceq_f (by omega), p_refuse (by omega), p_no (by omega), bnd_s, bnd_s]
        exact ⟨_, _, rfl, rfl, rfl, hR.no (-2) (by omega)⟩
    · rw [cle_f (by omega), if_neg h2, ceq_f (by omega), ceq_f (by omega), p_refuse (by omega), p_no (by omega), bnd_s, bnd_s]
      exact ⟨_, _, rfl, rfl, rfl, hR.no (-6) (by omega)⟩
