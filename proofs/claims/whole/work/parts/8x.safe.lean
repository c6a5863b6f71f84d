/-! e_loses, e_safe, e_lost, e_sure -/
theorem e_loses : E_loses := by
  intro ik now nbt nki npl nva nwr kow kbt kki kpl kva kwr smn snu rmn rnu rf mr mb mo ml mw mt mk mp mq mz mh my mn tow tbt tki tpl tva twr trm trs trz sm sM mi mc ms x1 x2 x3 hR hx hx2 hx3
  obtain ⟨hI, hD, hk, hk1, h5, h6, h7⟩ := id hR
  unfold m_Vol_loses m_Mod_loses
  simp only [jn_s]
  rw [p_Vol_isFile hx, bnd_s, p_Mod_isFile hx, bnd_s, ceq_yn, ceq_yn]
  by_cases hf : 0 ≤ x1 ∧ x1 < 4
  · rw [if_pos hf, if_pos hf, p_Mod_bound hx2 (by omega) (by omega), bnd_s]
    by_cases h1 : x2 < 0
    · rw [clt_t (by omega), if_pos h1, ceq_f (by omega), ceq_f (by omega), p_refuse (by omega), p_no (by omega), bnd_s, bnd_s]
      exact ⟨_, _, rfl, rfl, rfl, hR.no (-4) (by omega)⟩
    · rw [clt_f (by omega), if_neg h1]
      by_cases h2 : x2 ≤ 99
      · rw [cle_t (by omega), if_pos h2, ceq_t (x := 0) (y := 0) (by omega), p_Vol_isEither hx3, bnd_s, p_Mod_isIn hx3 (by omega) (by omega), bnd_s, ceq_yn, ceq_yn]
        by_cases hw : x3 = 0 ∨ x3 = 1
        · rw [if_pos hw, if_pos (by omega), ceq_t (x := 0) (y := 0) (by omega)]
          obtain ⟨n, t, x, mw', e1, e2, e3, e4, -⟩ := loss_both (mz := mz) (mw := ms) hI hD hf (k := x2) (o := x3) ⟨by omega, h2⟩ hw (tow, tbt, tki, tpl, tva, twr, trm, trs, trz) sm sM mi mc
          rcases hw with hw | hw
          · subst hw
            rw [ceq_t (by omega), ceq_f (by omega), e1 rfl, e3, bnd_s, bnd_s]
            exact ⟨_, _, rfl, rfl, rfl, hR.sm e4⟩
          · subst hw
            rw [ceq_f (by omega), ceq_t (by omega), e2 rfl, e3, bnd_s, bnd_s]
            exact ⟨_, _, rfl, rfl, rfl, hR.sm e4⟩
        · rw [if_neg hw, if_neg (by omega), ceq_f (by omega), p_refuse (by omega), p_no (by omega), bnd_s, bnd_s]
          exact ⟨_, _, rfl, rfl, rfl, hR.no (-2) (by omega)⟩
      · rw [cle_f (by omega), if_neg h2, ceq_f (by omega), ceq_f (by omega), p_refuse (by omega), p_no (by omega), bnd_s, bnd_s]
        exact ⟨_, _, rfl, rfl, rfl, hR.no (-6) (by omega)⟩
  · rw [if_neg hf, if_neg hf, ceq_f (by omega), ceq_f (by omega), p_refuse (by omega), p_no (by omega), bnd_s, bnd_s]
    exact ⟨_, _, rfl, rfl, rfl, hR.no (-1) (by omega)⟩
section SAF
variable {bt ow bl wr wa ki vow vbt vki vpl vva vwr : Int → Int}
theorem own_of {f k n : Int} {g t : TG} (h : m_Mind_lossOfOwn f k vow vbt vki vpl vva vwr g.1 g.2.1 g.2.2.1 g.2.2.2.1 g.2.2.2.2.1 g.2.2.2.2.2.1 g.2.2.2.2.2.2.1 g.2.2.2.2.2.2.2.1 g.2.2.2.2.2.2.2.2 = some (n, t)) : m_Mind_crashBehind f k vow vbt vki vpl vva vwr g.1 g.2.1 g.2.2.1 g.2.2.2.1 g.2.2.2.2.1 g.2.2.2.2.2.1 g.2.2.2.2.2.2.1 g.2.2.2.2.2.2.2.1 g.2.2.2.2.2.2.2.2 = some t ∧ m_Mind_otherwiseIn f vbt vpl vva vwr t.2.1 t.2.2.2.1 t.2.2.2.2.1 t.2.2.2.2.2.1 = some n := by
  unfold m_Mind_lossOfOwn at h
  obtain ⟨r1, e1, h⟩ := bnd_e h
  obtain ⟨r3, e2, h⟩ := bnd_e h
  cases h
  exact ⟨e1, e2⟩
theorem safe_loop (hI : Inv bt ow bl wr wa ki) (hD : Dsk vow vbt vki vpl vva vwr bt ow bl wr wa ki) {f st : Int} (hf : 0 ≤ f ∧ f < 4) {g0 t0 : TG} (hS : m_Mind_stepsOf f vow vbt vki vpl vva vwr g0.1 g0.2.1 g0.2.2.1 g0.2.2.2.1 g0.2.2.2.2.1 g0.2.2.2.2.2.1 g0.2.2.2.2.2.2.1 g0.2.2.2.2.2.2.2.1 g0.2.2.2.2.2.2.2.2 = some (st, t0)) (hst : 0 ≤ st ∧ st ≤ 99) {mr mz : Int → Int} : ∀ (d : Nat) (k : Int) (g : TG) (x : MS) (mw : Int → Int) (fD fM : Nat), k + d = st → 0 ≤ k → d < fD → d < fM → SmT bt ow bl wr wa ki mz x →
    ∃ (r : Int) (t : TG) (u : MS) (mw' : Int → Int), m_Mind_leastSafe_8 fD f st k vow vbt vki vpl vva vwr g.1 g.2.1 g.2.2.1 g.2.2.2.1 g.2.2.2.2.1 g.2.2.2.2.2.1 g.2.2.2.2.2.2.1 g.2.2.2.2.2.2.2.1 g.2.2.2.2.2.2.2.2 = some (r, t) ∧ m_Mod_safe_15 fM f k x.1 x.2.1 x.2.2.1 x.2.2.2.1 mr x.2.2.2.2.1 x.2.2.2.2.2.1 x.2.2.2.2.2.2.1 x.2.2.2.2.2.2.2.1 x.2.2.2.2.2.2.2.2.1 x.2.2.2.2.2.2.2.2.2.1 x.2.2.2.2.2.2.2.2.2.2 mw = some (r, u.1, u.2.1, u.2.2.1, u.2.2.2.1, mr, u.2.2.2.2.1, u.2.2.2.2.2.1, u.2.2.2.2.2.2.1, u.2.2.2.2.2.2.2.1, u.2.2.2.2.2.2.2.2.1, u.2.2.2.2.2.2.2.2.2.1, u.2.2.2.2.2.2.2.2.2.2, mw') ∧ SmT bt ow bl wr wa ki mz u := by
  intro d
  induction d with
  | zero =>
    intro k g x mw fD fM h1 h2 h3 h4 h5
    cases fD with
    | zero => omega
    | succ fD =>
      cases fM with
      | zero => omega
      | succ fM =>
        obtain ⟨n', t', e, hF⟩ := steps_full (h5.inv hI) (h5.dsk hD) hf g0
        rw [hS] at e
        cases e
        obtain ⟨n, t, u, mw', e1, e2, e3, e4, e5, e6, e7, e8⟩ := loss_both (mz := x.2.2.2.2.2.2.2.2.2.2) (mw := mw) (h5.inv hI) (h5.dsk hD) hf (k := k) (o := 0) ⟨h2, by omega⟩ (Or.inl rfl) g x.1 x.2.1 x.2.2.1 x.2.2.2.1
        have hn := e8 rfl (by rw [show k = st by omega]; exact hF)
        refine ⟨st, g, u, mw', ?_, ?_, h5.tr e4⟩
        · rw [m_Mind_leastSafe_8, clt_f (by omega)]
        · rw [m_Mod_safe_15, e3, bnd_s]
          dsimp only
          rw [cle_t (by omega), show k = st by omega]
  | succ d ih =>
    intro k g x mw fD fM h1 h2 h3 h4 h5
    cases fD with
    | zero => omega
    | succ fD =>
      cases fM with
      | zero => omega
      | succ fM =>
        obtain ⟨n, t, u, mw', e1, e2, e3, e4, e5, e6, e7, -⟩ := loss_both (mz := x.2.2.2.2.2.2.2.2.2.2) (mw := mw) (h5.inv hI) (h5.dsk hD) hf (k := k) (o := 0) ⟨h2, by omega⟩ (Or.inl rfl) g x.1 x.2.1 x.2.2.1 x.2.2.2.1
        obtain ⟨d1, d2⟩ := own_of (e1 rfl)
        by_cases c : n = 0
        · refine ⟨k, t, u, mw', ?_, ?_, h5.tr e4⟩
          · rw [m_Mind_leastSafe_8, clt_t (by omega), d1, bnd_s, d2, bnd_s, ceq_t (by omega)]
          · rw [m_Mod_safe_15, e3, bnd_s]
            dsimp only
            rw [cle_t (by omega)]
        · obtain ⟨r, t2, u2, mw2, y1, y2, y3⟩ := ih (k + 1) t u mw' fD fM (by omega) (by omega) (by omega) (by omega) (h5.tr e4)
          refine ⟨r, t2, u2, mw2, ?_, ?_, y3⟩
          · rw [m_Mind_leastSafe_8, clt_t (by omega), d1, bnd_s, d2, bnd_s, ceq_f (by omega)]
            exact y1
          · rw [m_Mod_safe_15, e3, bnd_s]
            dsimp only
            rw [cle_f (by omega)]
            exact y2
theorem lost_loop (hI : Inv bt ow bl wr wa ki) (hD : Dsk vow vbt vki vpl vva vwr bt ow bl wr wa ki) {f st w : Int} (hf : 0 ≤ f ∧ f < 4) (hst : 0 ≤ st ∧ st ≤ 99) (hw : w = 0 ∨ w = 1) {mr mz : Int → Int} : ∀ (d : Nat) (k v : Int) (g : TG) (x : MS) (mw : Int → Int) (fD fM : Nat), k + d = st + 1 → 0 ≤ k → d < fD → d < fM → 0 ≤ v → v ≤ 24 * k → SmT bt ow bl wr wa ki mz x →
    ∃ (r q : Int) (t : TG) (u : MS) (mw' : Int → Int), m_Mind_lossOfAllCrashes_11 fD f st v k vow vbt vki vpl vva vwr g.1 g.2.1 g.2.2.1 g.2.2.2.1 g.2.2.2.2.1 g.2.2.2.2.2.1 g.2.2.2.2.2.2.1 g.2.2.2.2.2.2.2.1 g.2.2.2.2.2.2.2.2 = some (r, t) ∧ m_Vol_partOf r (st + 1) w = some q ∧ m_Mod_lost_50 fM f w st v k x.1 x.2.1 x.2.2.1 x.2.2.2.1 mr x.2.2.2.2.1 x.2.2.2.2.2.1 x.2.2.2.2.2.2.1 x.2.2.2.2.2.2.2.1 x.2.2.2.2.2.2.2.2.1 x.2.2.2.2.2.2.2.2.2.1 x.2.2.2.2.2.2.2.2.2.2 mw = some (q, u.1, u.2.1, u.2.2.1, u.2.2.2.1, mr, u.2.2.2.2.1, u.2.2.2.2.2.1, u.2.2.2.2.2.2.1, u.2.2.2.2.2.2.2.1, u.2.2.2.2.2.2.2.2.1, u.2.2.2.2.2.2.2.2.2.1, u.2.2.2.2.2.2.2.2.2.2, mw') ∧ SmT bt ow bl wr wa ki mz u := by
  intro d
  induction d with
  | zero =>
    intro k v g x mw fD fM h1 h2 h3 h4 hv hv2 h5
    cases fD with
    | zero => omega
    | succ fD =>
      cases fM with
      | zero => omega
      | succ fM =>
        obtain ⟨q, p1, p2⟩ := part_both (a := v) (b := st + 1) (w := w) ⟨hv, by omega⟩ ⟨by omega, by omega⟩ hw
        refine ⟨v, q, g, x, mw, ?_, p1, ?_, h5⟩
        · rw [m_Mind_lossOfAllCrashes_11, cle_f (by omega)]
        · rw [m_Mod_lost_50, cle_f (by omega), gd_r (by omega), p2, bnd_s]
  | succ d ih =>
    intro k v g x mw fD fM h1 h2 h3 h4 hv hv2 h5
    cases fD with
    | zero => omega
    | succ fD =>
      cases fM with
      | zero => omega
      | succ fM =>
        obtain ⟨n, t, u, mw', e1, e2, e3, e4, e5, e6, e7, -⟩ := loss_both (mz := x.2.2.2.2.2.2.2.2.2.2) (mw := mw) (h5.inv hI) (h5.dsk hD) hf (k := k) (o := 0) ⟨h2, by omega⟩ (Or.inl rfl) g x.1 x.2.1 x.2.2.1 x.2.2.2.1
        obtain ⟨d1, d2⟩ := own_of (e1 rfl)
        have n24 := e7 rfl
        obtain ⟨r, q, t2, u2, mw2, y1, y2, y3, y4⟩ := ih (k + 1) (v + n) t u mw' fD fM (by omega) (by omega) (by omega) (by omega) (by omega) (by omega) (h5.tr e4)
        refine ⟨r, q, t2, u2, mw2, ?_, y2, ?_, y4⟩
        · rw [m_Mind_lossOfAllCrashes_11, cle_t (by omega), d1, bnd_s, d2, bnd_s]
          exact y1
        · rw [m_Mod_lost_50, cle_t (by omega), e3, bnd_s]
          dsimp only
          rw [gd_r (by omega)]
          exact y3
/-- a crash in mind: whether one page is read as before -/
theorem sure_row {mz : Int → Int} {f p k : Int} (hI : Inv bt ow bl wr wa ki) (hD : Dsk vow vbt vki vpl vva vwr bt ow bl wr wa ki) (hf : 0 ≤ f ∧ f < 4) (hp : 0 ≤ p ∧ p < 24) (hk : 0 ≤ k ∧ k ≤ 99) (g : TG) (sm sM mi mc : Int) :
    ∃ (y z : Int) (t : TG) (x : MS), (0 ≤ y ∧ y ≤ 99) ∧ (0 ≤ z ∧ z ≤ 99) ∧ m_Mind_crashBehind f k vow vbt vki vpl vva vwr g.1 g.2.1 g.2.2.1 g.2.2.2.1 g.2.2.2.2.1 g.2.2.2.2.2.1 g.2.2.2.2.2.2.1 g.2.2.2.2.2.2.2.1 g.2.2.2.2.2.2.2.2 = some t ∧ m_Disk_readAt f p vbt vpl vva vwr = some y ∧ m_Disk_readAt f p t.2.1 t.2.2.2.1 t.2.2.2.2.1 t.2.2.2.2.2.1 = some z ∧ m_Mod_isReadSo f (24 * f + p) k sm sM mi mc bt ow bl wr wa ki mz = some (if z = y then 1 else 0, x) ∧ SmT bt ow bl wr wa ki mz x := by
  obtain ⟨w', c1, c2⟩ := copied hI hD vki g.1 g.2.1 g.2.2.1 g.2.2.2.1 g.2.2.2.2.1 g.2.2.2.2.2.1
  obtain ⟨cn1, st, vow', vbt', vpl', vva', vwr', rm', rs', rz', va', bt', ow', bl', wr', wa', e1, e2, e3, nI, nD, -⟩ := crash_both hI c2 hf (K := k) (M := k) (Or.inl ⟨hk.1, hk.2, rfl⟩) g.2.2.2.2.2.2.1 g.2.2.2.2.2.2.2.1 g.2.2.2.2.2.2.2.2 sm sM
  obtain ⟨c, kp, m1, m2⟩ := minds_forgets mi mc bt ow bl wr wa ki mz
  obtain ⟨cc, b3, o3, l3, w3, x3, k3, m3, m4⟩ := m2 1 c bt' ow' bl' wr' wa' ki
  have r1 := rd_bd hI (a := 24 * f + p) ⟨by omega, by omega⟩
  have r2 := rd_bd nI (a := 24 * f + p) ⟨by omega, by omega⟩
  have v1 := rd_v hI (a := 24 * f + p) ⟨by omega, by omega⟩
  have v2 := rd_v nI (a := 24 * f + p) ⟨by omega, by omega⟩
  refine ⟨rdv bt bl wr wa (24 * f + p), rdv bt' bl' wr' wa' (24 * f + p), (vow', vbt', vki, vpl', va', vwr', rm', rs', rz'), (st, k, 0, cc, b3, o3, l3, w3, x3, k3, kp), by omega, by omega, ?_, p_Disk_readAt hI hD hf hp, p_Disk_readAt nI nD hf hp, ?_, m4⟩
  · unfold m_Mind_crashBehind
    rw [c1, bnd_s]
    dsimp only
    rw [e1, bnd_s]
    dsimp only
    rw [e2, bnd_s]
  · unfold m_Mod_isReadSo
    rw [p_Mod_readAt hI ⟨by omega, by omega⟩, bnd_s, m1, bnd_s]
    dsimp only
    rw [e3, bnd_s]
    dsimp only
    rw [p_Mod_readAt nI ⟨by omega, by omega⟩, bnd_s]
    simp only [jn_s]
    by_cases q : rdv bt' bl' wr' wa' (24 * f + p) = rdv bt bl wr wa (24 * f + p)
    · rw [ceq_t (by omega), m3, bnd_s, gd_b (by omega), if_pos q]
    · rw [ceq_f (by omega), m3, bnd_s, gd_b (by omega), if_neg q]
theorem sure_loop (hI : Inv bt ow bl wr wa ki) (hD : Dsk vow vbt vki vpl vva vwr bt ow bl wr wa ki) {f p st w : Int} (hf : 0 ≤ f ∧ f < 4) (hp : 0 ≤ p ∧ p < 24) (hst : 0 ≤ st ∧ st ≤ 99) (hw : w = 0 ∨ w = 1) {mr mz : Int → Int} : ∀ (d : Nat) (k v : Int) (g : TG) (x : MS) (fD fM : Nat), k + d = st + 1 → 0 ≤ k → d < fD → d < fM → 0 ≤ v → v ≤ k → SmT bt ow bl wr wa ki mz x →
    ∃ (r q : Int) (t : TG) (u : MS), m_Mind_crashesThatKeep_12 fD f p st v k vow vbt vki vpl vva vwr g.1 g.2.1 g.2.2.1 g.2.2.2.1 g.2.2.2.2.1 g.2.2.2.2.2.1 g.2.2.2.2.2.2.1 g.2.2.2.2.2.2.2.1 g.2.2.2.2.2.2.2.2 = some (r, t) ∧ m_Vol_partOf r (st + 1) w = some q ∧ m_Mod_sure_60 fM f p w st v k x.1 x.2.1 x.2.2.1 x.2.2.2.1 mr x.2.2.2.2.1 x.2.2.2.2.2.1 x.2.2.2.2.2.2.1 x.2.2.2.2.2.2.2.1 x.2.2.2.2.2.2.2.2.1 x.2.2.2.2.2.2.2.2.2.1 x.2.2.2.2.2.2.2.2.2.2 = some (q, u.1, u.2.1, u.2.2.1, u.2.2.2.1, mr, u.2.2.2.2.1, u.2.2.2.2.2.1, u.2.2.2.2.2.2.1, u.2.2.2.2.2.2.2.1, u.2.2.2.2.2.2.2.2.1, u.2.2.2.2.2.2.2.2.2.1, u.2.2.2.2.2.2.2.2.2.2) ∧ SmT bt ow bl wr wa ki mz u := by
  intro d
  induction d with
  | zero =>
    intro k v g x fD fM h1 h2 h3 h4 hv hv2 h5
    cases fD with
    | zero => omega
    | succ fD =>
      cases fM with
      | zero => omega
      | succ fM =>
        obtain ⟨q, p1, p2⟩ := part_both (a := v) (b := st + 1) (w := w) ⟨hv, by omega⟩ ⟨by omega, by omega⟩ hw
        refine ⟨v, q, g, x, ?_, p1, ?_, h5⟩
        · rw [m_Mind_crashesThatKeep_12, cle_f (by omega)]
        · rw [m_Mod_sure_60, cle_f (by omega), gd_r (by omega), p2, bnd_s]
  | succ d ih =>
    intro k v g x fD fM h1 h2 h3 h4 hv hv2 h5
    cases fD with
    | zero => omega
    | succ fD =>
      cases fM with
      | zero => omega
      | succ fM =>
        obtain ⟨y, z, t, u, by1, bz1, d1, d2, d3, e3, e4⟩ := sure_row (mz := x.2.2.2.2.2.2.2.2.2.2) (h5.inv hI) (h5.dsk hD) hf hp (k := k) ⟨h2, by omega⟩ g x.1 x.2.1 x.2.2.1 x.2.2.2.1
        by_cases c : z = y
        · rw [if_pos c] at e3
          obtain ⟨r, q, t2, u2, y1, y2, y3, y4⟩ := ih (k + 1) (v + 1) t u fD fM (by omega) (by omega) (by omega) (by omega) (by omega) (by omega) (h5.tr e4)
          refine ⟨r, q, t2, u2, ?_, y2, ?_, y4⟩
          · rw [m_Mind_crashesThatKeep_12, cle_t (by omega), d1, bnd_s, d2, bnd_s, d3, bnd_s, ceq_t (by omega)]
            exact y1
          · rw [m_Mod_sure_60, cle_t (by omega), e3, bnd_s]
            dsimp only
            rw [ceq_f (by omega)]
            exact y3
        · rw [if_neg c] at e3
          obtain ⟨r, q, t2, u2, y1, y2, y3, y4⟩ := ih (k + 1) v t u fD fM (by omega) (by omega) (by omega) (by omega) (by omega) (by omega) (h5.tr e4)
          refine ⟨r, q, t2, u2, ?_, y2, ?_, y4⟩
          · rw [m_Mind_crashesThatKeep_12, cle_t (by omega), d1, bnd_s, d2, bnd_s, d3, bnd_s, ceq_f (by omega)]
            exact y1
          · rw [m_Mod_sure_60, cle_t (by omega), e3, bnd_s]
            dsimp only
            rw [ceq_t (by omega), Int.add_zero]
            exact y3
theorem steps_again (hI : Inv bt ow bl wr wa ki) (hD : Dsk vow vbt vki vpl vva vwr bt ow bl wr wa ki) {f st : Int} (hf : 0 ≤ f ∧ f < 4) {g0 t0 : TG} (hS : m_Mind_stepsOf f vow vbt vki vpl vva vwr g0.1 g0.2.1 g0.2.2.1 g0.2.2.2.1 g0.2.2.2.2.1 g0.2.2.2.2.2.1 g0.2.2.2.2.2.2.1 g0.2.2.2.2.2.2.2.1 g0.2.2.2.2.2.2.2.2 = some (st, t0)) (g : TG) : ∃ t : TG, m_Mind_stepsOf f vow vbt vki vpl vva vwr g.1 g.2.1 g.2.2.1 g.2.2.2.1 g.2.2.2.2.1 g.2.2.2.2.2.1 g.2.2.2.2.2.2.1 g.2.2.2.2.2.2.2.1 g.2.2.2.2.2.2.2.2 = some (st, t) := by
  obtain ⟨n, t, e, F⟩ := steps_full hI hD hf g0
  obtain ⟨n2, t2, e2, F2⟩ := steps_full hI hD hf g
  rw [hS] at e
  cases e
  have := F2.eq F
  subst this
  exact ⟨t2, e2⟩
end SAF
theorem e_safe : E_safe := by
  intro ik now nbt nki npl nva nwr kow kbt kki kpl kva kwr smn snu rmn rnu rf mr mb mo ml mw mt mk mp mq mz mh my mn tow tbt tki tpl tva twr trm trs trz sm sM mi mc ms x1 hR hx
  obtain ⟨hI, hD, hk, hk1, h5, h6, h7⟩ := id hR
  unfold m_Vol_safe m_Mod_safe
  rw [p_Vol_isFile hx, bnd_s, p_Mod_isFile hx, bnd_s, ceq_yn, ceq_yn]
  by_cases hf : 0 ≤ x1 ∧ x1 < 4
  · rw [if_pos hf, if_pos hf]
    obtain ⟨st, t, e1, hF⟩ := steps_full hI hD hf (tow, tbt, tki, tpl, tva, twr, trm, trs, trz)
    have b0 := hF.1
    have b1 := hF.2.1
    obtain ⟨r, t2, u, mw', y1, y2, y3⟩ := safe_loop hI hD hf e1 ⟨b0, b1⟩ (mr := mr) (mz := mz) st.toNat 0 t (sm, sM, mi, mc, mb, mo, ml, mw, mt, mk, mz) ms 5000 5000 (by omega) (by omega) (by omega) (by omega) Sm.rf
    unfold m_Mind_leastSafe
    dsimp only at e1 y2
    rw [e1, bnd_s]
    dsimp only
    rw [y1, bnd_s, y2]
    exact ⟨_, _, rfl, rfl, rfl, hR.sm y3⟩
  · rw [if_neg hf, if_neg hf, p_refuse (by omega), p_no (by omega), bnd_s, bnd_s]
    exact ⟨_, _, rfl, rfl, rfl, hR.no (-1) (by omega)⟩
theorem e_lost : E_lost := by
  intro ik now nbt nki npl nva nwr kow kbt kki kpl kva kwr smn snu rmn rnu rf mr mb mo ml mw mt mk mp mq mz mh my mn tow tbt tki tpl tva twr trm trs trz sm sM mi mc ms x1 x2 hR hx hx2
  obtain ⟨hI, hD, hk, hk1, h5, h6, h7⟩ := id hR
  unfold m_Vol_lost m_Mod_lost
  simp only [jn_s]
  rw [p_Vol_isFile hx, bnd_s, p_Mod_isFile hx, bnd_s, ceq_yn, ceq_yn]
  by_cases hf : 0 ≤ x1 ∧ x1 < 4
  · rw [if_pos hf, if_pos hf, p_Vol_isEither hx2, bnd_s, p_Mod_isIn hx2 (by omega) (by omega), bnd_s, ceq_yn, ceq_yn]
    by_cases hw : x2 = 0 ∨ x2 = 1
    · rw [if_pos hw, if_pos (by omega), ceq_t (x := 0) (y := 0) (by omega)]
      obtain ⟨st, t, x, e1, e2, e3, b0, b1⟩ := steps_both (mz := mz) hI hD hf (tow, tbt, tki, tpl, tva, twr, trm, trs, trz) sm sM mi mc
      obtain ⟨r, q, t2, u, mw', y1, y2, y3, y4⟩ := lost_loop hI hD hf ⟨b0, b1⟩ hw (mr := mr) (mz := mz) (st + 1).toNat 0 0 t x ms 5000 5000 (by omega) (by omega) (by omega) (by omega) (by omega) (by omega) e3
      obtain ⟨t3, e4⟩ := steps_again hI hD hf e1 t2
      unfold m_Mind_lossOfAllCrashes
      dsimp only at e1
      rw [e1, bnd_s]
      dsimp only
      rw [y1, bnd_s]
      dsimp only
      rw [e4, bnd_s]
      dsimp only
      rw [y2, bnd_s, e2, bnd_s]
      dsimp only
      rw [y3]
      exact ⟨_, _, rfl, rfl, rfl, hR.sm y4⟩
    · unfold m_Mod_lowestOf
      rw [if_neg hw, if_neg (by omega), ceq_f (by omega), p_refuse (by omega), bnd_s, gd_r (by omega), gd_x (by omega), gd_x (by omega), gd_r (by omega), bnd_s]
      exact ⟨_, _, rfl, rfl, rfl, hR.no (-2) (by omega)⟩
  · unfold m_Mod_lowestOf
    rw [if_neg hf, if_neg hf, ceq_f (by omega), p_refuse (by omega), bnd_s, gd_r (by omega), gd_x (by omega), gd_x (by omega), gd_r (by omega), bnd_s]
    exact ⟨_, _, rfl, rfl, rfl, hR.no (-1) (by omega)⟩
theorem e_sure : E_sure := by
  intro ik now nbt nki npl nva nwr kow kbt kki kpl kva kwr smn snu rmn rnu rf mr mb mo ml mw mt mk mp mq mz mh my mn tow tbt tki tpl tva twr trm trs trz sm sM mi mc x1 x2 x3 hR hx hx2 hx3
  obtain ⟨hI, hD, hk, hk1, h5, h6, h7⟩ := id hR
  unfold m_Vol_sure m_Mod_sure
  simp only [jn_s]
  rw [p_Vol_isFile hx, bnd_s, p_Mod_isFile hx, bnd_s, ceq_yn, ceq_yn]
  by_cases hf : 0 ≤ x1 ∧ x1 < 4
  · rw [if_pos hf, if_pos hf, p_Vol_isPage hx2, bnd_s, p_Mod_isPage hx2, bnd_s, ceq_yn, ceq_yn]
    by_cases hp : 0 ≤ x2 ∧ x2 < 24
    · rw [if_pos hp, if_pos hp, p_Vol_isEither hx3, bnd_s, p_Mod_isIn hx3 (by omega) (by omega), bnd_s, ceq_yn, ceq_yn]
      by_cases hw : x3 = 0 ∨ x3 = 1
      · rw [if_pos hw, if_pos (by omega), ceq_t (x := 0) (y := 0) (by omega)]
        obtain ⟨st, t, x, e1, e2, e3, b0, b1⟩ := steps_both (mz := mz) hI hD hf (tow, tbt, tki, tpl, tva, twr, trm, trs, trz) sm sM mi mc
        obtain ⟨r, q, t2, u, y1, y2, y3, y4⟩ := sure_loop hI hD hf hp ⟨b0, b1⟩ hw (mr := mr) (mz := mz) (st + 1).toNat 0 0 t x 5000 5000 (by omega) (by omega) (by omega) (by omega) (by omega) (by omega) e3
        obtain ⟨t3, e4⟩ := steps_again hI hD hf e1 t2
        unfold m_Mind_crashesThatKeep
        dsimp only at e1
        rw [e1, bnd_s]
        dsimp only
        rw [y1, bnd_s]
        dsimp only
        rw [e4, bnd_s]
        dsimp only
        rw [y2, bnd_s, e2, bnd_s]
        dsimp only
        rw [y3]
        exact ⟨_, _, rfl, rfl, rfl, hR.sm y4⟩
      · unfold m_Mod_lowestOf
        rw [if_neg hw, if_neg (by omega), ceq_f (by omega), p_refuse (by omega), bnd_s, gd_r (by omega), gd_x (by omega), gd_x (by omega), gd_r (by omega), bnd_s]
        exact ⟨_, _, rfl, rfl, rfl, hR.no (-2) (by omega)⟩
    · unfold m_Mod_lowestOf
      rw [if_neg hp, if_neg hp, ceq_f (by omega), p_refuse (by omega), bnd_s, gd_r (by omega), gd_x (by omega), gd_x (by omega), gd_r (by omega), bnd_s]
      exact ⟨_, _, rfl, rfl, rfl, hR.no (-1) (by omega)⟩
  · unfold m_Mod_lowestOf
    rw [if_neg hf, if_neg hf, ceq_f (by omega), p_refuse (by omega), bnd_s, gd_r (by omega), gd_x (by omega), gd_x (by omega), gd_r (by omega), bnd_s]
    exact ⟨_, _, rfl, rfl, rfl, hR.no (-1) (by omega)⟩
