/-! e_settle -/
theorem cn_le (P : Int → Prop) [DecidablePred P] {m n : Nat} (h : m ≤ n) : cn P m ≤ cn P n := by
  have e := cn_cat P m (n - m)
  rw [show m + (n - m) = n by omega] at e
  have := cn_bd (fun j => P (m + j)) (n - m)
  omega
section SET
variable {bt ow bl wr wa ki vow vbt vki vpl vva vwr : Int → Int}
theorem uf_swap {f : Int → Int} {a b x y : Int} (h : a ≠ b) : uf (uf f a x) b y = uf (uf f b y) a x := by
  funext j
  by_cases c : j = a
  · subst c
    rw [uf_n h, uf_s, uf_s]
  · by_cases c2 : j = b
    · subst c2
      rw [uf_s, uf_n c, uf_s]
    · rw [uf_n c2, uf_n c, uf_n c, uf_n c2]
theorem Inv.move (hI : Inv bt ow bl wr wa ki) {a t : Int} (ha : 0 ≤ a ∧ a < 96) (hb : 0 ≤ bl a) (ht : 0 ≤ t ∧ t < 64) (hw : ow t < 0) : Inv (uf bt t (bt (bl a))) (uf (uf ow t a) (bl a) (-9)) (uf bl a t) wr wa ki := by
  obtain ⟨i1, i2, i3, i4, i5, i6, i7, i8⟩ := hI
  have h2 := i2 a ha.1 ha.2
  have hne : t ≠ bl a := fun q => by
    rw [q] at hw
    omega
  have c1 : cn (fun j => uf ow t a j < 0) 64 = cn (fun j => ow j < 0) 64 - 1 := cn_out (P := fun j => ow j < 0) (Q := fun j => uf ow t a j < 0) t 64 ht (fun j h0 h1 h2 => by rw [uf_n h2]) hw (by rw [uf_s]; omega)
  have c2 : cn (fun j => uf (uf ow t a) (bl a) (-9) j < 0) 64 = cn (fun j => uf ow t a j < 0) 64 + 1 := cn_in (P := fun j => uf ow t a j < 0) (Q := fun j => uf (uf ow t a) (bl a) (-9) j < 0) (bl a) 64 ⟨hb, by omega⟩ (fun j h0 h1 h2 => by rw [uf_n h2]) (by rw [uf_n (fun q => hne q.symm)]; omega) (by rw [uf_s]; omega)
  have c3 : cn (fun j => 0 ≤ uf bl a t j) 96 = cn (fun j => 0 ≤ bl j) 96 := cn_congr 96 (fun j h0 h1 => by
    by_cases c : j = a
    · rw [c, uf_s]
      omega
    · rw [uf_n c])
  have c4 : cn (fun j => uf bl a t j < 0 ∧ 0 ≤ wa j) 96 = cn (fun j => bl j < 0 ∧ 0 ≤ wa j) 96 := cn_congr 96 (fun j h0 h1 => by
    by_cases c : j = a
    · rw [c, uf_s]
      omega
    · rw [uf_n c])
  refine ⟨fun c h0 h1 => ?_, fun c h0 h1 => ?_, fun c h0 h1 => ?_, i4, fun c h0 h1 => ?_, i6, ?_, ?_⟩
  · by_cases h : c = bl a
    · rw [h, uf_s]
      exact Or.inl rfl
    · rw [uf_n h]
      by_cases h3 : c = t
      · rw [h3, uf_s, uf_s]
        exact Or.inr ⟨ha.1, ha.2, rfl⟩
      · rw [uf_n h3]
        rcases i1 c h0 h1 with q | ⟨q1, q2, q3⟩
        · exact Or.inl q
        · rw [uf_n (fun q => by rw [q] at q3; exact h q3.symm)]
          exact Or.inr ⟨q1, q2, q3⟩
  · by_cases h : c = a
    · rw [h, uf_s, uf_n hne, uf_s]
      exact Or.inr ⟨ht.1, ht.2, rfl⟩
    · rw [uf_n h]
      rcases i2 c h0 h1 with q | ⟨q1, q2, q3⟩
      · exact Or.inl q
      · rw [uf_n (fun q => by rw [q] at q3; omega), uf_n (fun q => by rw [q] at q3; omega)]
        exact Or.inr ⟨q1, q2, q3⟩
  · have := i3 c h0 h1
    by_cases h : c = a
    · rw [h, uf_s]
      rw [h] at this
      omega
    · rw [uf_n h]
      exact this
  · by_cases h : c = t
    · rw [h, uf_s]
      exact i5 _ hb (by omega)
    · rw [uf_n h]
      exact i5 c h0 h1
  · rw [c2, c1, c4]
    omega
  · rw [c2, c1, c3]
    omega
theorem Dsk.move (hI : Inv bt ow bl wr wa ki) (hD : Dsk vow vbt vki vpl vva vwr bt ow bl wr wa ki) {a t : Int} (ha : 0 ≤ a ∧ a < 96) (hb : 0 ≤ bl a) (ht : 0 ≤ t ∧ t < 64) (hw : ow t < 0) : Dsk (uf (uf vow (bl a) (-1)) t a) (uf vbt t (vbt (bl a))) vki (uf vpl a t) vva vwr (uf bt t (bt (bl a))) (uf (uf ow t a) (bl a) (-9)) (uf bl a t) wr wa ki := by
  obtain ⟨d1, d2, d3, d4, d5, d6⟩ := hD
  have h2 := hI.2.1 a ha.1 ha.2
  have hne : t ≠ bl a := fun q => by
    rw [q] at hw
    omega
  refine ⟨fun c h0 h1 => ?_, fun c h0 h1 => ?_, d3, fun c h0 h1 => ?_, d5, d6⟩
  · rw [uf_swap hne]
    by_cases h : c = t
    · rw [h, uf_s, uf_s]
      exact Or.inr ⟨ha.1, rfl⟩
    · rw [uf_n h, uf_n h]
      by_cases h3 : c = bl a
      · rw [h3, uf_s, uf_s]
        exact Or.inl ⟨rfl, rfl⟩
      · rw [uf_n h3, uf_n h3]
        exact d1 c h0 h1
  · by_cases h : c = t
    · rw [h, uf_s, uf_s]
      exact d2 _ hb (by omega)
    · rw [uf_n h, uf_n h]
      exact d2 c h0 h1
  · by_cases h : c = a
    · rw [h, uf_s, uf_s]
      exact Or.inr ⟨ht.1, rfl⟩
    · rw [uf_n h, uf_n h]
      exact d4 c h0 h1
theorem p_move {f p t b : Int} {o y q : Int → Int} (hf : 0 ≤ f ∧ f < 4) (hp : 0 ≤ p ∧ p < 24) (ht : 0 ≤ t ∧ t < 64) (hb : 0 ≤ b ∧ b < 64) (e : q (24 * f + p) = b) : m_Disk_move f p t o y q = some (uf (uf o b (-1)) t (24 * f + p), uf y t (y b), uf q (24 * f + p) t) := by
  unfold m_Disk_move
  rw [p_blockAt hf hp, bnd_s, e, p_Vol_isBlock (by omega), bnd_s, if_pos hb, ceq_f (by omega), p_Vol_isBlock (by omega), bnd_s, if_pos ht, ceq_f (by omega), gd_x hb, gd_x ht, gd_x hb, p_place hf hp ht, bnd_s]
theorem settle_loop {f s n rm : Int} {rs rz bl0 : Int → Int} (hf : 0 ≤ f ∧ f < 4) (hs : 0 ≤ s) (hn : n = cn (fun q => 0 ≤ bl0 (24 * f + q)) 24) (hsn : s + n ≤ 64) : ∀ (d p : Nat) (bt ow bl vow vbt vpl : Int → Int) (fM fD : Nat), p + d = 24 → d < fM → d < fD → Inv bt ow bl wr wa ki → Dsk vow vbt vki vpl vva vwr bt ow bl wr wa ki → (∀ q : Int, (p : Int) ≤ q → q < 24 → bl (24 * f + q) = bl0 (24 * f + q)) → (∀ j : Int, s + cn (fun q => 0 ≤ bl0 (24 * f + q)) p ≤ j → j < s + n → ow j < 0) →
    ∃ vow' vbt' vpl' bt' ow' bl', m_Disk_settleDown_45 fD f s (s + cn (fun q => 0 ≤ bl0 (24 * f + q)) p) p vow vbt vpl rm rs rz = some (s, vow', vbt', vpl', rm, rs, rz) ∧ m_Mod_settles_18 fM f (s + cn (fun q => 0 ≤ bl0 (24 * f + q)) p) s (24 * f + p) bt ow bl = some (s, bt', ow', bl') ∧ Inv bt' ow' bl' wr wa ki ∧ Dsk vow' vbt' vki vpl' vva vwr bt' ow' bl' wr wa ki := by
  intro d
  induction d with
  | zero =>
    intro p bt ow bl vow vbt vpl fM fD h1 h2 h3 hI hD h4 h5
    cases fM with
    | zero => omega
    | succ fM =>
      cases fD with
      | zero => omega
      | succ fD =>
        refine ⟨vow, vbt, vpl, bt, ow, bl, ?_, ?_, hI, hD⟩
        · rw [m_Disk_settleDown_45, clt_f (by omega)]
        · rw [m_Mod_settles_18, clt_f (by omega)]
  | succ d ih =>
    intro p bt ow bl vow vbt vpl fM fD h1 h2 h3 hI hD h4 h5
    cases fM with
    | zero => omega
    | succ fM =>
      cases fD with
      | zero => omega
      | succ fD =>
        have hb := (Inv.at hI).2 (24 * f + p) (by omega) (by omega)
        have hq := Rel.pg hD hf (p := p) ⟨by omega, by omega⟩
        have hbl := h4 p (by omega) (by omega)
        have hc := cn_bd (fun q => 0 ≤ bl0 (24 * f + q)) p
        have hcs : cn (fun q => 0 ≤ bl0 (24 * f + q)) (p + 1) = cn (fun q => 0 ≤ bl0 (24 * f + q)) p + (if 0 ≤ bl0 (24 * f + p) then 1 else 0) := rfl
        have hcm := cn_le (fun q => 0 ≤ bl0 (24 * f + q)) (show p + 1 ≤ 24 by omega)
        rw [hcs] at hcm
        by_cases h : 0 ≤ bl (24 * f + p)
        · rw [if_pos (by omega)] at hcs hcm
          have ht : 0 ≤ s + cn (fun q => 0 ≤ bl0 (24 * f + q)) p ∧ s + cn (fun q => 0 ≤ bl0 (24 * f + q)) p < 64 := by omega
          have hw := h5 (s + cn (fun q => 0 ≤ bl0 (24 * f + q)) p) (by omega) (by omega)
          have nI := hI.move (a := 24 * f + p) ⟨by omega, by omega⟩ h ht hw
          have nD := Dsk.move hI hD (a := 24 * f + p) ⟨by omega, by omega⟩ h ht hw
          obtain ⟨vow', vbt', vpl', bt', ow', bl', e1, e2, e3, e4⟩ := ih (p + 1) _ _ _ _ _ _ fM fD (by omega) (by omega) (by omega) nI nD (fun q q0 q1 => by
            rw [uf_n (by omega)]
            exact h4 q (by omega) q1) (fun j q0 q1 => by
            rw [hcs] at q0
            by_cases c : j = bl (24 * f + p)
            · rw [c, uf_s]
              omega
            · rw [uf_n c, uf_n (by omega)]
              exact h5 j (by omega) q1)
          refine ⟨vow', vbt', vpl', bt', ow', bl', ?_, ?_, e3, e4⟩
          · rw [m_Disk_settleDown_45, clt_t (by omega), clt_f (by omega), p_blockAt hf ⟨by omega, by omega⟩, bnd_s, clt_f (by omega), p_move (b := bl (24 * f + p)) hf ⟨by omega, by omega⟩ ht ⟨h, by omega⟩ (by omega), bnd_s]
            rw [hcs, ← Int.add_assoc] at e1
            exact e1
          · rw [m_Mod_settles_18, clt_t (by omega), p_isPlaced (by omega) (by omega), bnd_s, ceq_yn, if_pos h, gd_x (by omega), gd_x (by omega), gd_x ht, gd_x ht, gd_x (by omega), gd_x (by omega), gd_x (by omega)]
            rw [hcs, ← Int.add_assoc, show (24 * f + ((p + 1 : Nat) : Int)) = 24 * f + p + 1 by omega] at e2
            exact e2
        · rw [if_neg (by omega), Int.add_zero] at hcs hcm
          obtain ⟨vow', vbt', vpl', bt', ow', bl', e1, e2, e3, e4⟩ := ih (p + 1) bt ow bl vow vbt vpl fM fD (by omega) (by omega) (by omega) hI hD (fun q q0 q1 => h4 q (by omega) q1) (fun j q0 q1 => h5 j (by omega) q1)
          rw [hcs] at e1 e2
          refine ⟨vow', vbt', vpl', bt', ow', bl', ?_, ?_, e3, e4⟩
          · rw [m_Disk_settleDown_45, clt_t (by omega), clt_f (by omega), p_blockAt hf ⟨by omega, by omega⟩, bnd_s, clt_t (by omega)]
            exact e1
          · rw [m_Mod_settles_18, clt_t (by omega), p_isPlaced (by omega) (by omega), bnd_s, ceq_yn, if_neg h]
            rw [show (24 * f + ((p + 1 : Nat) : Int)) = 24 * f + p + 1 by omega] at e2
            exact e2
/-- settling: both can, or neither -/
theorem settle_both (hI : Inv bt ow bl wr wa ki) (hD : Dsk vow vbt vki vpl vva vwr bt ow bl wr wa ki) {f : Int} (hf : 0 ≤ f ∧ f < 4) (rm : Int) (rs rz : Int → Int) :
    (∃ rm' rs' rz', m_Disk_settleDown f vow vbt vpl rm rs rz = some (-1, vow, vbt, vpl, rm', rs', rz') ∧ m_Mod_canSettle f ow bl = some 0) ∨
    (∃ s vow' vbt' vpl' rm' rs' rz' bt' ow' bl', 0 ≤ s ∧ s < 64 ∧ m_Disk_settleDown f vow vbt vpl rm rs rz = some (s, vow', vbt', vpl', rm', rs', rz') ∧ m_Mod_canSettle f ow bl = some 1 ∧ m_Mod_settles f bt ow bl = some (s, bt', ow', bl') ∧ Inv bt' ow' bl' wr wa ki ∧ Dsk vow' vbt' vki vpl' vva vwr bt' ow' bl' wr wa ki) := by
  have hc := cn_bd (fun q => 0 ≤ bl (24 * f + q)) 24
  unfold m_Disk_settleDown m_Mod_canSettle
  rw [pD_placedIn hI hD hf, bnd_s, pM_placedOf hI hf, bnd_s]
  by_cases h0 : cn (fun q => 0 ≤ bl (24 * f + q)) 24 = 0
  · left
    rw [ceq_t (by omega), cle_t (by omega)]
    exact ⟨rm, rs, rz, rfl, rfl⟩
  · rw [ceq_f (by omega), cle_f (by omega), bnd_s]
    obtain ⟨rm', rs', rz', e, R⟩ := looked hI hD rm rs rz
    obtain ⟨u, v, f1, f2, f3⟩ := p_fitOf (Inv.at hI).1 R (n := cn (fun q => 0 ≤ bl (24 * f + q)) 24) ⟨by omega, by omega⟩
    rw [e, bnd_s, f1, bnd_s]
    dsimp only
    rw [f2, bnd_s]
    rcases f3 with ⟨q1, q2, q3⟩ | ⟨q1, q2, q3, q4⟩
    · left
      rw [q2, p_startAt_no, bnd_s, clt_t (by omega), m_Disk_settleDown_45, clt_t (by omega), clt_t (by omega)]
      exact ⟨rm', rs', rz', rfl, rfl⟩
    · right
      have hv := R.at q1 q2
      obtain ⟨⟨t1, t2, t3, t4, t5, t6⟩, -⟩ := R.2.1 v q1 q2
      rw [p_startAt q1 q2 hv.2.2, bnd_s, clt_f (by omega)]
      obtain ⟨vow', vbt', vpl', bt', ow', bl', e1, e2, e3, e4⟩ := settle_loop (rm := rm') (rs := rs') (rz := rz') hf (s := rs' v) (by omega) rfl (by omega) 24 0 bt ow bl vow vbt vpl 5000 5000 (by omega) (by omega) (by omega) hI hD (fun q _ _ => rfl) (fun j j0 j1 => t4 j (by
        have : rs' v + 0 ≤ j := j0
        omega) (by omega))
      have z : rs' v + cn (fun q => 0 ≤ bl (24 * f + q)) 0 = rs' v := by
        show rs' v + 0 = rs' v
        omega
      rw [z] at e1 e2
      rw [show 24 * f + ((0 : Nat) : Int) = 24 * f by omega] at e2
      refine ⟨rs' v, vow', vbt', vpl', rm', rs', rz', bt', ow', bl', by omega, by omega, e1, rfl, ?_, e3, e4⟩
      unfold m_Mod_settles
      rw [pM_placedOf hI hf, bnd_s, f1, bnd_s, q3]
      exact e2
end SET
theorem e_settle : E_settle := by
  intro ik now nbt nki npl nva nwr kow kbt kki kpl kva kwr smn snu rmn rnu rf mr mb mo ml mw mt mk mp mq mz mh my mn nrm nrs nrz x1 hR hx
  obtain ⟨hI, hD, hk, hk1, h5, h6, h7⟩ := id hR
  unfold m_Vol_settle m_Mod_settle
  rw [p_Vol_isFile hx, bnd_s, p_Mod_isFile hx, bnd_s, ceq_yn, ceq_yn]
  by_cases hf : 0 ≤ x1 ∧ x1 < 4
  · rw [if_pos hf, if_pos hf]
    rcases settle_both hI hD hf nrm nrs nrz with ⟨rm', rs', rz', e1, e2⟩ | ⟨s, vow', vbt', vpl', rm', rs', rz', bt', ow', bl', s0, s1, e1, e2, e3, nI, nD⟩
    · rw [e1, e2, bnd_s, bnd_s]
      dsimp only
      rw [clt_t (by omega), ceq_t (by omega), p_refuse (by omega), p_no (by omega), bnd_s, bnd_s]
      exact ⟨_, _, rfl, rfl, rfl, hR.no (-3) (by omega)⟩
    · rw [e1, e2, bnd_s, bnd_s]
      dsimp only
      rw [clt_f (by omega), ceq_f (by omega), e3, bnd_s]
      exact ⟨_, _, rfl, rfl, rfl, nI, nD, hk, hk1, h5, h6, h7⟩
  · rw [if_neg hf, if_neg hf, p_refuse (by omega), p_no (by omega), bnd_s, bnd_s]
    exact ⟨_, _, rfl, rfl, rfl, hR.no (-1) (by omega)⟩
