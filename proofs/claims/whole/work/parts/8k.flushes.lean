/-! all series of a file; its waiting pages; a flush -/
section ALLS
variable {bt ow bl wr wa ki vow vbt vki vpl vva vwr : Int → Int}
theorem places_both {f K M : Int} (hf : 0 ≤ f ∧ f < 4) (hL : Lim K M) : ∀ (N : Nat) (p made : Int) (ow bl wr vow vpl : Int → Int) (rm : Int) (rs rz : Int → Int) (fM fD : Nat), 24 - p ≤ N → 0 ≤ p → p ≤ 24 → 0 ≤ made → made < K → made ≤ p → 24 - p < fM → 24 - p < fD → Inv bt ow bl wr wa ki → Dsk vow vbt vki vpl vva vwr bt ow bl wr wa ki → (∀ q : Int, 0 ≤ q → q < p → ¬ toP bl wa (24 * f + q)) →
    (∃ r ow' bl' wr' vow' vpl' rm' rs' rz', (r = 0 ∨ r = 1) ∧ K ≤ 99 ∧ m_Mod_placesAll_2 fM f p made M ow bl wr wa ki = some (r, K, ow', bl', wr') ∧ m_Disk_flushUpTo_5 fD f K made p vow vbt vki vpl vva vwr rm rs rz = some (K, vow', vbt, vpl', vva, vwr, rm', rs', rz') ∧ Inv bt ow' bl' wr' wa ki ∧ Dsk vow' vbt vki vpl' vva vwr bt ow' bl' wr' wa ki ∧ (∀ a : Int, 0 ≤ a → a < 96 → rd bt bl' wr' wa a = rd bt bl wr wa a)) ∨
    (∃ made' ow' bl' wr' vow' vpl' rm' rs' rz', made' < K ∧ made' ≤ 24 ∧ 0 ≤ made' ∧ m_Mod_placesAll_2 fM f p made M ow bl wr wa ki = some (1, made', ow', bl', wr') ∧ m_Disk_flushUpTo_5 fD f K made p vow vbt vki vpl vva vwr rm rs rz = m_Disk_flushUpTo_46 5000 f K made' 0 vow' vbt vki vpl' vva vwr rm' rs' rz' ∧ Inv bt ow' bl' wr' wa ki ∧ Dsk vow' vbt vki vpl' vva vwr bt ow' bl' wr' wa ki ∧ (∀ q : Int, 0 ≤ q → q < 24 → ¬ toP bl' wa (24 * f + q)) ∧ (∀ a : Int, 0 ≤ a → a < 96 → rd bt bl' wr' wa a = rd bt bl wr wa a)) := by
  have hKb : 0 ≤ K ∧ K ≤ 1000 := by unfold Lim at hL; omega
  intro N
  induction N with
  | zero =>
    intro p made ow bl wr vow vpl rm rs rz fM fD h1 h2 h3 h4 h5 h6 h7 h8 hI hD h9
    cases fM with
    | zero => omega
    | succ fM =>
      cases fD with
      | zero => omega
      | succ fD =>
        refine Or.inr ⟨made, ow, bl, wr, vow, vpl, rm, rs, rz, h5, by omega, h4, ?_, ?_, hI, hD, fun q q0 q1 => h9 q q0 (by omega), fun a _ _ => rfl⟩
        · rw [m_Mod_placesAll_2, clt_f (by omega)]
        · rw [m_Disk_flushUpTo_5, clt_f (by omega)]
  | succ N ih =>
    intro p made ow bl wr vow vpl rm rs rz fM fD h1 h2 h3 h4 h5 h6 h7 h8 hI hD h9
    cases fM with
    | zero => omega
    | succ fM =>
      cases fD with
      | zero => omega
      | succ fD =>
        by_cases hp : p = 24
        · refine Or.inr ⟨made, ow, bl, wr, vow, vpl, rm, rs, rz, h5, by omega, h4, ?_, ?_, hI, hD, fun q q0 q1 => h9 q q0 (by omega), fun a _ _ => rfl⟩
          · rw [m_Mod_placesAll_2, clt_f (by omega)]
          · rw [m_Disk_flushUpTo_5, clt_f (by omega)]
        · by_cases ht : toP bl wa (24 * f + p)
          · obtain ⟨z, y1, y2, y3⟩ := p_series hI hD hf (p := p) ⟨h2, h3⟩
            obtain ⟨z0, z1, z2, z3⟩ := id y3
            have zp : 1 ≤ z := by
              by_cases c : z = 0
              · subst c
                rcases z3 with z3 | z3
                · omega
                · rw [Int.add_zero] at z3
                  exact absurd ht z3
              · omega
            have hmod : ∀ X : Nat, m_Mod_placesAll_2 (X + 1) f p made M ow bl wr wa ki = bnd (m_Mod_puts_5 5000 (24 * f + p) z (24 * f + p) made M ow bl wr ki) (fun r3 => ceq r3.1 0 (some (0, r3.2.1, r3.2.2.1, r3.2.2.2.1, r3.2.2.2.2)) (m_Mod_placesAll_2 X f (p + 1) r3.2.1 M r3.2.2.1 r3.2.2.2.1 r3.2.2.2.2 wa ki)) := by
              intro X
              rw [m_Mod_placesAll_2, clt_t (by omega), y1, bnd_s, cle_f (by omega)]
              rfl
            rcases puts_both hf hL (a0 := 24 * f + p) ⟨by omega, by omega⟩ z.toNat z p made ow bl wr vow vpl rm rs rz 5000 (fD - z.toNat) (by omega) zp h2 z1 h4 (by omega) h6 (by omega) hI hD z2 z3 with ⟨r, ow2, bl2, wr2, vow2, vpl2, rm2, rs2, rz2, hr, hK99, x1, x2, x3, x4, x5⟩ | ⟨made2, ow2, bl2, wr2, vow2, vpl2, rm2, rs2, rz2, w0, w1, w2, x1, x2, x3, x4, x5, x6, x7⟩
            · rw [show fD - z.toNat + z.toNat + 1 = fD + 1 by omega] at x2
              rcases hr with hr | hr
              · subst hr
                refine Or.inl ⟨0, ow2, bl2, wr2, vow2, vpl2, rm2, rs2, rz2, Or.inl rfl, hK99, ?_, x2, x3, x4, x5⟩
                rw [hmod, x1, bnd_s]
                exact ceq_t (by omega)
              · subst hr
                obtain ⟨r, hr, e⟩ := ref_stuck x3 x4 hf hL hK99 (24 - (p + 1)).toNat (p + 1) fM (by omega) (by omega) (by omega)
                refine Or.inl ⟨r, ow2, bl2, wr2, vow2, vpl2, rm2, rs2, rz2, hr, hK99, ?_, x2, x3, x4, x5⟩
                rw [hmod, x1, bnd_s]
                exact (ceq_f (by omega)).trans e
            · rw [show fD - z.toNat + z.toNat + 1 = fD + 1 by omega] at x2
              have hno : ∀ j : Int, 0 ≤ j → j < z → ¬ toP bl2 wa (24 * f + p + j) := by
                rintro j q0 q1 ⟨t1, -⟩
                have := x5 j q0 q1
                omega
              have hno2 : ∀ q : Int, 0 ≤ q → q < p + z → ¬ toP bl2 wa (24 * f + q) := by
                intro q q0 q1
                by_cases c : q < p
                · have := h9 q q0 c
                  unfold toP at this ⊢
                  rw [x6 _ (Or.inl (by omega))]
                  exact this
                · have := hno (q - p) (by omega) (by omega)
                  rw [show 24 * f + p + (q - p) = 24 * f + q by omega] at this
                  exact this
              have hm2 : m_Mod_placesAll_2 (fM + 1) f p made M ow bl wr wa ki = m_Mod_placesAll_2 (fM - (z - 1).toNat) f (p + z) made2 M ow2 bl2 wr2 wa ki := by
                rw [hmod, x1, bnd_s]
                refine (ceq_f (by omega)).trans ?_
                have e := ref_skips (made := made2) (M := M) x3 x4 hf (z - 1).toNat (p + 1) (fM - (z - 1).toNat) (by omega) (by omega) (fun j q0 q1 => by
                  have := hno (j + 1) (by omega) (by omega)
                  rw [show 24 * f + p + (j + 1) = 24 * f + (p + 1) + j by omega] at this
                  exact this)
                rw [show fM - (z - 1).toNat + (z - 1).toNat = fM by omega, show p + 1 + ((z - 1).toNat : Int) = p + z by omega] at e
                exact e
              rw [hm2, x2]
              rcases ih (p + z) made2 ow2 bl2 wr2 vow2 vpl2 rm2 rs2 rz2 (fM - (z - 1).toNat) (fD - z.toNat + 1) (by omega) (by omega) z1 (by omega) w0 w1 (by omega) (by omega) x3 x4 hno2 with ⟨r, ow3, bl3, wr3, vow3, vpl3, rm3, rs3, rz3, hr, hK99, t1, t2, t3, t4, t5⟩ | ⟨made3, ow3, bl3, wr3, vow3, vpl3, rm3, rs3, rz3, v0, v1, v2, t1, t2, t3, t4, t5, t6⟩
              · exact Or.inl ⟨r, ow3, bl3, wr3, vow3, vpl3, rm3, rs3, rz3, hr, hK99, t1, t2, t3, t4, fun a q0 q1 => (t5 a q0 q1).trans (x7 a q0 q1)⟩
              · exact Or.inr ⟨made3, ow3, bl3, wr3, vow3, vpl3, rm3, rs3, rz3, v0, v1, v2, t1, t2, t3, t4, t5, fun a q0 q1 => (t6 a q0 q1).trans (x7 a q0 q1)⟩
          · rw [ref_skip hI hD hf ⟨h2, by omega⟩ ht, class_skip hI hD hf ⟨h2, by omega⟩ ⟨h4, h5, hKb.2⟩ ht]
            exact ih (p + 1) made ow bl wr vow vpl rm rs rz fM fD (by omega) (by omega) (by omega) h4 h5 (by omega) (by omega) (by omega) hI hD (fun q q0 q1 => by
              by_cases c : q = p
              · rw [c]
                exact ht
              · exact h9 q q0 (by omega))
theorem Inv.byte (hI : Inv bt ow bl wr wa ki) {b v : Int} (hv : 0 ≤ v ∧ v ≤ 99) : Inv (uf bt b v) ow bl wr wa ki := by
  obtain ⟨i1, i2, i3, i4, i5, i6, i7, i8⟩ := hI
  refine ⟨i1, i2, i3, i4, fun c h0 h1 => ?_, i6, i7, i8⟩
  by_cases h : c = b
  · rw [h, uf_s]
    exact hv
  · rw [uf_n h]
    exact i5 c h0 h1
theorem Dsk.byte (hD : Dsk vow vbt vki vpl vva vwr bt ow bl wr wa ki) {b v : Int} : Dsk vow (uf vbt b v) vki vpl vva vwr (uf bt b v) ow bl wr wa ki := by
  obtain ⟨d1, d2, d3, d4, d5, d6⟩ := hD
  refine ⟨d1, fun c h0 h1 => ?_, d3, d4, d5, d6⟩
  by_cases h : c = b
  · rw [h, uf_s, uf_s]
  · rw [uf_n h, uf_n h]
    exact d2 c h0 h1
theorem Inv.done (hI : Inv bt ow bl wr wa ki) {a : Int} (ha : 0 ≤ a ∧ a < 96) (hb : 0 ≤ bl a) : Inv bt ow bl (uf wr a 1) (uf wa a (-9)) ki := by
  have hJ := hI.drop ha
  obtain ⟨i1, i2, i3, i4, i5, i6, i7, i8⟩ := hJ
  refine ⟨i1, i2, fun c h0 h1 => ?_, i4, i5, i6, i7, i8⟩
  by_cases h : c = a
  · rw [h, uf_s]
    exact Or.inr ⟨rfl, hb⟩
  · rw [uf_n h]
    exact i3 c h0 h1
theorem Dsk.done (hD : Dsk vow vbt vki vpl vva vwr bt ow bl wr wa ki) {a : Int} : Dsk vow vbt vki vpl (uf vva a (-1)) (uf vwr a 1) bt ow bl (uf wr a 1) (uf wa a (-9)) ki := by
  obtain ⟨d1, d2, d3, d4, d5, d6⟩ := hD
  refine ⟨d1, d2, d3, d4, fun c h0 h1 => ?_, fun c h0 h1 => ?_⟩
  · by_cases h : c = a
    · rw [h, uf_s, uf_s]
      exact Or.inl ⟨rfl, rfl⟩
    · rw [uf_n h, uf_n h]
      exact d5 c h0 h1
  · by_cases h : c = a
    · rw [h, uf_s, uf_s]
    · rw [uf_n h, uf_n h]
      exact d6 c h0 h1
theorem rd_byte (hI : Inv bt ow bl wr wa ki) {a v : Int} (ha : 0 ≤ a ∧ a < 96) (hw : 0 ≤ wa a) (hb : 0 ≤ bl a) {c : Int} (h0 : 0 ≤ c) (h1 : c < 96) : rd (uf bt (bl a) v) bl wr wa c = rd bt bl wr wa c := by
  unfold rd
  by_cases h2 : 0 ≤ wa c
  · rw [if_pos h2, if_pos h2]
  · rw [if_neg h2, if_neg h2]
    by_cases h3 : 0 ≤ bl c ∧ wr c = 1
    · rw [if_pos h3, if_pos h3, uf_n]
      intro q
      have i2 := hI.2.1
      have e1 : ow (bl c) = c := by rcases i2 c h0 h1 with t | t <;> omega
      have e2 : ow (bl a) = a := by rcases i2 a ha.1 ha.2 with t | t <;> omega
      rw [q, e2] at e1
      rw [e1] at hw
      exact h2 hw
    · rw [if_neg h3, if_neg h3]
theorem rd_done {a : Int} (hw : 0 ≤ wa a) (hb : 0 ≤ bl a) (he : bt (bl a) = wa a) {c : Int} : rd bt bl (uf wr a 1) (uf wa a (-9)) c = rd bt bl wr wa c := by
  unfold rd
  by_cases h : c = a
  · subst h
    rw [uf_s, uf_s, if_neg (by omega), if_pos ⟨hb, rfl⟩, if_pos hw, he]
  · rw [uf_n h, uf_n h]
theorem p_writeDown {f p L b v : Int} {b' q w t : Int → Int} (hf : 0 ≤ f ∧ f < 4) (hp : 0 ≤ p ∧ p < 24) (hL : -1000 ≤ L ∧ L ≤ 1000) (h1 : q (24 * f + p) = b) (hb : 0 ≤ b ∧ b < 64) (h2 : w (24 * f + p) = v) : m_Disk_writeDown f p L b' q w t = if L < 2 then some (1, uf b' b v, w, t) else some (2, uf b' b v, uf w (24 * f + p) (-1), uf t (24 * f + p) 1) := by
  unfold m_Disk_writeDown
  simp only [jn_s]
  rw [p_blockAt hf hp, bnd_s, h1, p_Vol_isBlock (by omega), bnd_s, if_pos hb, ceq_f (by omega), p_valueAt hf hp, bnd_s, h2, gd_x hb]
  by_cases h : L < 2
  · rw [clt_t (by omega), if_pos h]
  · rw [clt_f (by omega), if_neg h, p_Vol_isFile (by omega), bnd_s, if_pos hf, ceq_f (by omega), p_Vol_isPage (by omega), bnd_s, if_pos hp, ceq_f (by omega), gd_xb (by omega), gd_x (by omega), Int.mul_comm f 24]
theorem writes_stuck (hI : Inv bt ow bl wr wa ki) {f K M : Int} (hf : 0 ≤ f ∧ f < 4) (hL : Lim K M) (hK : K ≤ 99) : ∀ (d : Nat) (p : Int) (fuel : Nat), 0 ≤ p → p + d = 24 → d < fuel → m_Mod_writesAll_5 fuel f (24 * f + p) K M bt bl wr wa = some (K, bt, wr, wa) := by
  intro d
  induction d with
  | zero =>
    intro p fuel h0 h1 h2
    cases fuel with
    | zero => omega
    | succ fuel => rw [m_Mod_writesAll_5, clt_f (by omega)]
  | succ d ih =>
    intro p fuel h0 h1 h2
    cases fuel with
    | zero => omega
    | succ fuel =>
      have hb := (Inv.at hI).2 (24 * f + p) (by omega) (by omega)
      rw [m_Mod_writesAll_5, clt_t (by omega), p_isWaiting (by omega) (by omega), bnd_s, ceq_yn]
      by_cases h : 0 ≤ wa (24 * f + p)
      · rw [if_pos h, steps_no hL (by omega), bnd_s]
        exact ceq_t (by omega)
      · rw [if_neg h, Int.add_assoc (24 * f) p 1]
        exact ih (p + 1) fuel (by omega) (by omega) (by omega)
theorem writes_both {f K M rm : Int} {rs rz : Int → Int} (hf : 0 ≤ f ∧ f < 4) (hL : Lim K M) : ∀ (d : Nat) (p made : Int) (bt wr wa vbt vva vwr : Int → Int) (fM fD : Nat), p + d = 24 → 0 ≤ p → d < fM → d < fD → 0 ≤ made → made ≤ K → made ≤ 24 + 2 * p → Inv bt ow bl wr wa ki → Dsk vow vbt vki vpl vva vwr bt ow bl wr wa ki → (∀ q : Int, 0 ≤ q → q < 24 → ¬ toP bl wa (24 * f + q)) →
    ∃ st bt' wr' wa' vbt' vva' vwr', m_Disk_flushUpTo_46 fD f K made p vow vbt vki vpl vva vwr rm rs rz = some (st, vow, vbt', vpl, vva', vwr', rm, rs, rz) ∧ m_Mod_writesAll_5 fM f (24 * f + p) made M bt bl wr wa = some (st, bt', wr', wa') ∧ Inv bt' ow bl wr' wa' ki ∧ Dsk vow vbt' vki vpl vva' vwr' bt' ow bl wr' wa' ki ∧ made ≤ st ∧ st ≤ K ∧ st ≤ 99 ∧ (∀ a : Int, 0 ≤ a → a < 96 → rd bt' bl wr' wa' a = rd bt bl wr wa a) ∧ (∀ a : Int, (a < 24 * f + p ∨ 24 * f + 24 ≤ a) → wa' a = wa a) ∧ (st < K → ∀ q : Int, p ≤ q → q < 24 → wa' (24 * f + q) < 0) := by
  have hKb : 0 ≤ K ∧ K ≤ 1000 := by unfold Lim at hL; omega
  intro d
  induction d with
  | zero =>
    intro p made bt wr wa vbt vva vwr fM fD h1 h2 h3 h4 h5 h6 h7 hI hD h8
    cases fM with
    | zero => omega
    | succ fM =>
      cases fD with
      | zero => omega
      | succ fD =>
        refine ⟨made, bt, wr, wa, vbt, vva, vwr, ?_, ?_, hI, hD, by omega, by omega, by omega, fun a _ _ => rfl, fun a _ => rfl, fun _ q q0 q1 => by omega⟩
        · rw [m_Disk_flushUpTo_46, clt_f (by omega)]
        · rw [m_Mod_writesAll_5, clt_f (by omega)]
  | succ d ih =>
    intro p made bt wr wa vbt vva vwr fM fD h1 h2 h3 h4 h5 h6 h7 hI hD h8
    cases fM with
    | zero => omega
    | succ fM =>
      cases fD with
      | zero => omega
      | succ fD =>
        by_cases hmk : made = K
        · subst hmk
          have hK9 : made ≤ 99 := by unfold Lim at hL; omega
          refine ⟨made, bt, wr, wa, vbt, vva, vwr, ?_, writes_stuck hI hf hL hK9 (d + 1) p (fM + 1) h2 h1 h3, hI, hD, by omega, by omega, by omega, fun a _ _ => rfl, fun a _ => rfl, fun q => by omega⟩
          rw [m_Disk_flushUpTo_46, clt_t (by omega), clt_f (by omega)]
        · have hb := (Inv.at hI).2 (24 * f + p) (by omega) (by omega)
          have hq := Rel.pg hD hf (p := p) ⟨h2, by omega⟩
          have hnt := h8 p h2 (by omega)
          by_cases h : 0 ≤ wa (24 * f + p)
          · have hpl : 0 ≤ bl (24 * f + p) := by
              unfold toP at hnt
              omega
            have e4 := hI.2.2.2.1 (24 * f + p) (by omega) (by omega)
            have nI := hI.byte (b := bl (24 * f + p)) (v := wa (24 * f + p)) (by omega)
            have nD := hD.byte (b := bl (24 * f + p)) (v := wa (24 * f + p))
            have nr : ∀ c : Int, 0 ≤ c → c < 96 → rd (uf bt (bl (24 * f + p)) (wa (24 * f + p))) bl wr wa c = rd bt bl wr wa c := fun c q0 q1 => rd_byte hI (a := 24 * f + p) ⟨by omega, by omega⟩ h hpl q0 q1
            have hwd := p_writeDown (L := K - made) (b := bl (24 * f + p)) (v := wa (24 * f + p)) (b' := vbt) (q := vpl) (w := vva) (t := vwr) hf (p := p) ⟨h2, by omega⟩ (by omega) (by omega) (by omega) (by omega)
            by_cases hone : K - made < 2
            · have hK9 : K ≤ 99 := by unfold Lim at hL; omega
              rw [if_pos hone] at hwd
              refine ⟨K, uf bt (bl (24 * f + p)) (wa (24 * f + p)), wr, wa, uf vbt (bl (24 * f + p)) (wa (24 * f + p)), vva, vwr, ?_, ?_, nI, nD, by omega, by omega, hK9, nr, fun a _ => rfl, fun q => by omega⟩
              · rw [m_Disk_flushUpTo_46, clt_t (by omega), clt_t (by omega), p_valueAt hf ⟨h2, by omega⟩, bnd_s, clt_f (by omega), hwd, bnd_s]
                dsimp only
                rw [show made + 1 = K by omega]
                cases fD with
                | zero => omega
                | succ fD =>
                  rw [m_Disk_flushUpTo_46]
                  by_cases c : p + 1 < 24
                  · rw [clt_t (by omega), clt_f (by omega)]
                  · rw [clt_f (by omega)]
              · rw [m_Mod_writesAll_5, clt_t (by omega), p_isWaiting (by omega) (by omega), bnd_s, ceq_yn, if_pos h, steps_go hL h5 (by omega) (by omega), bnd_s]
                dsimp only
                rw [ceq_f (by omega), gd_x (by omega), gd_x (by omega), gd_x (by omega), show made + 1 = K by omega, steps_no hL (by omega), bnd_s]
                exact ceq_t (by omega)
            · rw [if_neg hone] at hwd
              have mI := nI.done (a := 24 * f + p) ⟨by omega, by omega⟩ hpl
              have mD := nD.done (a := 24 * f + p)
              have mr : ∀ c : Int, rd (uf bt (bl (24 * f + p)) (wa (24 * f + p))) bl (uf wr (24 * f + p) 1) (uf wa (24 * f + p) (-9)) c = rd (uf bt (bl (24 * f + p)) (wa (24 * f + p))) bl wr wa c := fun c => rd_done h hpl uf_s
              obtain ⟨st, bt', wr', wa', vbt', vva', vwr', x1, x2, x3, x4, x5, x6, x7, x8, x9, x10⟩ := ih (p + 1) (made + 2) _ _ _ _ _ _ fM fD (by omega) (by omega) (by omega) (by omega) (by omega) (by omega) (by omega) mI mD (fun q q0 q1 => by
                have := h8 q q0 q1
                unfold toP at this ⊢
                by_cases c : 24 * f + q = 24 * f + p
                · rw [c]
                  omega
                · rw [uf_n c]
                  exact this)
              refine ⟨st, bt', wr', wa', vbt', vva', vwr', ?_, ?_, x3, x4, by omega, x6, x7, fun a q0 q1 => ((x8 a q0 q1).trans (mr a)).trans (nr a q0 q1), fun a q => ?_, fun q r r0 r1 => ?_⟩
              · rw [m_Disk_flushUpTo_46, clt_t (by omega), clt_t (by omega), p_valueAt hf ⟨h2, by omega⟩, bnd_s, clt_f (by omega), hwd, bnd_s]
                exact x1
              · rw [m_Mod_writesAll_5, clt_t (by omega), p_isWaiting (by omega) (by omega), bnd_s, ceq_yn, if_pos h, steps_go hL h5 (by omega) (by omega), bnd_s]
                dsimp only
                rw [ceq_f (by omega), gd_x (by omega), gd_x (by omega), gd_x (by omega), steps_go hL (by omega) (by omega) (by omega), bnd_s]
                dsimp only
                rw [ceq_f (by omega), gd_x (by omega), gd_x (by omega), Int.add_assoc (24 * f) p 1, show made + 1 + 1 = made + 2 by omega]
                exact x2
              · rw [x9 a (by omega), uf_n (by omega)]
              · by_cases c : r = p
                · rw [c, x9 _ (Or.inl (by omega)), uf_s]
                  omega
                · exact x10 q r (by omega) r1
          · obtain ⟨st, bt', wr', wa', vbt', vva', vwr', x1, x2, x3, x4, x5, x6, x7, x8, x9, x10⟩ := ih (p + 1) made bt wr wa vbt vva vwr fM fD (by omega) (by omega) (by omega) (by omega) (by omega) (by omega) (by omega) hI hD h8
            refine ⟨st, bt', wr', wa', vbt', vva', vwr', ?_, ?_, x3, x4, x5, x6, x7, x8, fun a q => x9 a (by omega), fun q r r0 r1 => ?_⟩
            · rw [m_Disk_flushUpTo_46, clt_t (by omega), clt_t (by omega), p_valueAt hf ⟨h2, by omega⟩, bnd_s, clt_t (by omega)]
              exact x1
            · rw [m_Mod_writesAll_5, clt_t (by omega), p_isWaiting (by omega) (by omega), bnd_s, ceq_yn, if_neg h, Int.add_assoc (24 * f) p 1]
              exact x2
            · by_cases c : r = p
              · rw [c, x9 _ (Or.inl (by omega))]
                omega
              · exact x10 q r (by omega) r1
/-- a flush, up to some step -/
theorem flush_both (hI : Inv bt ow bl wr wa ki) (hD : Dsk vow vbt vki vpl vva vwr bt ow bl wr wa ki) {f K M : Int} (hf : 0 ≤ f ∧ f < 4) (hL : Lim K M) (rm : Int) (rs rz : Int → Int) (sm sM : Int) :
    ∃ st vow' vbt' vpl' vva' vwr' rm' rs' rz' bt' ow' bl' wr' wa', m_Disk_flushUpTo f K vow vbt vki vpl vva vwr rm rs rz = some (st, vow', vbt', vpl', vva', vwr', rm', rs', rz') ∧ m_Mod_flushes f M sm sM bt ow bl wr wa ki = some (st, st, M, bt', ow', bl', wr', wa') ∧ Inv bt' ow' bl' wr' wa' ki ∧ Dsk vow' vbt' vki vpl' vva' vwr' bt' ow' bl' wr' wa' ki ∧ 0 ≤ st ∧ st ≤ K ∧ st ≤ 99 ∧ (∀ a : Int, 0 ≤ a → a < 96 → rd bt' bl' wr' wa' a = rd bt bl wr wa a) ∧ (st < K → ∀ q : Int, 0 ≤ q → q < 24 → wa' (24 * f + q) < 0) := by
  have hKb : 0 ≤ K ∧ K ≤ 1000 := by unfold Lim at hL; omega
  have e0 : (24 * f + 0 : Int) = 24 * f := by omega
  by_cases hK0 : K = 0
  · subst hK0
    obtain ⟨r, hr, e⟩ := ref_stuck hI hD hf hL (by omega) 24 0 5000 (by omega) (by omega) (by omega)
    refine ⟨0, vow, vbt, vpl, vva, vwr, rm, rs, rz, bt, ow, bl, wr, wa, class_end hKb (by omega), ?_, hI, hD, by omega, by omega, by omega, fun a _ _ => rfl, fun q => by omega⟩
    unfold m_Mod_flushes m_Mod_placesAll
    rw [e, bnd_s]
    rcases hr with hr | hr
    · subst hr
      exact ceq_t (by omega)
    · subst hr
      refine (ceq_f (by omega)).trans ?_
      have ew := writes_stuck hI hf hL (by omega) 24 0 5000 (by omega) (by omega) (by omega)
      rw [e0] at ew
      unfold m_Mod_writesAll
      rw [ew, bnd_s]
  · rcases places_both hf hL 24 0 0 ow bl wr vow vpl rm rs rz 5000 5000 (by omega) (by omega) (by omega) (by omega) (by omega) (by omega) (by omega) (by omega) hI hD (fun q q0 q1 => by omega) with ⟨r, ow2, bl2, wr2, vow2, vpl2, rm2, rs2, rz2, hr, hK99, x1, x2, x3, x4, x5⟩ | ⟨made, ow2, bl2, wr2, vow2, vpl2, rm2, rs2, rz2, w0, w1, w2, x1, x2, x3, x4, x5, x6⟩
    · refine ⟨K, vow2, vbt, vpl2, vva, vwr, rm2, rs2, rz2, bt, ow2, bl2, wr2, wa, x2, ?_, x3, x4, by omega, by omega, hK99, x5, fun q => by omega⟩
      unfold m_Mod_flushes m_Mod_placesAll
      rw [x1, bnd_s]
      rcases hr with hr | hr
      · subst hr
        exact ceq_t (by omega)
      · subst hr
        refine (ceq_f (by omega)).trans ?_
        have ew := writes_stuck x3 hf hL hK99 24 0 5000 (by omega) (by omega) (by omega)
        rw [e0] at ew
        unfold m_Mod_writesAll
        rw [ew, bnd_s]
    · obtain ⟨st, bt', wr', wa', vbt', vva', vwr', y1, y2, y3, y4, y5, y6, y7, y8, y9, y10⟩ := writes_both (rm := rm2) (rs := rs2) (rz := rz2) hf hL 24 0 made bt wr2 wa vbt vva vwr 5000 5000 (by omega) (by omega) (by omega) (by omega) (by omega) (by omega) (by omega) x3 x4 x5
      rw [e0] at y2
      refine ⟨st, vow2, vbt', vpl2, vva', vwr', rm2, rs2, rz2, bt', ow2, bl2, wr', wa', x2.trans y1, ?_, y3, y4, by omega, y6, y7, fun a q0 q1 => (y8 a q0 q1).trans (x6 a q0 q1), y10⟩
      unfold m_Mod_flushes m_Mod_placesAll
      rw [x1, bnd_s]
      refine (ceq_f (by omega)).trans ?_
      unfold m_Mod_writesAll
      rw [y2, bnd_s]
end ALLS
