/-! e_punch -/
theorem cn_at {P Q : Int → Prop} [DecidablePred P] [DecidablePred Q] (k : Int) (n : Nat) (hk : 0 ≤ k ∧ k < n) (h : ∀ j : Int, 0 ≤ j → j < n → j ≠ k → (P j ↔ Q j)) : cn Q n = cn P n + ((if Q k then 1 else 0) - (if P k then 1 else 0)) := by
  rw [cn_one k hk.1 n h, if_pos hk.2]
theorem cn_out {P Q : Int → Prop} [DecidablePred P] [DecidablePred Q] (k : Int) (n : Nat) (hk : 0 ≤ k ∧ k < n) (h : ∀ j : Int, 0 ≤ j → j < n → j ≠ k → (P j ↔ Q j)) (hP : P k) (hQ : ¬ Q k) : cn Q n = cn P n - 1 := by
  rw [cn_at k n hk h, if_pos hP, if_neg hQ]
  omega
theorem cn_in {P Q : Int → Prop} [DecidablePred P] [DecidablePred Q] (k : Int) (n : Nat) (hk : 0 ≤ k ∧ k < n) (h : ∀ j : Int, 0 ≤ j → j < n → j ≠ k → (P j ↔ Q j)) (hP : ¬ P k) (hQ : Q k) : cn Q n = cn P n + 1 := by
  rw [cn_at k n hk h, if_neg hP, if_pos hQ]
  omega
theorem cn_no {P Q : Int → Prop} [DecidablePred P] [DecidablePred Q] (k : Int) (n : Nat) (hk : 0 ≤ k ∧ k < n) (h : ∀ j : Int, 0 ≤ j → j < n → j ≠ k → (P j ↔ Q j)) (hP : ¬ P k) (hQ : ¬ Q k) : cn Q n = cn P n := by
  rw [cn_at k n hk h, if_neg hP, if_neg hQ]
  omega
section PUN
variable {vow vbt vki vpl vva vwr bt ow bl wr wa ki : Int → Int}
theorem Inv.drop (hI : Inv bt ow bl wr wa ki) {a : Int} (ha : 0 ≤ a ∧ a < 96) : Inv bt ow bl wr (uf wa a (-9)) ki := by
  obtain ⟨i1, i2, i3, i4, i5, i6, i7, i8⟩ := hI
  refine ⟨i1, i2, i3, fun b h0 h1 => ?_, i5, i6, ?_, i8⟩
  · by_cases hb : b = a
    · subst hb
      rw [uf_s]
      exact Or.inl rfl
    · rw [uf_n hb]
      exact i4 b h0 h1
  · have hQ : ¬ (bl a < 0 ∧ 0 ≤ uf wa a (-9) a) := by
      rw [uf_s]
      omega
    by_cases h : bl a < 0 ∧ 0 ≤ wa a
    · rw [cn_out (P := fun a => bl a < 0 ∧ 0 ≤ wa a) (Q := fun b => bl b < 0 ∧ 0 ≤ uf wa a (-9) b) a 96 ha (fun j h0 h1 h2 => by rw [uf_n h2]) h hQ]
      omega
    · rw [cn_no (P := fun a => bl a < 0 ∧ 0 ≤ wa a) (Q := fun b => bl b < 0 ∧ 0 ≤ uf wa a (-9) b) a 96 ha (fun j h0 h1 h2 => by rw [uf_n h2]) h hQ]
      omega
theorem Inv.free (hI : Inv bt ow bl wr wa ki) {a : Int} (ha : 0 ≤ a ∧ a < 96) (hb : 0 ≤ bl a) : Inv bt (uf ow (bl a) (-9)) (uf bl a (-9)) (uf wr a 0) (uf wa a (-9)) ki := by
  obtain ⟨i1, i2, i3, i4, i5, i6, i7, i8⟩ := hI
  have ia := i2 a ha.1 ha.2
  refine ⟨fun b h0 h1 => ?_, fun b h0 h1 => ?_, fun b h0 h1 => ?_, fun b h0 h1 => ?_, i5, i6, ?_, ?_⟩
  · by_cases h : b = bl a
    · subst h
      rw [uf_s]
      exact Or.inl rfl
    · rw [uf_n h]
      rcases i1 b h0 h1 with h3 | ⟨h3, h4, h5⟩
      · exact Or.inl h3
      · by_cases h6 : ow b = a
        · rw [h6] at h5
          exact absurd h5.symm h
        · rw [uf_n h6]
          exact Or.inr ⟨h3, h4, h5⟩
  · by_cases h : b = a
    · subst h
      rw [uf_s]
      exact Or.inl rfl
    · rw [uf_n h]
      rcases i2 b h0 h1 with h3 | ⟨h3, h4, h5⟩
      · exact Or.inl h3
      · by_cases h6 : bl b = bl a
        · rw [h6] at h5
          omega
        · rw [uf_n h6]
          exact Or.inr ⟨h3, h4, h5⟩
  · by_cases h : b = a
    · subst h
      rw [uf_s]
      exact Or.inl rfl
    · rw [uf_n h, uf_n h]
      exact i3 b h0 h1
  · by_cases h : b = a
    · subst h
      rw [uf_s]
      exact Or.inl rfl
    · rw [uf_n h]
      exact i4 b h0 h1
  · rw [cn_no (P := fun a => bl a < 0 ∧ 0 ≤ wa a) (Q := fun b => uf bl a (-9) b < 0 ∧ 0 ≤ uf wa a (-9) b) a 96 ha (fun j h0 h1 h2 => by rw [uf_n h2, uf_n h2]) (fun q => by omega) (fun q => by rw [uf_s, uf_s] at q; omega)]
    rw [cn_in (P := fun b => ow b < 0) (Q := fun b => uf ow (bl a) (-9) b < 0) (bl a) 64 ⟨hb, by omega⟩ (fun j h0 h1 h2 => by rw [uf_n h2]) (fun q => by omega) (by rw [uf_s]; omega)]
    omega
  · rw [cn_out (P := fun b => 0 ≤ bl b) (Q := fun b => 0 ≤ uf bl a (-9) b) a 96 ha (fun j h0 h1 h2 => by rw [uf_n h2]) hb (fun q => by rw [uf_s] at q; omega)]
    rw [cn_in (P := fun b => ow b < 0) (Q := fun b => uf ow (bl a) (-9) b < 0) (bl a) 64 ⟨hb, by omega⟩ (fun j h0 h1 h2 => by rw [uf_n h2]) (fun q => by omega) (by rw [uf_s]; omega)]
    omega
theorem Q91.up {N : Int} {f g : Int → Int} (h : Q91 N f g) (k : Int) : Q91 N (uf f k (-1)) (uf g k (-9)) := by
  intro j h0 h1
  by_cases hj : j = k
  · subst hj
    rw [uf_s, uf_s]
    exact Or.inl ⟨rfl, rfl⟩
  · rw [uf_n hj, uf_n hj]
    exact h j h0 h1
theorem QE.up {N : Int} {f g : Int → Int} (h : QE N f g) (k v : Int) : QE N (uf f k v) (uf g k v) := by
  intro j h0 h1
  by_cases hj : j = k
  · subst hj
    rw [uf_s, uf_s]
  · rw [uf_n hj, uf_n hj]
    exact h j h0 h1
theorem uf_same {f : Int → Int} {k v : Int} (h : f k = v) : uf f k v = f := by
  funext j
  by_cases hj : j = k
  · subst hj
    rw [uf_s, h]
  · rw [uf_n hj]
/-- the reference's step -/
theorem punch_one {f p : Int} (hI : Inv bt ow bl wr wa ki) (hD : Dsk vow vbt vki vpl vva vwr bt ow bl wr wa ki) (hf : 0 ≤ f ∧ f < 4) (hp : 0 ≤ p ∧ p < 24) :
    ∃ c vow' vpl' vva' vwr' ow' bl' wr' wa', m_Disk_punchOne f p vow vpl vva vwr = some (c, vow', vpl', vva', vwr') ∧ (∀ (fuel : Nat) (f0 p0 n v e : Int), (24 * f0 + p0) + n = e → -1000 < e ∧ e < 1000 → 24 * f + p < e → m_Mod_punches_11 (fuel + 1) f0 p0 n v (24 * f + p) ow bl wr wa = m_Mod_punches_11 fuel f0 p0 n (v + c) (24 * f + p + 1) ow' bl' wr' wa') ∧ Inv bt ow' bl' wr' wa' ki ∧ Dsk vow' vbt vki vpl' vva' vwr' bt ow' bl' wr' wa' ki ∧ (c = 0 ∨ c = 1) := by
  have e : f * 24 + p = 24 * f + p := by omega
  obtain ⟨⟨p1, p2, p3⟩, hi⟩ : ((-9 ≤ bl (24 * f + p) ∧ bl (24 * f + p) < 64) ∧ (-9 ≤ wa (24 * f + p) ∧ wa (24 * f + p) ≤ 99) ∧ (wr (24 * f + p) = 0 ∨ wr (24 * f + p) = 1)) ∧ True := ⟨(Inv.at hI).2 _ (by omega) (by omega), trivial⟩
  obtain ⟨q1, q2, q3⟩ := Rel.pg hD hf hp
  have hv : m_Disk_punchOne f p vow vpl vva vwr = (if 0 ≤ bl (24 * f + p) then some (1, uf vow (bl (24 * f + p)) (-1), uf vpl (24 * f + p) (-1), uf vva (24 * f + p) (-1), uf vwr (24 * f + p) 0) else some (0, vow, uf vpl (24 * f + p) (-1), uf vva (24 * f + p) (-1), uf vwr (24 * f + p) 0)) := by
    unfold m_Disk_punchOne
    simp only [jn_s]
    rw [p_blockAt hf hp, bnd_s, p_Vol_isFile (by omega), bnd_s, if_pos hf, ceq_f (by omega), p_Vol_isPage (by omega), bnd_s, if_pos hp, ceq_f (by omega), gd_x (by omega), gd_x (by omega), gd_xb (by omega), p_Vol_isBlock (by omega), bnd_s, ceq_yn, e]
    by_cases h : 0 ≤ bl (24 * f + p)
    · have hh : vpl (24 * f + p) = bl (24 * f + p) := by omega
      rw [hh, if_pos (by omega), if_pos h, gd_x (by omega)]
    · rw [if_neg (by omega), if_neg h]
  obtain ⟨d1, d2, d3, d4, d5, d6⟩ := id hD
  by_cases h : 0 ≤ bl (24 * f + p)
  · rw [if_pos h] at hv
    refine ⟨1, _, _, _, _, uf ow (bl (24 * f + p)) (-9), uf bl (24 * f + p) (-9), uf wr (24 * f + p) 0, uf wa (24 * f + p) (-9), hv, fun fuel f0 p0 n v e he1 he2 he3 => ?_, hI.free (by omega) h, ⟨d1.up _, d2, d3, d4.up _, d5.up _, d6.up _ _⟩, Or.inr rfl⟩
    rw [m_Mod_punches_11, he1, clt_t (by omega), gd_x (by omega), p_isPlaced (by omega) (by omega), bnd_s, ceq_yn, if_pos h, gd_x (by omega), gd_x (by omega), gd_x (by omega), gd_x (by omega)]
  · rw [if_neg h] at hv
    have hw0 : wr (24 * f + p) = 0 := by
      have := hI.2.2.1 (24 * f + p) (by omega) (by omega)
      omega
    refine ⟨0, _, _, _, _, ow, bl, wr, uf wa (24 * f + p) (-9), hv, fun fuel f0 p0 n v e he1 he2 he3 => ?_, hI.drop (by omega), ⟨d1, d2, d3, ?_, d5.up _, ?_⟩, Or.inl rfl⟩
    · rw [m_Mod_punches_11, he1, clt_t (by omega), gd_x (by omega), p_isPlaced (by omega) (by omega), bnd_s, ceq_yn, if_neg h, Int.add_zero]
    · have := d4.up (24 * f + p)
      rw [uf_same (f := bl) (by omega)] at this
      exact this
    · have := d6.up (24 * f + p) 0
      rw [uf_same (f := wr) (by omega)] at this
      exact this
end PUN
theorem punch_loop {bt ki vbt vki : Int → Int} {f p n : Int} (hf : 0 ≤ f ∧ f < 4) (hp : 0 ≤ p ∧ p < 24) (hn : 1 ≤ n ∧ p + n ≤ 24) : ∀ (d : Nat) (i v : Int) (f1 f2 : Nat) (vow vpl vva vwr ow bl wr wa : Int → Int), 0 ≤ i → i + d = n → d < f1 → d < f2 → Inv bt ow bl wr wa ki → Dsk vow vbt vki vpl vva vwr bt ow bl wr wa ki →
    ∃ c vow' vpl' vva' vwr' ow' bl' wr' wa', m_Disk_punchOut_6 f1 f p n v i vow vpl vva vwr = some (c, vow', vpl', vva', vwr') ∧ m_Mod_punches_11 f2 f p n v (24 * f + p + i) ow bl wr wa = some (c, ow', bl', wr', wa') ∧ Inv bt ow' bl' wr' wa' ki ∧ Dsk vow' vbt vki vpl' vva' vwr' bt ow' bl' wr' wa' ki := by
  intro d
  induction d with
  | zero =>
    intro i v f1 f2 vow vpl vva vwr ow bl wr wa h0 h1 h2 h3 hI hD
    cases f1 with
    | zero => omega
    | succ f1 =>
      cases f2 with
      | zero => omega
      | succ f2 =>
        refine ⟨v, vow, vpl, vva, vwr, ow, bl, wr, wa, ?_, ?_, hI, hD⟩
        · rw [m_Disk_punchOut_6, clt_f (by omega)]
        · rw [m_Mod_punches_11, clt_f (by omega)]
  | succ d ih =>
    intro i v f1 f2 vow vpl vva vwr ow bl wr wa h0 h1 h2 h3 hI hD
    cases f1 with
    | zero => omega
    | succ f1 =>
      cases f2 with
      | zero => omega
      | succ f2 =>
        obtain ⟨c, vow', vpl', vva', vwr', ow', bl', wr', wa', e1, e2, e3, e4, e5⟩ := punch_one (f := f) (p := p + i) hI hD hf (by omega)
        obtain ⟨c', vow2, vpl2, vva2, vwr2, ow2, bl2, wr2, wa2, g1, g2, g3, g4⟩ := ih (i + 1) (v + c) f1 f2 vow' vpl' vva' vwr' ow' bl' wr' wa' (by omega) (by omega) (by omega) (by omega) e3 e4
        refine ⟨c', vow2, vpl2, vva2, vwr2, ow2, bl2, wr2, wa2, ?_, ?_, g3, g4⟩
        · rw [m_Disk_punchOut_6, clt_t (by omega), e1, bnd_s]
          exact g1
        · have := e2 f2 f p n v (24 * f + p + n) (by omega) (by omega) (by omega)
          rw [show 24 * f + p + i = 24 * f + (p + i) by omega, this, show 24 * f + (p + i) + 1 = 24 * f + p + (i + 1) by omega]
          exact g2
theorem e_punch : E_punch := by
  intro ik now nbt nki npl nva nwr kow kbt kki kpl kva kwr smn snu rmn rnu rf mr mb mo ml mw mt mk mp mq mz mh my mn x1 x2 x3 hR hx hy hz
  obtain ⟨hI, hD, hS⟩ := id hR
  have bad : ∀ k : Int, (k = -1 ∨ k = -2 ∨ k = -3 ∨ k = -4 ∨ k = -6) → m_Vol_punch x1 x2 x3 now npl nva nwr rf = some (k, now, npl, nva, nwr, uf rf (-k) (rf (-k) + 1)) → m_Mod_punch x1 x2 x3 mr mo ml mw mt = some (k, uf mr (-k) (mr (-k) + 1), mo, ml, mw, mt) → ∃ (o : Int × (Int → Int) × (Int → Int) × (Int → Int) × (Int → Int) × (Int → Int)) (u : Int × (Int → Int) × (Int → Int) × (Int → Int) × (Int → Int) × (Int → Int)), m_Vol_punch x1 x2 x3 now npl nva nwr rf = some o ∧ m_Mod_punch x1 x2 x3 mr mo ml mw mt = some u ∧ o.1 = u.1 ∧ Rel ik o.2.1 nbt nki o.2.2.1 o.2.2.2.1 o.2.2.2.2.1 kow kbt kki kpl kva kwr smn snu rmn rnu o.2.2.2.2.2 u.2.1 mb u.2.2.1 u.2.2.2.1 u.2.2.2.2.1 u.2.2.2.2.2 mk mp mq mz mh my mn :=
    fun k hk h1 h2 => ⟨_, _, h1, h2, rfl, hR.no k hk⟩
  by_cases h1 : 0 ≤ x1 ∧ x1 < 4
  · by_cases h2 : 0 ≤ x2 ∧ x2 < 24
    · by_cases h3 : x3 < 1
      · refine bad (-4) (by omega) ?_ ?_
        · unfold m_Vol_punch
          simp only [jn_s]
          rw [p_Vol_isFile (by omega), bnd_s, if_pos h1, ceq_f (by omega), p_Vol_isPage (by omega), bnd_s, if_pos h2, ceq_f (by omega), clt_t (by omega), p_refuse (by omega), bnd_s]
        · unfold m_Mod_punch
          simp only [jn_s]
          rw [p_Mod_isFile (by omega), bnd_s, if_pos h1, ceq_f (by omega), p_Mod_isPage (by omega), bnd_s, if_pos h2, ceq_f (by omega), p_Mod_bound (by omega) (by omega) (by omega), bnd_s, if_pos h3, ceq_f (by omega), p_no (by omega), bnd_s]
      · by_cases h4 : x3 ≤ 24 - x2
        · obtain ⟨c, vow', vpl', vva', vwr', ow', bl', wr', wa', e1, e2, e3, e4⟩ := punch_loop (f := x1) (p := x2) (n := x3) h1 h2 (by omega) x3.toNat 0 0 5000 5000 now npl nva nwr mo ml mw mt (by omega) (by omega) (by omega) (by omega) hI hD
          refine ⟨(c, vow', vpl', vva', vwr', rf), (c, mr, ow', bl', wr', wa'), ?_, ?_, rfl, e3, e4, hS⟩
          · unfold m_Vol_punch m_Disk_punchOut
            simp only [jn_s]
            rw [p_Vol_isFile (by omega), bnd_s, if_pos h1, ceq_f (by omega), p_Vol_isPage (by omega), bnd_s, if_pos h2, ceq_f (by omega), clt_f (by omega), cle_t (by omega), e1, bnd_s]
          · rw [Int.add_zero] at e2
            unfold m_Mod_punch m_Mod_punches
            simp only [jn_s]
            rw [p_Mod_isFile (by omega), bnd_s, if_pos h1, ceq_f (by omega), p_Mod_isPage (by omega), bnd_s, if_pos h2, ceq_f (by omega), p_Mod_bound (by omega) (by omega) (by omega), bnd_s, if_neg h3, if_pos h4, ceq_t (by omega), e2, bnd_s]
        · refine bad (-6) (by omega) ?_ ?_
          · unfold m_Vol_punch
            simp only [jn_s]
            rw [p_Vol_isFile (by omega), bnd_s, if_pos h1, ceq_f (by omega), p_Vol_isPage (by omega), bnd_s, if_pos h2, ceq_f (by omega), clt_f (by omega), cle_f (by omega), p_refuse (by omega), bnd_s]
          · unfold m_Mod_punch
            simp only [jn_s]
            rw [p_Mod_isFile (by omega), bnd_s, if_pos h1, ceq_f (by omega), p_Mod_isPage (by omega), bnd_s, if_pos h2, ceq_f (by omega), p_Mod_bound (by omega) (by omega) (by omega), bnd_s, if_neg h3, if_neg h4, ceq_f (by omega), p_no (by omega), bnd_s]
    · refine bad (-1) (by omega) ?_ ?_
      · unfold m_Vol_punch
        simp only [jn_s]
        rw [p_Vol_isFile (by omega), bnd_s, if_pos h1, ceq_f (by omega), p_Vol_isPage (by omega), bnd_s, if_neg h2, ceq_t (by omega), p_refuse (by omega), bnd_s]
      · unfold m_Mod_punch
        simp only [jn_s]
        rw [p_Mod_isFile (by omega), bnd_s, if_pos h1, ceq_f (by omega), p_Mod_isPage (by omega), bnd_s, if_neg h2, ceq_t (by omega), ceq_f (by omega), p_no (by omega), bnd_s]
  · refine bad (-1) (by omega) ?_ ?_
    · unfold m_Vol_punch
      simp only [jn_s]
      rw [p_Vol_isFile (by omega), bnd_s, if_neg h1, ceq_t (by omega), p_refuse (by omega), bnd_s]
    · unfold m_Mod_punch
      simp only [jn_s]
      rw [p_Mod_isFile (by omega), bnd_s, if_neg h1, ceq_t (by omega), ceq_f (by omega), p_no (by omega), bnd_s]
