/-! e_volume -/
section VOL
variable {m : Int} {T snu : Int → Int}
/-- s statements are read, up to letter b -/
def CH (m : Int) (T : Int → Int) (s b : Int) (sort sortAt told : Int → Int) : Prop := 0 ≤ s ∧ 3 * s ≤ b ∧ (s = 0 → b = 0) ∧ (0 < s → sortAt 0 = 0) ∧ ∀ j : Int, 0 ≤ j → j < s → 0 ≤ sortAt j ∧ sort j = T (sortAt j) ∧ 0 < dgs (T (sortAt j)) ∧ good m T (sortAt j) (sortAt j + sem (T (sortAt j))) ∧ sortAt j + sem (T (sortAt j)) < m ∧ T (sortAt j + sem (T (sortAt j))) = 59 ∧ TV m T (sortAt j) (3 * j) told ∧ (j + 1 < s → sortAt (j + 1) = sortAt j + sem (T (sortAt j)) + 1) ∧ (j + 1 = s → b = sortAt j + sem (T (sortAt j)) + 1)
theorem CH.nx {s b : Int} {sort sortAt told told' : Int → Int} (h : CH m T s b sort sortAt told) (hb : 0 ≤ b) (hd : 0 < dgs (T b)) (hg : good m T b (b + sem (T b))) (hl : b + sem (T b) < m) (h9 : T (b + sem (T b)) = 59) (hT : TV m T b (3 * s) told') (ht : ∀ j : Int, j < 3 * s → told' j = told j) : CH m T (s + 1) (b + sem (T b) + 1) (uf sort s (T b)) (uf sortAt s b) told' := by
  obtain ⟨h1, h2, h3, h4, h5⟩ := h
  have hs : 2 ≤ sem (T b) := by
    have := dgs_h hd
    unfold sem
    split <;> omega
  refine ⟨by omega, by omega, fun q => by omega, fun _ => ?_, fun j q0 q1 => ?_⟩
  · by_cases c : s = 0
    · rw [c, uf_s]
      exact h3 c
    · rw [uf_n (by omega)]
      exact h4 (by omega)
  · by_cases c : j = s
    · subst c
      rw [uf_s, uf_s]
      exact ⟨hb, rfl, hd, hg, hl, h9, hT, fun q => by omega, fun _ => rfl⟩
    · obtain ⟨a1, a2, a3, a4, a5, a6, a7, a8, a9⟩ := h5 j q0 (by omega)
      rw [uf_n c, uf_n c]
      refine ⟨a1, a2, a3, a4, a5, a6, ?_, fun q => ?_, fun q => by omega⟩
      · unfold TV at a7 ⊢
        rw [ht (3 * j) (by omega), ht (3 * j + 1) (by omega), ht (3 * j + 2) (by omega)]
        exact a7
      · by_cases c2 : j + 1 = s
        · rw [c2, uf_s]
          exact a9 c2
        · rw [uf_n c2]
          exact a8 (by omega)
theorem parse_both (hm : 0 ≤ m ∧ m ≤ 96) (hs : ∀ j : Int, 0 ≤ j → j < m → snu j = T j ∧ 0 ≤ T j ∧ T j ≤ 255) {sm sM ik cu : Int} {bt ow bl wr wa ki kept : Int → Int} : ∀ (N : Nat) (b s tl : Int) (sort sortAt told : Int → Int) (fC fM : Nat), m - b ≤ N → b ≤ m → m - b < fC → m - b + 3 < fM → CH m T s b sort sortAt told →
    (∃ q s' tl' so' sa' to', m_Text_faultOfForm_4 fC b b m snu = some (-1000 - q) ∧ 0 ≤ q ∧ m_Mod_volume_12 fM 1 sm sM m b s tl ik cu bt ow bl wr wa ki T sort sortAt told kept = some (-1000 - q, sm, sM, 0, q, s', tl', ik, cu, bt, ow, bl, wr, wa, ki, so', sa', to', kept)) ∨
    (∃ s' tl' so' sa' to', 1 ≤ s' ∧ m_Text_faultOfForm_4 fC b b m snu = some 0 ∧ CH m T s' m so' sa' to' ∧ m_Mod_volume_12 fM 1 sm sM m b s tl ik cu bt ow bl wr wa ki T sort sortAt told kept = bnd (m_Mod_passesAll 1 1 ik cu bt ow bl wr wa ki kept) (fun r => m_Mod_volume_86 5000 0 sm sM 0 m s' tl' r.1 r.2.1 r.2.2.1 r.2.2.2.1 r.2.2.2.2.1 r.2.2.2.2.2.1 r.2.2.2.2.2.2.1 r.2.2.2.2.2.2.2.1 T so' sa' to' r.2.2.2.2.2.2.2.2)) := by
  intro N
  induction N with
  | zero =>
    intro b s tl sort sortAt told fC fM h1 h2 h3 h4 hC
    have hb : b = m := by omega
    subst hb
    obtain ⟨c1, c2, c3, c4, c5⟩ := id hC
    cases fM with
    | zero => omega
    | succ fM =>
      by_cases hs0 : s = 0
      · have hb0 := c3 hs0
        subst hs0
        left
        rcases statement_out (tl := tl) (sort := sort) (sortAt := sortAt) (told := told) hm hs (b := b) (s := 0) ⟨hm.1, Or.inr ⟨hb0, hb0⟩⟩ ⟨by omega, by omega⟩ with ⟨q, t', so', sa', told', e, q0, q1, q2⟩ | ⟨t', told', e, -, -, hl, -⟩
        · refine ⟨q, 0, t', so', sa', told', scan_bad hm hs ⟨hm.1, q0⟩ q1 q2 (Or.inr hb0) (by have := q1.1; omega), by omega, ?_⟩
          rw [m_Mod_volume_12]
          simp only [jn_s]
          rw [ceq_f (x := 1) (y := 0) (by omega), clt_f (by omega), ceq_t (by omega), e, bnd_s]
          dsimp only
          rw [ceq_t (by omega)]
          cases fM with
          | zero => omega
          | succ fM =>
            rw [m_Mod_volume_12]
            simp only [jn_s]
            rw [ceq_t (by omega), ceq_t (by omega), Int.add_zero]
        · have := sem_bd (T b)
          omega
      · right
        refine ⟨s, tl, sort, sortAt, told, by omega, ?_, hC, ?_⟩
        · cases fC with
          | zero => omega
          | succ fC => rw [m_Text_faultOfForm_4, clt_f (by omega), ceq_f (by omega), clt_f (by omega)]
        · rw [m_Mod_volume_12]
          simp only [jn_s]
          rw [ceq_f (x := 1) (y := 0) (by omega), clt_f (by omega), ceq_f (by omega), ceq_f (by omega)]
  | succ N ih =>
    intro b s tl sort sortAt told fC fM h1 h2 h3 h4 hC
    obtain ⟨c1, c2, c3, c4, c5⟩ := id hC
    by_cases hbm : b = m
    · exact ih b s tl sort sortAt told fC fM (by omega) h2 h3 h4 hC
    · cases fM with
      | zero => omega
      | succ fM =>
        rcases statement_out (tl := tl) (sort := sort) (sortAt := sortAt) (told := told) hm hs (b := b) (s := s) ⟨by omega, Or.inl (by omega)⟩ ⟨c1, by omega⟩ with ⟨q, t', so', sa', told', e, q0, q1, q2⟩ | ⟨t', told', e, e1, e2, e3, e4, e5, e6⟩
        · left
          refine ⟨q, s, t', so', sa', told', scan_bad hm hs ⟨by omega, q0⟩ q1 q2 (Or.inl (by omega)) (by have := q1.1; omega), by omega, ?_⟩
          rw [m_Mod_volume_12]
          simp only [jn_s]
          rw [ceq_f (x := 1) (y := 0) (by omega), clt_t (by omega), e, bnd_s]
          dsimp only
          rw [ceq_t (by omega)]
          cases fM with
          | zero => omega
          | succ fM =>
            rw [m_Mod_volume_12]
            simp only [jn_s]
            rw [ceq_t (by omega), ceq_t (by omega), Int.add_zero]
        · have sb := sem_bd (T b)
          have hn := hC.nx (by omega) e1 e2 e3 e4 e5 e6
          have hsc := scan_done hm hs (b := b) (q := b + sem (T b)) ⟨by omega, by omega⟩ e2 e3 (sem_ok e1 e4) e4 (fuel := fC - 1 - (b + sem (T b) - b).toNat)
          rw [show fC - 1 - (b + sem (T b) - b).toNat + 1 + (b + sem (T b) - b).toNat = fC by omega] at hsc
          have hMod : m_Mod_volume_12 (fM + 1) 1 sm sM m b s tl ik cu bt ow bl wr wa ki T sort sortAt told kept = m_Mod_volume_12 fM 1 sm sM m (b + sem (T b) + 1) (s + 1) t' ik cu bt ow bl wr wa ki T (uf sort s (T b)) (uf sortAt s b) told' kept := by
            rw [m_Mod_volume_12]
            simp only [jn_s]
            rw [ceq_f (x := 1) (y := 0) (by omega), clt_t (by omega), e, bnd_s]
            dsimp only
            rw [ceq_f (by omega)]
          rw [hsc, hMod]
          exact ih (b + sem (T b) + 1) (s + 1) t' _ _ _ _ fM (by omega) (by omega) (by omega) (by omega) hn
/-- where statement k begins -/
def bgn (m s : Int) (sortAt : Int → Int) (k : Int) : Int := if k < s then sortAt k else m
theorem play_walk (hm : 0 ≤ m ∧ m ≤ 96) (hs : ∀ j : Int, 0 ≤ j → j < m → snu j = T j ∧ 0 ≤ T j ∧ T j ≤ 255) {b k : Int} {t : TG} (hb : 0 ≤ b) : ∀ (d : Nat) (i : Int) (fuel : Nat), b ≤ i → good m T b (i + d) → m_Text_playOn_7 (fuel + d) b k i m snu t.1 t.2.1 t.2.2.1 t.2.2.2.1 t.2.2.2.2.1 t.2.2.2.2.2.1 t.2.2.2.2.2.2.1 t.2.2.2.2.2.2.2.1 t.2.2.2.2.2.2.2.2 = m_Text_playOn_7 fuel b k (i + d) m snu t.1 t.2.1 t.2.2.1 t.2.2.2.1 t.2.2.2.2.1 t.2.2.2.2.2.1 t.2.2.2.2.2.2.1 t.2.2.2.2.2.2.2.1 t.2.2.2.2.2.2.2.2
  | 0, i, fuel, _, _ => by
    rw [show i + ((0 : Nat) : Int) = i by omega]
    rfl
  | d + 1, i, fuel, h0, h1 => by
    have hi := h1.2 i h0 (by omega)
    have hl := h1.1
    have ht := hs i (by omega) (by omega)
    rw [show fuel + (d + 1) = (fuel + d) + 1 by omega, m_Text_playOn_7, clt_t (by omega), p_num hm hs ⟨by omega, by omega⟩, bnd_s, show Lt m T i = T i from if_pos (by omega), ceq_f (by omega), play_walk hm hs hb d (i + 1) fuel (by omega) (by rw [show i + 1 + (d : Int) = i + ((d + 1 : Nat) : Int) by omega]; exact h1), show i + 1 + (d : Int) = i + ((d + 1 : Nat) : Int) by omega]
theorem play_loop (hm : 0 ≤ m ∧ m ≤ 96) (hs : ∀ j : Int, 0 ≤ j → j < m → snu j = T j ∧ 0 ≤ T j ∧ T j ≤ 255) {s tl : Int} {sort sortAt told kp : Int → Int} (hC : CH m T s m sort sortAt told) : ∀ (d : Nat) (k : Int) (t : TG) (sm sM ik cu : Int) (bt ow bl wr wa ki : Int → Int) (fC fM : Nat), k + d = s → 0 ≤ k → m - bgn m s sortAt k < fC → d < fM → Inv bt ow bl wr wa ki → Dsk t.1 t.2.1 t.2.2.1 t.2.2.2.1 t.2.2.2.2.1 t.2.2.2.2.2.1 bt ow bl wr wa ki →
    (∃ (q s1 s2 : Int) (t' : TG) (b2 o2 l2 w2 a2 k2 : Int → Int), 0 ≤ q ∧ m_Text_playOn_7 fC (bgn m s sortAt k) k (bgn m s sortAt k) m snu t.1 t.2.1 t.2.2.1 t.2.2.2.1 t.2.2.2.2.1 t.2.2.2.2.2.1 t.2.2.2.2.2.2.1 t.2.2.2.2.2.2.2.1 t.2.2.2.2.2.2.2.2 = some (-2000 - q, t') ∧ m_Mod_volume_86 fM k sm sM 0 m s tl ik cu bt ow bl wr wa ki T sort sortAt told kp = bnd (m_Mod_passesAll 1 0 ik cu b2 o2 l2 w2 a2 k2 kp) (fun r25 => some (-2000 - q, s1, s2, 0, m, s, tl, r25.1, r25.2.1, r25.2.2.1, r25.2.2.2.1, r25.2.2.2.2.1, r25.2.2.2.2.2.1, r25.2.2.2.2.2.2.1, r25.2.2.2.2.2.2.2.1, sort, sortAt, told, r25.2.2.2.2.2.2.2.2))) ∨
    (∃ (s1 s2 : Int) (t' : TG) (b2 o2 l2 w2 a2 k2 : Int → Int), m_Text_playOn_7 fC (bgn m s sortAt k) k (bgn m s sortAt k) m snu t.1 t.2.1 t.2.2.1 t.2.2.2.1 t.2.2.2.2.1 t.2.2.2.2.2.1 t.2.2.2.2.2.2.1 t.2.2.2.2.2.2.2.1 t.2.2.2.2.2.2.2.2 = some (s, t') ∧ m_Mod_volume_86 fM k sm sM 0 m s tl ik cu bt ow bl wr wa ki T sort sortAt told kp = some (s, s1, s2, 0, m, s, tl, ik, cu, b2, o2, l2, w2, a2, k2, sort, sortAt, told, kp) ∧ Inv b2 o2 l2 w2 a2 k2 ∧ Dsk t'.1 t'.2.1 t'.2.2.1 t'.2.2.2.1 t'.2.2.2.2.1 t'.2.2.2.2.2.1 b2 o2 l2 w2 a2 k2) := by
  intro d
  induction d with
  | zero =>
    intro k t sm sM ik cu bt ow bl wr wa ki fC fM h1 h2 h3 h4 hI hD
    cases fM with
    | zero => omega
    | succ fM =>
      have e : bgn m s sortAt k = m := if_neg (by omega)
      rw [e] at h3 ⊢
      cases fC with
      | zero => omega
      | succ fC =>
        right
        refine ⟨sm, sM, t, bt, ow, bl, wr, wa, ki, ?_, ?_, hI, hD⟩
        · rw [m_Text_playOn_7, clt_f (by omega), show k = s by omega]
        · have hc := hC.2.1
          rw [m_Mod_volume_86, clt_f (by omega)]
  | succ d ih =>
    intro k t sm sM ik cu bt ow bl wr wa ki fC fM h1 h2 h3 h4 hI hD
    cases fM with
    | zero => omega
    | succ fM =>
      obtain ⟨c1, c2, c3, c4, c5⟩ := id hC
      obtain ⟨a1, a2, a3, a4, a5, a6, a7, a8, a9⟩ := c5 k h2 (by omega)
      have e : bgn m s sortAt k = sortAt k := if_pos (by omega)
      have sb := sem_bd (T (sortAt k))
      have en : bgn m s sortAt (k + 1) = sortAt k + sem (T (sortAt k)) + 1 := by
        unfold bgn
        by_cases c : k + 1 < s
        · rw [if_pos c]
          exact a8 c
        · rw [if_neg c]
          exact a9 (by omega)
      rw [e] at h3 ⊢
      obtain ⟨r, t2, s1, s2, b2, o2, l2, w2, x2, k2, hr, e1, e2, e3⟩ := plays_both (sm := sm) (sM := sM) (sort := sort) hI hD hm hs (b := sortAt k) (k := k) ⟨a1, by omega⟩ ⟨h2, by omega⟩ a3 a4 a7 a2
      have hw := play_walk hm hs (b := sortAt k) (k := k) (t := t) a1 (sem (T (sortAt k))).toNat (sortAt k) (fC - (sem (T (sortAt k))).toNat) (by omega) (by rw [show sortAt k + ((sem (T (sortAt k))).toNat : Int) = sortAt k + sem (T (sortAt k)) by omega]; exact a4)
      rw [show fC - (sem (T (sortAt k))).toNat + (sem (T (sortAt k))).toNat = fC by omega, show sortAt k + ((sem (T (sortAt k))).toNat : Int) = sortAt k + sem (T (sortAt k)) by omega] at hw
      cases hz : fC - (sem (T (sortAt k))).toNat with
      | zero => omega
      | succ z =>
        rw [hz] at hw
        have hc : m_Text_playOn_7 fC (sortAt k) k (sortAt k) m snu t.1 t.2.1 t.2.2.1 t.2.2.2.1 t.2.2.2.2.1 t.2.2.2.2.2.1 t.2.2.2.2.2.2.1 t.2.2.2.2.2.2.2.1 t.2.2.2.2.2.2.2.2 = if r = 0 then some (-2000 - sortAt k, t2) else m_Text_playOn_7 z (sortAt k + sem (T (sortAt k)) + 1) (k + 1) (sortAt k + sem (T (sortAt k)) + 1) m snu t2.1 t2.2.1 t2.2.2.1 t2.2.2.2.1 t2.2.2.2.2.1 t2.2.2.2.2.2.1 t2.2.2.2.2.2.2.1 t2.2.2.2.2.2.2.2.1 t2.2.2.2.2.2.2.2.2 := by
          rw [hw, m_Text_playOn_7, clt_t (by omega), p_num hm hs ⟨by omega, by omega⟩, bnd_s, show Lt m T (sortAt k + sem (T (sortAt k))) = T (sortAt k + sem (T (sortAt k))) from if_pos a5, ceq_t (by omega), e1, bnd_s]
          dsimp only
          rcases hr with hr | hr
          · rw [ceq_t (by omega), if_pos hr]
          · rw [ceq_f (by omega), if_neg (by omega)]
        rw [hc]
        rcases hr with hr | hr
        · subst hr
          left
          refine ⟨sortAt k, s1, s2, t2, b2, o2, l2, w2, x2, k2, a1, if_pos rfl, ?_⟩
          rw [m_Mod_volume_86, clt_t (by omega), e2, bnd_s]
          dsimp only
          rw [ceq_t (by omega)]
          have hk33 : 0 ≤ k ∧ k < 33 := by omega
          congr 1
          funext r25
          exact gd_x hk33
        · subst hr
          obtain ⟨nI, nD⟩ := e3 rfl
          rw [if_neg (by omega)]
          have hM : m_Mod_volume_86 (fM + 1) k sm sM 0 m s tl ik cu bt ow bl wr wa ki T sort sortAt told kp = m_Mod_volume_86 fM (k + 1) s1 s2 0 m s tl ik cu b2 o2 l2 w2 x2 k2 T sort sortAt told kp := by
            rw [m_Mod_volume_86, clt_t (by omega), e2, bnd_s]
            dsimp only
            rw [ceq_f (by omega)]
          rw [hM]
          have := ih (k + 1) t2 s1 s2 ik cu b2 o2 l2 w2 x2 k2 z fM (by omega) (by omega) (by rw [en]; omega) (by omega) nI nD
          rw [en] at this
          exact this
end VOL
theorem e_volume : E_volume := by
  intro ik now nbt nki npl nva nwr kow kbt kki kpl kva kwr smn snu rmn rnu rf mr mb mo ml mw mt mk mp mq mz mh my mn tow tbt tki tpl tva twr trm trs trz sm sM mre mst mte mi mc mso msa mto hR
  obtain ⟨hI, hD, hk, hk1, h5, h6, h7⟩ := id hR
  obtain ⟨g1, g2, g3, g4⟩ := id h6
  subst g1
  have hC0 : CH smn mp 0 0 mso msa mto := ⟨by omega, by omega, fun _ => rfl, fun q => by omega, fun j q0 q1 => by omega⟩
  have h7' : (0 : Int) = 0 ∧ (0 : Int) ≤ 0 ∧ (0 : Int) ≤ 96 ∧ ∀ j : Int, 0 ≤ j → j < 0 → snu j = mp j ∧ 0 ≤ mp j ∧ mp j ≤ 255 := ⟨rfl, by omega, by omega, fun j q0 q1 => by omega⟩
  unfold m_Vol_volume m_Mod_volume m_Text_faultOfForm m_Row_empty_W96
  simp only [jn_s]
  rcases parse_both ⟨g2, g3⟩ g4 (sm := sm) (sM := sM) (ik := mi) (cu := mc) (bt := mb) (ow := mo) (bl := ml) (wr := mw) (wa := mt) (ki := mk) (kept := mz) 96 0 0 mte mso msa mto 5000 5000 (by omega) (by omega) (by omega) (by omega) hC0 with ⟨q, s', tl', so', sa', to', e1, q0, e2⟩ | ⟨s', tl', so', sa', to', s1, e1, hC, e2⟩
  · rw [e1, bnd_s, e2]
    by_cases hq : -1000 - q = 0
    · omega
    · have qb : q ≤ 2000000 ∨ 2000000 < q := by omega
      have hq2 : q ≤ 96 := by
        by_cases c : q ≤ 96
        · exact c
        · exfalso
          have : ∀ (fuel : Nat) (b i : Int) (r : Int), 0 ≤ i → i ≤ smn → m_Text_faultOfForm_4 fuel b i smn snu = some r → r = 0 ∨ -1000 - smn ≤ r := by
            intro fuel
            induction fuel with
            | zero =>
              intro b i r h0 h1 h
              rw [m_Text_faultOfForm_4] at h
              cases h
            | succ fuel ih =>
              intro b i r h0 h1 h
              rw [m_Text_faultOfForm_4] at h
              obtain ⟨-, h⟩ := clt_e h
              rcases h with ⟨c1, h⟩ | ⟨c1, h⟩
              · obtain ⟨r1, -, h⟩ := bnd_e h
                obtain ⟨-, h⟩ := ceq_e h
                rcases h with ⟨c2, h⟩ | ⟨c2, h⟩
                · cases h
                  right
                  omega
                · obtain ⟨r3, -, h⟩ := bnd_e h
                  obtain ⟨-, h⟩ := ceq_e h
                  rcases h with ⟨c3, h⟩ | ⟨c3, h⟩
                  · exact ih _ _ _ (by omega) (by omega) h
                  · exact ih _ _ _ (by omega) (by omega) h
              · obtain ⟨-, h⟩ := ceq_e h
                rcases h with ⟨c2, h⟩ | ⟨c2, h⟩
                · cases h
                  right
                  omega
                · obtain ⟨-, h⟩ := clt_e h
                  rcases h with ⟨c3, h⟩ | ⟨c3, h⟩
                  · cases h
                    right
                    omega
                  · cases h
                    left
                    rfl
          have := this _ _ _ _ (by omega) g2 e1
          omega
      rw [ceq_f (by omega), cle_t (by omega), bnd_s]
      exact ⟨_, _, rfl, rfl, rfl, hI, hD, hk, hk1, h5, h7', h7⟩
  · obtain ⟨kp, cu, p1, p2, p3⟩ := keepAll 1 mi mc mb mo ml mw mt mk mz (by omega)
    obtain ⟨w', c1, c2⟩ := copied hI hD nki tow tbt tki tpl tva twr
    have h0 : bgn smn s' sa' 0 = 0 := by
      unfold bgn
      rw [if_pos (by omega)]
      exact hC.2.2.2.1 (by omega)
    have hlen := hC.2.1
    have hk1' : ∀ (b3 : Int → Int), (∀ j : Int, j < 420 → b3 j = mz j) → ik = 1 → Inv (Sec b3 0) (Sec b3 64) (Sec b3 128) (Sec b3 224) (Sec b3 320) (Sec b3 416) ∧ Dsk kow kbt kki kpl kva kwr (Sec b3 0) (Sec b3 64) (Sec b3 128) (Sec b3 224) (Sec b3 320) (Sec b3 416) := by
      intro b3 hb3 q
      obtain ⟨jI, jD⟩ := hk1 q
      have sec : ∀ c N : Int, c + N ≤ 420 → QE N (Sec b3 c) (Sec mz c) := fun c N h j _ j1 => hb3 (c + j) (by omega)
      exact ⟨jI.congr (sec _ _ (by omega)) (sec _ _ (by omega)) (sec _ _ (by omega)) (sec _ _ (by omega)) (sec _ _ (by omega)) (sec _ _ (by omega)), jD.congr (sec _ _ (by omega)) (sec _ _ (by omega)) (sec _ _ (by omega)) (sec _ _ (by omega)) (sec _ _ (by omega)) (sec _ _ (by omega)) QE.rf QE.rf QE.rf QE.rf QE.rf QE.rf⟩
    rw [e1, bnd_s, e2, p1, bnd_s]
    rw [ceq_t (by omega), c1, bnd_s]
    dsimp only
    unfold m_Text_playOn
    rcases play_loop ⟨g2, g3⟩ g4 (tl := tl') (kp := kp) hC s'.toNat 0 (now, nbt, nki, npl, nva, w', trm, trs, trz) sm sM 1 cu mb mo ml mw mt mk 5000 5000 (by omega) (by omega) (by rw [h0]; omega) (by omega) hI c2 with ⟨q, y1, y2, t', b2, o2, l2, w2, a2, k2, q0, f1, f2⟩ | ⟨y1, y2, t', b2, o2, l2, w2, a2, k2, f1, f2, nI, nD⟩
    · obtain ⟨cc, b3, o3, l3, w3, x3, k3, r1, r2⟩ := bringAll 1 1 cu b2 o2 l2 w2 a2 k2 kp (by omega)
      obtain ⟨z1, z2, z3, z4, z5, z6⟩ := p2
      obtain ⟨v1, v2, v3, v4, v5, v6⟩ := r2
      have hq2 : -2147483648 ≤ -2000 - q := by
        by_cases c : q ≤ 2000000
        · omega
        · exfalso
          have : ∀ (fuel : Nat) (b k i : Int) (t : TG) (r : Int × TG), 0 ≤ b → b ≤ i → i ≤ smn → 0 ≤ k → m_Text_playOn_7 fuel b k i smn snu t.1 t.2.1 t.2.2.1 t.2.2.2.1 t.2.2.2.2.1 t.2.2.2.2.2.1 t.2.2.2.2.2.2.1 t.2.2.2.2.2.2.2.1 t.2.2.2.2.2.2.2.2 = some r → -2000 - smn ≤ r.1 := by
            intro fuel
            induction fuel with
            | zero =>
              intro b k i t r _ _ _ _ h
              rw [m_Text_playOn_7] at h
              cases h
            | succ fuel ih =>
              intro b k i t r hb0 hb1 hb2 hk0 h
              rw [m_Text_playOn_7] at h
              obtain ⟨-, h⟩ := clt_e h
              rcases h with ⟨c1, h⟩ | ⟨c1, h⟩
              · obtain ⟨r1, -, h⟩ := bnd_e h
                obtain ⟨-, h⟩ := ceq_e h
                rcases h with ⟨c2, h⟩ | ⟨c2, h⟩
                · obtain ⟨r3, -, h⟩ := bnd_e h
                  obtain ⟨-, h⟩ := ceq_e h
                  rcases h with ⟨c3, h⟩ | ⟨c3, h⟩
                  · cases h
                    show -2000 - smn ≤ -2000 - b
                    omega
                  · exact ih _ _ _ r3.2 _ (by omega) (by omega) (by omega) (by omega) h
                · exact ih _ _ _ t _ (by omega) (by omega) (by omega) hk0 h
              · cases h
                show -2000 - smn ≤ k
                omega
          rw [h0] at f1
          have := this _ _ _ _ _ _ (by omega) (by omega) g2 (by omega) f1
          have : -2000 - smn ≤ -2000 - q := this
          omega
      rw [h0] at f1
      rw [f1, bnd_s]
      dsimp only
      rw [cle_t (by omega), bnd_s, bnd_s, f2, r1, bnd_s]
      refine ⟨_, _, rfl, rfl, rfl, hI.congr (v1.tr z1) (v2.tr z2) (v3.tr z3) (v4.tr z4) (v5.tr z5) (v6.tr z6), hD.congr (v1.tr z1) (v2.tr z2) (v3.tr z3) (v4.tr z4) (v5.tr z5) (v6.tr z6) QE.rf QE.rf QE.rf QE.rf QE.rf QE.rf, hk, hk1' kp (fun j q => p3 j (Or.inl (by omega))), h5, h7', h7⟩
    · rw [h0] at f1
      obtain ⟨w3, d1, d2⟩ := copied nI nD t'.2.2.1 now nbt nki npl nva nwr
      rw [f1, bnd_s]
      dsimp only
      rw [cle_f (by omega), d1, bnd_s, bnd_s, bnd_s, f2]
      exact ⟨_, _, rfl, rfl, rfl, nI, d2, hk, hk1' kp (fun j q => p3 j (Or.inl (by omega))), h5, h7', h7⟩
