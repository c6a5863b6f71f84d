/-! e_kindBest, e_larger -/
section KBS
variable {bt ow bl wr wa ki vow vbt vki vpl vva vwr : Int → Int}
theorem Inv.kind (hI : Inv bt ow bl wr wa ki) {f k : Int} (hk : 0 ≤ k ∧ k ≤ 5) : Inv bt ow bl wr wa (uf ki f k) := by
  obtain ⟨i1, i2, i3, i4, i5, i6, i7, i8⟩ := hI
  refine ⟨i1, i2, i3, i4, i5, fun c h0 h1 => ?_, i7, i8⟩
  by_cases h : c = f
  · rw [h, uf_s]
    exact hk
  · rw [uf_n h]
    exact i6 c h0 h1
theorem Dsk.kind (hD : Dsk vow vbt vki vpl vva vwr bt ow bl wr wa ki) {f k : Int} : Dsk vow vbt (uf vki f k) vpl vva vwr bt ow bl wr wa (uf ki f k) := by
  obtain ⟨d1, d2, d3, d4, d5, d6⟩ := hD
  exact ⟨d1, d2, d3.up f k, d4, d5, d6⟩
theorem byKind_of {f k n : Int} {g : TG} {t : TG} (h : m_Mind_extentsByKind f k vow vbt vki vpl vva vwr g.1 g.2.1 g.2.2.1 g.2.2.2.1 g.2.2.2.2.1 g.2.2.2.2.2.1 g.2.2.2.2.2.2.1 g.2.2.2.2.2.2.2.1 g.2.2.2.2.2.2.2.2 = some (n, t)) : m_Mind_flushByKind f k vow vbt vki vpl vva vwr g.1 g.2.1 g.2.2.1 g.2.2.2.1 g.2.2.2.2.1 g.2.2.2.2.2.1 g.2.2.2.2.2.2.1 g.2.2.2.2.2.2.2.1 g.2.2.2.2.2.2.2.2 = some t ∧ m_Disk_extentsIn f t.2.2.2.1 t.2.2.2.2.2.1 = some n := by
  unfold m_Mind_extentsByKind at h
  obtain ⟨r1, e1, h⟩ := bnd_e h
  obtain ⟨r3, e2, h⟩ := bnd_e h
  cases h
  exact ⟨e1, e2⟩
def KV (f k : Int) (vow vbt vki vpl vva vwr : Int → Int) (n : Int) : Prop := (0 ≤ n ∧ n ≤ 24) ∧ (∀ g : TG, ∃ t : TG, m_Mind_extentsByKind f k vow vbt vki vpl vva vwr g.1 g.2.1 g.2.2.1 g.2.2.2.1 g.2.2.2.2.1 g.2.2.2.2.2.1 g.2.2.2.2.2.2.1 g.2.2.2.2.2.2.2.1 g.2.2.2.2.2.2.2.2 = some (n, t)) ∧ (∀ x : MS, (Inv x.2.2.2.2.1 x.2.2.2.2.2.1 x.2.2.2.2.2.2.1 x.2.2.2.2.2.2.2.1 x.2.2.2.2.2.2.2.2.1 x.2.2.2.2.2.2.2.2.2.1 ∧ Dsk vow vbt (uf vki f k) vpl vva vwr x.2.2.2.2.1 x.2.2.2.2.2.1 x.2.2.2.2.2.2.1 x.2.2.2.2.2.2.2.1 x.2.2.2.2.2.2.2.2.1 x.2.2.2.2.2.2.2.2.2.1) → ∃ u : MS, m_Mod_scatterOf f x.1 x.2.1 x.2.2.1 x.2.2.2.1 x.2.2.2.2.1 x.2.2.2.2.2.1 x.2.2.2.2.2.2.1 x.2.2.2.2.2.2.2.1 x.2.2.2.2.2.2.2.2.1 x.2.2.2.2.2.2.2.2.2.1 x.2.2.2.2.2.2.2.2.2.2 = some (n, u) ∧ SmT x.2.2.2.2.1 x.2.2.2.2.2.1 x.2.2.2.2.2.2.1 x.2.2.2.2.2.2.2.1 x.2.2.2.2.2.2.2.2.1 x.2.2.2.2.2.2.2.2.2.1 x.2.2.2.2.2.2.2.2.2.2 u)
theorem kind_val (hI : Inv bt ow bl wr wa ki) (hD : Dsk vow vbt vki vpl vva vwr bt ow bl wr wa ki) {f k : Int} (hf : 0 ≤ f ∧ f < 4) (hk : 0 ≤ k ∧ k ≤ 5) : ∃ n, KV f k vow vbt vki vpl vva vwr n :=
  one_val (G := TG) (X := MS) (T := TG) (U := MS) (B := fun n => 0 ≤ n ∧ n ≤ 24)
    (D := fun g => m_Mind_extentsByKind f k vow vbt vki vpl vva vwr g.1 g.2.1 g.2.2.1 g.2.2.2.1 g.2.2.2.2.1 g.2.2.2.2.2.1 g.2.2.2.2.2.2.1 g.2.2.2.2.2.2.2.1 g.2.2.2.2.2.2.2.2)
    (M := fun x => m_Mod_scatterOf f x.1 x.2.1 x.2.2.1 x.2.2.2.1 x.2.2.2.2.1 x.2.2.2.2.2.1 x.2.2.2.2.2.2.1 x.2.2.2.2.2.2.2.1 x.2.2.2.2.2.2.2.2.1 x.2.2.2.2.2.2.2.2.2.1 x.2.2.2.2.2.2.2.2.2.2)
    (P := fun x => Inv x.2.2.2.2.1 x.2.2.2.2.2.1 x.2.2.2.2.2.2.1 x.2.2.2.2.2.2.2.1 x.2.2.2.2.2.2.2.2.1 x.2.2.2.2.2.2.2.2.2.1 ∧ Dsk vow vbt (uf vki f k) vpl vva vwr x.2.2.2.2.1 x.2.2.2.2.2.1 x.2.2.2.2.2.2.1 x.2.2.2.2.2.2.2.1 x.2.2.2.2.2.2.2.2.1 x.2.2.2.2.2.2.2.2.2.1)
    (Q := fun x u => SmT x.2.2.2.2.1 x.2.2.2.2.2.1 x.2.2.2.2.2.2.1 x.2.2.2.2.2.2.2.1 x.2.2.2.2.2.2.2.2.1 x.2.2.2.2.2.2.2.2.2.1 x.2.2.2.2.2.2.2.2.2.2 u)
    (fun g x hx => by
      obtain ⟨n, t, u, e1, e2, e3, e4⟩ := scatter_both (mz := x.2.2.2.2.2.2.2.2.2.2) hx.1 hx.2 hf g x.1 x.2.1 x.2.2.1 x.2.2.2.1
      exact ⟨n, t, u, e1, e2, e3, e4⟩)
    (vow, vow, vow, vow, vow, vow, 0, vow, vow) (0, 0, 0, 0, bt, ow, bl, wr, wa, uf ki f k, bt) ⟨hI.kind hk, hD.kind⟩
def SmF (f : Int) (b o l w a k p b' o' l' w' a' k' p' : Int → Int) : Prop := QE 64 b' b ∧ QE 64 o' o ∧ QE 96 l' l ∧ QE 96 w' w ∧ QE 96 a' a ∧ (∀ h : Int, 0 ≤ h → h < 4 → h ≠ f → k' h = k h) ∧ ∀ j : Int, j < 840 → p' j = p j
theorem SmF.to {f v : Int} {b o l w a k p b' o' l' w' a' k' p' : Int → Int} (h : SmF f b o l w a k p b' o' l' w' a' k' p') : Sm b o l w a (uf k f v) p b' o' l' w' a' (uf k' f v) p' := by
  obtain ⟨h1, h2, h3, h4, h5, h6, h7⟩ := h
  refine ⟨h1, h2, h3, h4, h5, fun j q0 q1 => ?_, h7⟩
  by_cases c : j = f
  · rw [c, uf_s, uf_s]
  · rw [uf_n c, uf_n c]
    exact h6 j q0 q1 c
theorem SmF.nx {f v : Int} {b o l w a k p b' o' l' w' a' k' p' b2 o2 l2 w2 a2 k2 p2 : Int → Int} (h : SmF f b o l w a k p b' o' l' w' a' k' p') (g : Sm b' o' l' w' a' (uf k' f v) p' b2 o2 l2 w2 a2 k2 p2) : SmF f b o l w a k p b2 o2 l2 w2 a2 k2 p2 := by
  obtain ⟨h1, h2, h3, h4, h5, h6, h7⟩ := h
  obtain ⟨g1, g2, g3, g4, g5, g6, g7⟩ := g
  refine ⟨g1.tr h1, g2.tr h2, g3.tr h3, g4.tr h4, g5.tr h5, fun j q0 q1 c => ?_, fun j q => (g7 j q).trans (h7 j q)⟩
  rw [g6 j q0 q1, uf_n c]
  exact h6 j q0 q1 c
theorem kind_loop (hI : Inv bt ow bl wr wa ki) (hD : Dsk vow vbt vki vpl vva vwr bt ow bl wr wa ki) {f w2 : Int} (hf : 0 ≤ f ∧ f < 4) (hw : w2 = 0 ∨ w2 = 1) {V : Int → Int} (hV : ∀ k : Int, 0 ≤ k → k < 6 → KV f k vow vbt vki vpl vva vwr (V k)) {mr mz : Int → Int} : ∀ (d : Nat) (k bD lD bM lM : Int) (g : TG) (x : MS) (fD fM : Nat), k + d = 6 → 0 ≤ k → d < fD → d < fM → SmF f bt ow bl wr wa ki mz x.2.2.2.2.1 x.2.2.2.2.2.1 x.2.2.2.2.2.2.1 x.2.2.2.2.2.2.2.1 x.2.2.2.2.2.2.2.2.1 x.2.2.2.2.2.2.2.2.2.1 x.2.2.2.2.2.2.2.2.2.2 → ((k = 0 ∧ bD = -1 ∧ lD = 25 ∧ bM = -9 ∧ lM = 0) ∨ (0 ≤ bD ∧ bD < k ∧ bM = bD ∧ lD = V bD ∧ lM = V bD)) →
    ∃ (best : Int) (t : TG) (u : MS), 0 ≤ best ∧ best < 6 ∧ m_Mind_leastKind_8 fD f bD lD k vow vbt vki vpl vva vwr g.1 g.2.1 g.2.2.1 g.2.2.2.1 g.2.2.2.2.1 g.2.2.2.2.2.1 g.2.2.2.2.2.2.1 g.2.2.2.2.2.2.2.1 g.2.2.2.2.2.2.2.2 = some (best, t) ∧ m_Mod_kindBest_55 fM f w2 (ki f) bM lM k x.1 x.2.1 x.2.2.1 x.2.2.2.1 mr x.2.2.2.2.1 x.2.2.2.2.2.1 x.2.2.2.2.2.2.1 x.2.2.2.2.2.2.2.1 x.2.2.2.2.2.2.2.2.1 x.2.2.2.2.2.2.2.2.2.1 x.2.2.2.2.2.2.2.2.2.2 = some (if w2 = 0 then best else V best, u.1, u.2.1, u.2.2.1, u.2.2.2.1, mr, u.2.2.2.2.1, u.2.2.2.2.2.1, u.2.2.2.2.2.2.1, u.2.2.2.2.2.2.2.1, u.2.2.2.2.2.2.2.2.1, u.2.2.2.2.2.2.2.2.2.1, u.2.2.2.2.2.2.2.2.2.2) ∧ SmT bt ow bl wr wa ki mz u := by
  intro d
  induction d with
  | zero =>
    intro k bD lD bM lM g x fD fM h1 h2 h3 h4 h5 h6
    cases fD with
    | zero => omega
    | succ fD =>
      cases fM with
      | zero => omega
      | succ fM =>
        have h6' : 0 ≤ bD ∧ bD < k ∧ bM = bD ∧ lD = V bD ∧ lM = V bD := by
          rcases h6 with q | q
          · omega
          · exact q
        obtain ⟨a1, a2, a3, a4, a5⟩ := h6'
        have hs := SmF.to (v := ki f) h5
        rw [uf_id] at hs
        refine ⟨bD, g, (x.1, x.2.1, x.2.2.1, x.2.2.2.1, x.2.2.2.2.1, x.2.2.2.2.2.1, x.2.2.2.2.2.2.1, x.2.2.2.2.2.2.2.1, x.2.2.2.2.2.2.2.2.1, uf x.2.2.2.2.2.2.2.2.2.1 f (ki f), x.2.2.2.2.2.2.2.2.2.2), a1, by omega, ?_, ?_, hs⟩
        · rw [m_Mind_leastKind_8, clt_f (by omega)]
        · rw [m_Mod_kindBest_55, clt_f (by omega), gd_x (by omega)]
          rcases hw with hw | hw
          · rw [ceq_t (by omega), if_pos hw, a3]
          · rw [ceq_f (by omega), if_neg (by omega), a5]
  | succ d ih =>
    intro k bD lD bM lM g x fD fM h1 h2 h3 h4 h5 h6
    cases fD with
    | zero => omega
    | succ fD =>
      cases fM with
      | zero => omega
      | succ fM =>
        obtain ⟨vb, vD, vM⟩ := hV k h2 (by omega)
        obtain ⟨t, e1⟩ := vD g
        obtain ⟨d1, d2⟩ := byKind_of e1
        have hs := SmF.to (v := k) h5
        obtain ⟨u, m1, m2⟩ := vM (x.1, x.2.1, x.2.2.1, x.2.2.2.1, x.2.2.2.2.1, x.2.2.2.2.2.1, x.2.2.2.2.2.2.1, x.2.2.2.2.2.2.2.1, x.2.2.2.2.2.2.2.2.1, uf x.2.2.2.2.2.2.2.2.2.1 f k, x.2.2.2.2.2.2.2.2.2.2) ⟨hs.inv (hI.kind ⟨h2, by omega⟩), hs.dsk hD.kind⟩
        have hn := h5.nx m2
        have bd : bD ≤ 10 ∧ -1 ≤ bD ∧ 0 ≤ lD ∧ lD ≤ 25 ∧ -9 ≤ bM ∧ bM ≤ 10 ∧ 0 ≤ lM ∧ lM ≤ 25 := by
          rcases h6 with q | ⟨q1, q2, q3, q4, q5⟩
          · omega
          · have := (hV bD q1 (by omega)).1
            omega
        rw [m_Mind_leastKind_8, clt_t (by omega), d1, bnd_s, d2, bnd_s, m_Mod_kindBest_55, clt_t (x := k) (y := 6) (by omega), gd_x hf, m1, bnd_s]
        by_cases c : k = 0 ∨ V k < V bD
        · have hD' : V k < lD := by
            rcases h6 with q | q
            · omega
            · omega
          rw [clt_t (x := V k) (y := lD) (by omega), bnd_s]
          have hM' : ∀ {α : Type} {A B : Option α}, clt bM 0 A (clt (V k) lM A B) = A := by
            intro α A B
            rcases h6 with q | q
            · rw [clt_t (by omega)]
            · rw [clt_f (by omega), clt_t (by omega)]
          rw [hM']
          exact ih (k + 1) k (V k) k (V k) t u fD fM (by omega) (by omega) (by omega) (by omega) hn (Or.inr ⟨h2, by omega, rfl, rfl, rfl⟩)
        · have h6' : 0 ≤ bD ∧ bD < k ∧ bM = bD ∧ lD = V bD ∧ lM = V bD := by
            rcases h6 with q | q
            · omega
            · exact q
          obtain ⟨a1, a2, a3, a4, a5⟩ := h6'
          rw [clt_f (x := V k) (y := lD) (by omega), bnd_s, clt_f (x := bM) (y := 0) (by omega), clt_f (x := V k) (y := lM) (by omega)]
          exact ih (k + 1) bD lD bM lM t u fD fM (by omega) (by omega) (by omega) (by omega) hn (Or.inr ⟨a1, by omega, a3, a4, a5⟩)
end KBS
theorem e_kindBest : E_kindBest := by
  intro ik now nbt nki npl nva nwr kow kbt kki kpl kva kwr smn snu rmn rnu rf mr mb mo ml mw mt mk mp mq mz mh my mn tow tbt tki tpl tva twr trm trs trz sm sM mi mc x1 x2 hR hx hx2
  obtain ⟨hI, hD, hk, hk1, h5, h6, h7⟩ := id hR
  unfold m_Vol_kindBest m_Mod_kindBest
  simp only [jn_s]
  rw [p_Vol_isFile hx, bnd_s, p_Mod_isFile hx, bnd_s, ceq_yn, ceq_yn]
  by_cases hf : 0 ≤ x1 ∧ x1 < 4
  · rw [if_pos hf, if_pos hf, p_Vol_isEither hx2, bnd_s, p_Mod_isIn hx2 (by omega) (by omega), bnd_s, ceq_yn, ceq_yn]
    by_cases hw : x2 = 0 ∨ x2 = 1
    · rw [if_pos hw, if_pos (by omega), ceq_t (x := 0) (y := 0) (by omega), gd_x hf]
      have hex : ∀ k : Int, ∃ n, 0 ≤ k → k < 6 → KV x1 k now nbt nki npl nva nwr n := by
        intro k
        by_cases c : 0 ≤ k ∧ k < 6
        · obtain ⟨n, hn⟩ := kind_val hI hD hf (k := k) ⟨c.1, by omega⟩
          exact ⟨n, fun _ _ => hn⟩
        · exact ⟨0, fun q0 q1 => absurd ⟨q0, q1⟩ c⟩
      have hV : ∃ V : Int → Int, ∀ k : Int, 0 ≤ k → k < 6 → KV x1 k now nbt nki npl nva nwr (V k) := ⟨fun k => Classical.choose (hex k), fun k => Classical.choose_spec (hex k)⟩
      obtain ⟨V, hV⟩ := hV
      obtain ⟨best, t, u, b0, b1, e1, e2, e3⟩ := kind_loop (mr := mr) (mz := mz) hI hD hf hw hV 6 0 (-1) 25 (-9) 0 (tow, tbt, tki, tpl, tva, twr, trm, trs, trz) (sm, sM, mi, mc, mb, mo, ml, mw, mt, mk, mz) 5000 5000 (by omega) (by omega) (by omega) (by omega) ⟨QE.rf, QE.rf, QE.rf, QE.rf, QE.rf, fun _ _ _ _ => rfl, fun _ _ => rfl⟩ (Or.inl ⟨rfl, rfl, rfl, rfl, rfl⟩)
      have e1 : m_Mind_leastKind x1 now nbt nki npl nva nwr tow tbt tki tpl tva twr trm trs trz = some (best, t) := e1
      dsimp only at e2
      rw [e1, bnd_s, e2]
      dsimp only
      rcases hw with hw | hw
      · rw [ceq_t (by omega), if_pos hw]
        exact ⟨_, _, rfl, rfl, rfl, hR.sm e3⟩
      · obtain ⟨t2, e4⟩ := (hV best b0 b1).2.1 t
        rw [ceq_f (by omega), e4, bnd_s, if_neg (by omega)]
        exact ⟨_, _, rfl, rfl, rfl, hR.sm e3⟩
    · rw [if_neg hw, if_neg (by omega), ceq_f (by omega), p_refuse (by omega), p_no (by omega), bnd_s, bnd_s]
      exact ⟨_, _, rfl, rfl, rfl, hR.no (-2) (by omega)⟩
  · rw [if_neg hf, if_neg hf, ceq_f (by omega), p_refuse (by omega), p_no (by omega), bnd_s, bnd_s]
    exact ⟨_, _, rfl, rfl, rfl, hR.no (-1) (by omega)⟩
theorem e_larger : E_larger := by
  intro ik now nbt nki npl nva nwr kow kbt kki kpl kva kwr smn snu rmn rnu rf mr mb mo ml mw mt mk mp mq mz mh my mn nrm nrs nrz tow tbt tki tpl tva twr trm trs trz mi mc x1 hR hx
  obtain ⟨hI, hD, hk, hk1, h5, h6, h7⟩ := id hR
  unfold m_Vol_larger m_Mod_larger
  rw [p_Vol_isFile hx, bnd_s, p_Mod_isFile hx, bnd_s, ceq_yn, ceq_yn]
  by_cases hf : 0 ≤ x1 ∧ x1 < 4
  · rw [if_pos hf, if_pos hf]
    obtain ⟨w', c1, c2⟩ := copied hI hD nki tow tbt tki tpl tva twr
    obtain ⟨g, grm, grs, grz, g1, g2, g3, g4⟩ := greatestD hI hD nrm nrs nrz
    unfold m_Mind_growthBySettling
    rw [c1, bnd_s]
    dsimp only
    rcases settle_both hI c2 hf trm trs trz with ⟨rm', rs', rz', e1, e2⟩ | ⟨s, vow', vbt', vpl', rm', rs', rz', bt', ow', bl', s0, s1, e1, e2, e3, nI, nD⟩
    · obtain ⟨g', hrm, hrs, hrz, q1, q2, -⟩ := greatestD hI c2 rm' rs' rz'
      have hgg : g' = g := by
        rw [g2] at q2
        cases q2
        rfl
      subst hgg
      rw [e1, e2, bnd_s, bnd_s]
      dsimp only
      rw [q1, bnd_s, g1, bnd_s, bnd_s, ceq_t (by omega)]
      exact ⟨_, _, rfl, rfl, by show g' - g' = 0; omega, hR⟩
    · obtain ⟨g', hrm, hrs, hrz, q1, q2, -⟩ := greatestD nI nD rm' rs' rz'
      obtain ⟨c, kp, m1, m2⟩ := minds_forgets mi mc mb mo ml mw mt mk mz
      obtain ⟨cc, b3, o3, l3, w3, t3, k3, m3, m4⟩ := m2 1 c bt' ow' bl' mw mt mk
      rw [e1, e2, bnd_s, bnd_s]
      dsimp only
      rw [q1, bnd_s, g1, bnd_s, bnd_s, ceq_f (by omega), g2, bnd_s, m1, bnd_s]
      dsimp only
      rw [e3, bnd_s]
      dsimp only
      rw [q2, bnd_s, m3, bnd_s]
      exact ⟨_, _, rfl, rfl, rfl, hR.sm m4⟩
  · unfold m_Mod_lower
    rw [if_neg hf, if_neg hf, p_refuse (by omega), gd_x (by omega), gd_x (by omega), bnd_s, bnd_s]
    exact ⟨_, _, rfl, rfl, rfl, hR.no (-1) (by omega)⟩
