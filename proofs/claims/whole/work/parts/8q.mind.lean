/-! in mind: kept and brought back; a question's value -/
abbrev TG : Type := (Int → Int) × (Int → Int) × (Int → Int) × (Int → Int) × (Int → Int) × (Int → Int) × Int × (Int → Int) × (Int → Int)
abbrev MS : Type := Int × Int × Int × Int × (Int → Int) × (Int → Int) × (Int → Int) × (Int → Int) × (Int → Int) × (Int → Int) × (Int → Int)
def Sm (b o l w a k p b' o' l' w' a' k' p' : Int → Int) : Prop := QE 64 b' b ∧ QE 64 o' o ∧ QE 96 l' l ∧ QE 96 w' w ∧ QE 96 a' a ∧ QE 4 k' k ∧ ∀ j : Int, j < 840 → p' j = p j
abbrev SmT (b o l w a k p : Int → Int) (x : MS) : Prop := Sm b o l w a k p x.2.2.2.2.1 x.2.2.2.2.2.1 x.2.2.2.2.2.2.1 x.2.2.2.2.2.2.2.1 x.2.2.2.2.2.2.2.2.1 x.2.2.2.2.2.2.2.2.2.1 x.2.2.2.2.2.2.2.2.2.2
theorem Sm.rf {b o l w a k p : Int → Int} : Sm b o l w a k p b o l w a k p := ⟨QE.rf, QE.rf, QE.rf, QE.rf, QE.rf, QE.rf, fun _ _ => rfl⟩
theorem Sm.tr {b o l w a k p b' o' l' w' a' k' p' b2 o2 l2 w2 a2 k2 p2 : Int → Int} (h : Sm b o l w a k p b' o' l' w' a' k' p') (g : Sm b' o' l' w' a' k' p' b2 o2 l2 w2 a2 k2 p2) : Sm b o l w a k p b2 o2 l2 w2 a2 k2 p2 := by
  obtain ⟨h1, h2, h3, h4, h5, h6, h7⟩ := h
  obtain ⟨g1, g2, g3, g4, g5, g6, g7⟩ := g
  exact ⟨g1.tr h1, g2.tr h2, g3.tr h3, g4.tr h4, g5.tr h5, g6.tr h6, fun j q => (g7 j q).trans (h7 j q)⟩
theorem Sm.inv {b o l w a k p b' o' l' w' a' k' p' : Int → Int} (h : Sm b o l w a k p b' o' l' w' a' k' p') (hI : Inv b o l w a k) : Inv b' o' l' w' a' k' := by
  obtain ⟨h1, h2, h3, h4, h5, h6, h7⟩ := h
  exact hI.congr h1 h2 h3 h4 h5 h6
theorem Sm.dsk {b o l w a k p b' o' l' w' a' k' p' vow vbt vki vpl vva vwr : Int → Int} (h : Sm b o l w a k p b' o' l' w' a' k' p') (hD : Dsk vow vbt vki vpl vva vwr b o l w a k) : Dsk vow vbt vki vpl vva vwr b' o' l' w' a' k' := by
  obtain ⟨h1, h2, h3, h4, h5, h6, h7⟩ := h
  exact hD.congr h1 h2 h3 h4 h5 h6 QE.rf QE.rf QE.rf QE.rf QE.rf QE.rf
theorem Sm.sec {b o l w a k p b' o' l' w' a' k' p' : Int → Int} (h : Sm b o l w a k p b' o' l' w' a' k' p') {c N : Int} (hc : c + N ≤ 840) : QE N (Sec p' c) (Sec p c) := fun j _ h1 => h.2.2.2.2.2.2 (c + j) (by omega)
theorem Rel.sm {ik : Int} {now nbt nki npl nva nwr kow kbt kki kpl kva kwr : Int → Int} {smn : Int} {snu : Int → Int} {rmn : Int} {rnu rf mr mb mo ml mw mt mk mp : Int → Int} {mq : Int} {mz : Int → Int} {mh : Int} {my : Int → Int} {mn : Int} (hR : Rel ik now nbt nki npl nva nwr kow kbt kki kpl kva kwr smn snu rmn rnu rf mr mb mo ml mw mt mk mp mq mz mh my mn) {b' o' l' w' a' k' p' : Int → Int} (h : Sm mb mo ml mw mt mk mz b' o' l' w' a' k' p') : Rel ik now nbt nki npl nva nwr kow kbt kki kpl kva kwr smn snu rmn rnu rf mr b' o' l' w' a' k' mp mq p' mh my mn := by
  obtain ⟨hI, hD, hk, hk1, h5, h6, h7⟩ := hR
  refine ⟨h.inv hI, h.dsk hD, hk, fun q => ?_, h5, h6, h7⟩
  obtain ⟨jI, jD⟩ := hk1 q
  exact ⟨jI.congr (h.sec (by omega)) (h.sec (by omega)) (h.sec (by omega)) (h.sec (by omega)) (h.sec (by omega)) (h.sec (by omega)), jD.congr (h.sec (by omega)) (h.sec (by omega)) (h.sec (by omega)) (h.sec (by omega)) (h.sec (by omega)) (h.sec (by omega)) QE.rf QE.rf QE.rf QE.rf QE.rf QE.rf⟩
theorem minds_forgets (mi mc : Int) (mb mo ml mw mt mk mz : Int → Int) : ∃ c kp, m_Mod_minds mi mc mb mo ml mw mt mk mz = some (1, c, mb, mo, ml, mw, mt, mk, kp) ∧ ∀ (i c' : Int) (b2 o2 l2 w2 t2 k2 : Int → Int), ∃ c2 b3 o3 l3 w3 t3 k3, m_Mod_forgets i c' b2 o2 l2 w2 t2 k2 kp = some (0, c2, b3, o3, l3, w3, t3, k3, kp) ∧ Sm mb mo ml mw mt mk mz b3 o3 l3 w3 t3 k3 kp := by
  obtain ⟨kp, c, e1, ⟨g1, g2, g3, g4, g5, g6⟩, g7⟩ := keepAll 2 mi mc mb mo ml mw mt mk mz (by omega)
  refine ⟨c, kp, ?_, fun i c' b2 o2 l2 w2 t2 k2 => ?_⟩
  · unfold m_Mod_minds
    rw [e1, bnd_s]
  · obtain ⟨c2, b3, o3, l3, w3, t3, k3, e2, ⟨f1, f2, f3, f4, f5, f6⟩⟩ := bringAll 2 i c' b2 o2 l2 w2 t2 k2 kp (by omega)
    refine ⟨c2, b3, o3, l3, w3, t3, k3, ?_, f1.tr g1, f2.tr g2, f3.tr g3, f4.tr g4, f5.tr g5, f6.tr g6, fun j q => g7 j (Or.inl (by omega))⟩
    unfold m_Mod_forgets
    rw [e2, bnd_s]
theorem one_val {G X T U : Type} {D : G → Option (Int × T)} {M : X → Option (Int × U)} {P : X → Prop} {Q : X → U → Prop} {B : Int → Prop} (h : ∀ g x, P x → ∃ n t u, D g = some (n, t) ∧ M x = some (n, u) ∧ Q x u ∧ B n) (g0 : G) (x0 : X) (hx : P x0) : ∃ n, B n ∧ (∀ g, ∃ t, D g = some (n, t)) ∧ (∀ x, P x → ∃ u, M x = some (n, u) ∧ Q x u) := by
  obtain ⟨n, t, u, d, m, q, b⟩ := h g0 x0 hx
  refine ⟨n, b, fun g => ?_, fun x hx2 => ?_⟩
  · obtain ⟨n2, t2, u2, d2, m2, -⟩ := h g x0 hx
    rw [m] at m2
    cases m2
    exact ⟨t2, d2⟩
  · obtain ⟨n2, t2, u2, d2, m2, q2, -⟩ := h g0 x hx2
    rw [d] at d2
    cases d2
    exact ⟨u2, m2, q2⟩
section MND
variable {bt ow bl wr wa ki vow vbt vki vpl vva vwr : Int → Int}
theorem copied (hI : Inv bt ow bl wr wa ki) (hD : Dsk vow vbt vki vpl vva vwr bt ow bl wr wa ki) (nk a b c d e w : Int → Int) : ∃ w', m_Disk_copyFrom a b c d e w vow vbt nk vpl vva vwr = some (vow, vbt, nk, vpl, vva, w') ∧ Dsk vow vbt vki vpl vva w' bt ow bl wr wa ki := by
  obtain ⟨w', e1, e2⟩ := pD_copy (a := a) (b := b) (c := c) (d := d) (e := e) (w := w) (qa := vow) (qb := vbt) (qc := nk) (qd := vpl) (qe := vva) (qw := vwr) (fun j h0 h1 => by rw [hD.2.2.2.2.2 j h0 h1]; exact ((Inv.at hI).2 j h0 h1).2.2)
  exact ⟨w', e1, hD.congr QE.rf QE.rf QE.rf QE.rf QE.rf QE.rf QE.rf QE.rf QE.rf e2 QE.rf QE.rf⟩
theorem byKind_both {nki : Int → Int} {f k : Int} (hI : Inv bt ow bl wr wa ki) (hD : Dsk vow vbt (uf nki f k) vpl vva vwr bt ow bl wr wa ki) (hf : 0 ≤ f ∧ f < 4) (g : TG) (sm sM : Int) :
    ∃ (t : TG) (st : Int) (bt' ow' bl' wr' wa' : Int → Int), m_Mind_flushByKind f k vow vbt nki vpl vva vwr g.1 g.2.1 g.2.2.1 g.2.2.2.1 g.2.2.2.2.1 g.2.2.2.2.2.1 g.2.2.2.2.2.2.1 g.2.2.2.2.2.2.2.1 g.2.2.2.2.2.2.2.2 = some t ∧ m_Mod_flushes f 1000000 sm sM bt ow bl wr wa ki = some (st, st, 1000000, bt', ow', bl', wr', wa') ∧ Inv bt' ow' bl' wr' wa' ki ∧ Dsk t.1 t.2.1 t.2.2.1 t.2.2.2.1 t.2.2.2.2.1 t.2.2.2.2.2.1 bt' ow' bl' wr' wa' ki ∧ 0 ≤ st ∧ st ≤ 99 := by
  obtain ⟨w', c1, c2⟩ := copied hI hD nki g.1 g.2.1 g.2.2.1 g.2.2.2.1 g.2.2.2.2.1 g.2.2.2.2.2.1
  obtain ⟨st, vow', vbt', vpl', vva', vwr', rm', rs', rz', bt', ow', bl', wr', wa', e1, e2, nI, nD, s0, -, s1, -⟩ := flush_both hI c2 hf (K := 1000) (M := 1000000) (Or.inr ⟨rfl, rfl⟩) g.2.2.2.2.2.2.1 g.2.2.2.2.2.2.2.1 g.2.2.2.2.2.2.2.2 sm sM
  refine ⟨(vow', vbt', uf nki f k, vpl', vva', vwr', rm', rs', rz'), st, bt', ow', bl', wr', wa', ?_, e2, nI, nD, s0, s1⟩
  unfold m_Mind_flushByKind
  rw [c1, bnd_s, p_turnKind hf, bnd_s, e1, bnd_s]
theorem scatter_both {nki mz : Int → Int} {f k : Int} (hI : Inv bt ow bl wr wa ki) (hD : Dsk vow vbt (uf nki f k) vpl vva vwr bt ow bl wr wa ki) (hf : 0 ≤ f ∧ f < 4) (g : TG) (sm sM mi mc : Int) :
    ∃ (n : Int) (t : TG) (x : MS), m_Mind_extentsByKind f k vow vbt nki vpl vva vwr g.1 g.2.1 g.2.2.1 g.2.2.2.1 g.2.2.2.2.1 g.2.2.2.2.2.1 g.2.2.2.2.2.2.1 g.2.2.2.2.2.2.2.1 g.2.2.2.2.2.2.2.2 = some (n, t) ∧ m_Mod_scatterOf f sm sM mi mc bt ow bl wr wa ki mz = some (n, x) ∧ SmT bt ow bl wr wa ki mz x ∧ 0 ≤ n ∧ n ≤ 24 := by
  obtain ⟨t, st, bt', ow', bl', wr', wa', e1, e2, nI, nD, -⟩ := byKind_both hI hD hf g sm sM
  obtain ⟨c, kp, m1, m2⟩ := minds_forgets mi mc bt ow bl wr wa ki mz
  obtain ⟨c2, b3, o3, l3, w3, t3, k3, m3, m4⟩ := m2 1 c bt' ow' bl' wr' wa' ki
  refine ⟨ext bl' wr' f, t, (st, 1000000, 0, c2, b3, o3, l3, w3, t3, k3, kp), ?_, ?_, m4, ext_bd⟩
  · unfold m_Mind_extentsByKind
    rw [e1, bnd_s, pD_extentsIn nI nD hf, bnd_s]
  · unfold m_Mod_scatterOf
    rw [m1, bnd_s]
    dsimp only
    rw [e2, bnd_s]
    dsimp only
    rw [pM_extents nI hf, bnd_s, m3, bnd_s]
theorem steps_both {mz : Int → Int} {f : Int} (hI : Inv bt ow bl wr wa ki) (hD : Dsk vow vbt vki vpl vva vwr bt ow bl wr wa ki) (hf : 0 ≤ f ∧ f < 4) (g : TG) (sm sM mi mc : Int) :
    ∃ (n : Int) (t : TG) (x : MS), m_Mind_stepsOf f vow vbt vki vpl vva vwr g.1 g.2.1 g.2.2.1 g.2.2.2.1 g.2.2.2.2.1 g.2.2.2.2.2.1 g.2.2.2.2.2.2.1 g.2.2.2.2.2.2.2.1 g.2.2.2.2.2.2.2.2 = some (n, t) ∧ m_Mod_stepsOf f sm sM mi mc bt ow bl wr wa ki mz = some (n, x) ∧ SmT bt ow bl wr wa ki mz x ∧ 0 ≤ n ∧ n ≤ 99 := by
  obtain ⟨w', c1, c2⟩ := copied hI hD vki g.1 g.2.1 g.2.2.1 g.2.2.2.1 g.2.2.2.2.1 g.2.2.2.2.2.1
  obtain ⟨st, vow', vbt', vpl', vva', vwr', rm', rs', rz', bt', ow', bl', wr', wa', e1, e2, nI, nD, s0, -, s1, -⟩ := flush_both hI c2 hf (K := 1000) (M := 1000000) (Or.inr ⟨rfl, rfl⟩) g.2.2.2.2.2.2.1 g.2.2.2.2.2.2.2.1 g.2.2.2.2.2.2.2.2 sm sM
  obtain ⟨c, kp, m1, m2⟩ := minds_forgets mi mc bt ow bl wr wa ki mz
  obtain ⟨c2, b3, o3, l3, w3, t3, k3, m3, m4⟩ := m2 1 c bt' ow' bl' wr' wa' ki
  refine ⟨st, (vow', vbt', vki, vpl', vva', vwr', rm', rs', rz'), (st, 1000000, 0, c2, b3, o3, l3, w3, t3, k3, kp), ?_, ?_, m4, s0, s1⟩
  · unfold m_Mind_stepsOf
    rw [c1, bnd_s]
    dsimp only
    rw [e1, bnd_s]
  · unfold m_Mod_stepsOf
    rw [m1, bnd_s]
    dsimp only
    rw [e2, bnd_s]
    dsimp only
    rw [m3, bnd_s]
theorem pair_both {mz : Int → Int} {a b : Int} (hI : Inv bt ow bl wr wa ki) (hD : Dsk vow vbt vki vpl vva vwr bt ow bl wr wa ki) (ha : 0 ≤ a ∧ a < 4) (hb : 0 ≤ b ∧ b < 4) (g : TG) (sm sM mi mc : Int) :
    ∃ (n : Int) (t : TG) (x : MS), m_Mind_extentsOfPair a b vow vbt vki vpl vva vwr g.1 g.2.1 g.2.2.1 g.2.2.2.1 g.2.2.2.2.1 g.2.2.2.2.2.1 g.2.2.2.2.2.2.1 g.2.2.2.2.2.2.2.1 g.2.2.2.2.2.2.2.2 = some (n, t) ∧ m_Mod_extentsOfBoth a b sm sM mi mc bt ow bl wr wa ki mz = some (n, x) ∧ SmT bt ow bl wr wa ki mz x ∧ 0 ≤ n ∧ n ≤ 48 := by
  obtain ⟨w', c1, c2⟩ := copied hI hD vki g.1 g.2.1 g.2.2.1 g.2.2.2.1 g.2.2.2.2.1 g.2.2.2.2.2.1
  obtain ⟨st, vow', vbt', vpl', vva', vwr', rm', rs', rz', bt', ow', bl', wr', wa', e1, e2, nI, nD, -⟩ := flush_both hI c2 ha (K := 1000) (M := 1000000) (Or.inr ⟨rfl, rfl⟩) g.2.2.2.2.2.2.1 g.2.2.2.2.2.2.2.1 g.2.2.2.2.2.2.2.2 sm sM
  obtain ⟨st2, vow2, vbt2, vpl2, vva2, vwr2, rm2, rs2, rz2, bt2, ow2, bl2, wr2, wa2, f1, f2, pI, pD, -⟩ := flush_both nI nD hb (K := 1000) (M := 1000000) (Or.inr ⟨rfl, rfl⟩) rm' rs' rz' st 1000000
  obtain ⟨c, kp, m1, m2⟩ := minds_forgets mi mc bt ow bl wr wa ki mz
  obtain ⟨c2, b3, o3, l3, w3, t3, k3, m3, m4⟩ := m2 1 c bt2 ow2 bl2 wr2 wa2 ki
  have b1 := ext_bd (bl := bl2) (wr := wr2) (f := a)
  have b2 := ext_bd (bl := bl2) (wr := wr2) (f := b)
  refine ⟨ext bl2 wr2 a + ext bl2 wr2 b, (vow2, vbt2, vki, vpl2, vva2, vwr2, rm2, rs2, rz2), (st2, 1000000, 0, c2, b3, o3, l3, w3, t3, k3, kp), ?_, ?_, m4, by omega, by omega⟩
  · unfold m_Mind_extentsOfPair
    rw [c1, bnd_s]
    dsimp only
    rw [e1, bnd_s]
    dsimp only
    rw [f1, bnd_s]
    dsimp only
    rw [pD_extentsIn pI pD ha, bnd_s, pD_extentsIn pI pD hb, bnd_s]
  · unfold m_Mod_extentsOfBoth
    rw [m1, bnd_s]
    dsimp only
    rw [e2, bnd_s]
    dsimp only
    rw [f2, bnd_s]
    dsimp only
    rw [pM_extents pI ha, bnd_s, pM_extents pI hb, bnd_s, m3, bnd_s]
end MND
theorem uf_id {f : Int → Int} {k : Int} : uf f k (f k) = f := uf_same rfl
theorem e_scatter : E_scatter := by
  intro ik now nbt nki npl nva nwr kow kbt kki kpl kva kwr smn snu rmn rnu rf mr mb mo ml mw mt mk mp mq mz mh my mn tow tbt tki tpl tva twr trm trs trz sm sM mi mc x1 hR hx
  obtain ⟨hI, hD, hk, hk1, h5, h6, h7⟩ := id hR
  unfold m_Vol_scatter m_Mod_scatter
  rw [p_Vol_isFile hx, bnd_s, p_Mod_isFile hx, bnd_s, ceq_yn, ceq_yn]
  by_cases hf : 0 ≤ x1 ∧ x1 < 4
  · rw [if_pos hf, if_pos hf, p_kindAt hf, bnd_s]
    obtain ⟨n, t, x, e1, e2, e3, -⟩ := scatter_both (mz := mz) (nki := nki) (k := nki x1) hI (by rw [uf_id]; exact hD) hf (tow, tbt, tki, tpl, tva, twr, trm, trs, trz) sm sM mi mc
    rw [e1, e2, bnd_s, bnd_s]
    exact ⟨_, _, rfl, rfl, rfl, hR.sm e3⟩
  · rw [if_neg hf, if_neg hf, p_refuse (by omega), p_no (by omega), bnd_s, bnd_s]
    exact ⟨_, _, rfl, rfl, rfl, hR.no (-1) (by omega)⟩
theorem e_steps : E_steps := by
  intro ik now nbt nki npl nva nwr kow kbt kki kpl kva kwr smn snu rmn rnu rf mr mb mo ml mw mt mk mp mq mz mh my mn tow tbt tki tpl tva twr trm trs trz sm sM mi mc x1 hR hx
  obtain ⟨hI, hD, hk, hk1, h5, h6, h7⟩ := id hR
  unfold m_Vol_steps m_Mod_steps
  rw [p_Vol_isFile hx, bnd_s, p_Mod_isFile hx, bnd_s, ceq_yn, ceq_yn]
  by_cases hf : 0 ≤ x1 ∧ x1 < 4
  · rw [if_pos hf, if_pos hf]
    obtain ⟨n, t, x, e1, e2, e3, -⟩ := steps_both (mz := mz) hI hD hf (tow, tbt, tki, tpl, tva, twr, trm, trs, trz) sm sM mi mc
    rw [e1, e2, bnd_s, bnd_s]
    exact ⟨_, _, rfl, rfl, rfl, hR.sm e3⟩
  · rw [if_neg hf, if_neg hf, p_refuse (by omega), p_no (by omega), bnd_s, bnd_s]
    exact ⟨_, _, rfl, rfl, rfl, hR.no (-1) (by omega)⟩
theorem p_areTwo {a b : Int} (ha : -2147483648 ≤ a ∧ a < 2147483648) (hb : -2147483648 ≤ b ∧ b < 2147483648) : m_Mod_areTwo a b = some (if (0 ≤ a ∧ a < 4) ∧ (0 ≤ b ∧ b < 4) ∧ a ≠ b then 1 else 0) := by
  unfold m_Mod_areTwo
  rw [p_Mod_isFile ha, bnd_s, ceq_yn]
  by_cases h1 : 0 ≤ a ∧ a < 4
  · rw [if_pos h1, p_Mod_isFile hb, bnd_s, ceq_yn]
    by_cases h2 : 0 ≤ b ∧ b < 4
    · rw [if_pos h2]
      by_cases h3 : a = b
      · rw [ceq_t (by omega), if_neg (fun q => q.2.2 h3)]
      · rw [ceq_f (by omega), if_pos ⟨h1, h2, h3⟩]
    · rw [if_neg h2, if_neg (fun q => h2 q.2.1)]
  · rw [if_neg h1, if_neg (fun q => h1 q.1)]
theorem e_first : E_first := by
  intro ik now nbt nki npl nva nwr kow kbt kki kpl kva kwr smn snu rmn rnu rf mr mb mo ml mw mt mk mp mq mz mh my mn tow tbt tki tpl tva twr trm trs trz sm sM mi mc x1 x2 hR hx hx2
  obtain ⟨hI, hD, hk, hk1, h5, h6, h7⟩ := id hR
  unfold m_Vol_first m_Mod_first
  simp only [jn_s]
  rw [p_Vol_isFile hx, bnd_s, ceq_yn, p_areTwo hx hx2, bnd_s, ceq_yn]
  by_cases ha : 0 ≤ x1 ∧ x1 < 4
  · rw [if_pos ha, p_Vol_isFile hx2, bnd_s, ceq_yn]
    by_cases hb : 0 ≤ x2 ∧ x2 < 4
    · rw [if_pos hb]
      by_cases hne : x1 = x2
      · rw [ceq_t (by omega), if_neg (fun q => q.2.2 hne), p_refuse (by omega), p_no (by omega), bnd_s, bnd_s]
        exact ⟨_, _, rfl, rfl, rfl, hR.no (-1) (by omega)⟩
      · rw [ceq_f (by omega), if_pos ⟨ha, hb, hne⟩]
        obtain ⟨n, t, x, e1, e2, e3, n0, n1⟩ := pair_both (mz := mz) hI hD ha hb (tow, tbt, tki, tpl, tva, twr, trm, trs, trz) sm sM mi mc
        obtain ⟨n', t', x', f1, f2, f3, p0, p1⟩ := pair_both (mz := x.2.2.2.2.2.2.2.2.2.2) (e3.inv hI) (e3.dsk hD) hb ha t x.1 x.2.1 x.2.2.1 x.2.2.2.1
        rw [e1, e2, bnd_s, bnd_s]
        dsimp only
        rw [f1, f2, bnd_s, bnd_s]
        dsimp only
        by_cases c : n = n'
        · rw [ceq_t (by omega), clt_f (by omega), cle_t (by omega)]
          exact ⟨_, _, rfl, rfl, rfl, hR.sm (e3.tr f3)⟩
        · rw [ceq_f (by omega)]
          by_cases c2 : n < n'
          · rw [clt_t (by omega), clt_t (by omega)]
            exact ⟨_, _, rfl, rfl, rfl, hR.sm (e3.tr f3)⟩
          · rw [clt_f (by omega), clt_f (by omega), cle_f (by omega)]
            exact ⟨_, _, rfl, rfl, rfl, hR.sm (e3.tr f3)⟩
    · rw [if_neg hb, if_neg (fun q => hb q.2.1), p_refuse (by omega), p_no (by omega), bnd_s, bnd_s]
      exact ⟨_, _, rfl, rfl, rfl, hR.no (-1) (by omega)⟩
  · rw [if_neg ha, if_neg (fun q => ha q.1), p_refuse (by omega), p_no (by omega), bnd_s, bnd_s]
    exact ⟨_, _, rfl, rfl, rfl, hR.no (-1) (by omega)⟩
