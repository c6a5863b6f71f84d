/-! e_image, e_on -/
theorem Sec.z (kp : Int → Int) (o : Int) : Sec kp (420 * 0 + o) = Sec kp o := by
  rw [show (420 * 0 + o : Int) = o by omega]
theorem e_image : E_image := by
  intro ik now nbt nki npl nva nwr kow kbt kki kpl kva kwr smn snu rmn rnu rf mr mb mo ml mw mt mk mp mq mz mh my mn mi mc hR
  obtain ⟨hI, hD, hk, hk1, h5, h6, h7⟩ := hR
  obtain ⟨d1, d2, d3, d4, d5, d6⟩ := id hD
  obtain ⟨w', e1, e2⟩ := pD_copy (a := kow) (b := kbt) (c := kki) (d := kpl) (e := kva) (w := kwr) (qa := now) (qb := nbt) (qc := nki) (qd := npl) (qe := nva) (qw := nwr) (fun j h0 h1 => by rw [d6 j h0 h1]; exact ((Inv.at hI).2 j h0 h1).2.2)
  obtain ⟨kp', cu', f1, ⟨g1, g2, g3, g4, g5, g6⟩, -⟩ := keepAll 0 mi mc mb mo ml mw mt mk mz (by omega)
  rw [Sec.z] at g1 g2 g3 g4 g5 g6
  refine ⟨(cn (fun b => mo b < 0) 64, 1, now, nbt, nki, npl, nva, w'), (cn (fun b => mo b < 0) 64, 1, 1, cu', mb, mo, ml, mw, mt, mk, kp'), ?_, ?_, rfl, hI, hD, ⟨rfl, Or.inr rfl⟩, fun _ => ⟨hI.congr g1 g2 g3 g4 g5 g6, hD.congr g1 g2 g3 g4 g5 g6 QE.rf QE.rf QE.rf e2 QE.rf QE.rf⟩, h5, h6, h7⟩
  · unfold m_Vol_image
    rw [e1, bnd_s, pD_free hI hD, bnd_s]
  · unfold m_Mod_image
    rw [f1, bnd_s, pM_free hI, bnd_s]
theorem e_on : E_on := by
  intro ik now nbt nki npl nva nwr kow kbt kki kpl kva kwr smn snu rmn rnu rf mr mb mo ml mw mt mk mp mq mz mh my mn mi mc hR
  obtain ⟨hI, hD, hk, hk1, h5, h6, h7⟩ := id hR
  unfold m_Vol_on m_Mod_on
  obtain ⟨hk0, hk2⟩ := hk
  subst hk0
  by_cases h1 : ik = 0
  · rw [ceq_t (by omega), ceq_t (by omega), p_refuse (by omega), p_no (by omega), bnd_s, bnd_s]
    exact ⟨(-3, now, nbt, nki, npl, nva, nwr, uf rf (- -3) (rf (- -3) + 1)), (-3, mi, mc, uf mr (- -3) (mr (- -3) + 1), mb, mo, ml, mw, mt, mk, mz), rfl, rfl, rfl, hR.no (-3) (by omega)⟩
  · rw [ceq_f (by omega), ceq_f (by omega)]
    obtain ⟨jI, jD⟩ := hk1 (by omega)
    obtain ⟨c1, c2, c3, c4, c5, c6⟩ := id jD
    obtain ⟨w', e1, e2⟩ := pD_copy (a := now) (b := nbt) (c := nki) (d := npl) (e := nva) (w := nwr) (qa := kow) (qb := kbt) (qc := kki) (qd := kpl) (qe := kva) (qw := kwr) (fun j h0 h1 => by rw [c6 j h0 h1]; exact ((Inv.at jI).2 j h0 h1).2.2)
    obtain ⟨cu', bt', ow', bl', wr', wa', ki', f1, ⟨g1, g2, g3, g4, g5, g6⟩⟩ := bringAll 0 mi mc mb mo ml mw mt mk mz (by omega)
    rw [Sec.z] at g1 g2 g3 g4 g5 g6
    have nI := jI.congr g1 g2 g3 g4 g5 g6
    have nD := jD.congr g1 g2 g3 g4 g5 g6 (wow := kow) (wbt := kbt) (wki := kki) (wpl := kpl) (wva := kva) (wwr := w') QE.rf QE.rf QE.rf e2 QE.rf QE.rf
    refine ⟨(cn (fun b => ow' b < 0) 64, kow, kbt, kki, kpl, kva, w', rf), (cn (fun b => ow' b < 0) 64, 0, cu', mr, bt', ow', bl', wr', wa', ki', mz), ?_, ?_, rfl, nI, nD, ⟨rfl, hk2⟩, hk1, h5, h6, h7⟩
    · rw [e1, bnd_s, pD_free nI nD, bnd_s]
    · rw [f1, bnd_s, pM_free nI, bnd_s]
