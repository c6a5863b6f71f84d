/-! most, stale -/
theorem e_most : E_most := by
  intro ik now nbt nki npl nva nwr kow kbt kki kpl kva kwr smn snu rmn rnu rf mr mb mo ml mw mt mk mp mq mz mh my mn x1 hR hx
  have hI := hR.1
  have hD := hR.2.1
  by_cases h1 : 0 ≤ x1 ∧ x1 < 4
  · have hr := rom_bd hI
    have hh : 0 ≤ hol ml mt (24 * x1 + 0) 24 ∧ hol ml mt (24 * x1 + 0) 24 ≤ 24 := cn_bd _ 24
    have e1 := pM_holes hI (f := x1) (p := 0) (n := 24) h1 (by omega)
    have e2 := pD_holes hI hD (f := x1) (p := 0) (n := 24) h1 (by omega)
    have e3 : m_Mod_holesAmong x1 0 24 ml mt = some (hol ml mt (24 * x1 + 0) 24) := e1
    have e4 : m_Disk_holesAmong x1 0 24 npl nva = some (hol ml mt (24 * x1 + 0) 24) := e2
    refine ⟨(min (hol ml mt (24 * x1 + 0) 24) (rom mo ml mt), rf), (min (hol ml mt (24 * x1 + 0) 24) (rom mo ml mt), mr), ?_, ?_, rfl, hR⟩
    · unfold m_Vol_most
      rw [p_Vol_isFile (by omega), bnd_s, if_pos h1, ceq_f (by omega), e4, bnd_s, pD_room hI hD, bnd_s, gd_rr (by omega)]
    · unfold m_Mod_most
      rw [p_Mod_isFile (by omega), bnd_s, if_pos h1, ceq_f (by omega), e3, bnd_s, pM_room hI, bnd_s]
      by_cases h : hol ml mt (24 * x1 + 0) 24 < rom mo ml mt
      · rw [clt_t (by omega), show min (hol ml mt (24 * x1 + 0) 24) (rom mo ml mt) = hol ml mt (24 * x1 + 0) 24 by omega]
      · rw [clt_f (by omega), bnd_s, show min (hol ml mt (24 * x1 + 0) 24) (rom mo ml mt) = rom mo ml mt by omega]
  · refine ⟨(-1, uf rf (- -1) (rf (- -1) + 1)), (-1, uf mr (- -1) (mr (- -1) + 1)), ?_, ?_, rfl, hR.no (-1) (by omega)⟩
    · unfold m_Vol_most
      rw [p_Vol_isFile (by omega), bnd_s, if_neg h1, ceq_t (by omega), p_refuse (by omega), bnd_s]
    · unfold m_Mod_most
      rw [p_Mod_isFile (by omega), bnd_s, if_neg h1, ceq_t (by omega), p_no (by omega), bnd_s]
