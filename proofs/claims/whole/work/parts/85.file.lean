/-! file, says -/
theorem e_file : E_file := by
  intro ik now nbt nki npl nva nwr kow kbt kki kpl kva kwr smn snu rmn rnu rf mr mb mo ml mw mt mk mp mq mz mh my mn x1 x2 hR hx hy
  have hI := hR.1
  have hD := hR.2.1
  by_cases h1 : 0 ≤ x1 ∧ x1 < 4
  · have good : ∀ v : Int, m_Vol_file x1 x2 nki npl nva nwr rf = some (v, rf) → m_Mod_file x1 x2 mr ml mw mt mk = some (v, mr) → ∃ (o : Int × (Int → Int)) (u : Int × (Int → Int)), m_Vol_file x1 x2 nki npl nva nwr rf = some o ∧ m_Mod_file x1 x2 mr ml mw mt mk = some u ∧ o.1 = u.1 ∧ Rel ik now nbt nki npl nva nwr kow kbt kki kpl kva kwr smn snu rmn rnu o.2 u.2 mb mo ml mw mt mk mp mq mz mh my mn :=
      fun v h2 h3 => ⟨_, _, h2, h3, rfl, hR⟩
    have he := ext_bd (bl := ml) (wr := mw) (f := x1)
    by_cases c0 : x2 = 0
    · refine good (mk x1) ?_ ?_
      · unfold m_Vol_file
        rw [p_Vol_isFile (by omega), bnd_s, if_pos h1, ceq_f (by omega), ceq_t (by omega), p_kindAt h1, bnd_s, hD.2.2.1 x1 h1.1 h1.2]
      · unfold m_Mod_file
        rw [p_Mod_isFile (by omega), bnd_s, if_pos h1, ceq_f (by omega), ceq_t (by omega), gd_x (by omega)]
    · by_cases c1 : x2 = 1
      · refine good (cn (fun p => 0 ≤ ml (24 * x1 + p)) 24) ?_ ?_
        · unfold m_Vol_file
          rw [p_Vol_isFile (by omega), bnd_s, if_pos h1, ceq_f (by omega), ceq_f (by omega), ceq_t (by omega), pD_placedIn hI hD h1, bnd_s]
        · unfold m_Mod_file
          rw [p_Mod_isFile (by omega), bnd_s, if_pos h1, ceq_f (by omega), ceq_f (by omega), ceq_t (by omega), pM_placedOf hI h1, bnd_s]
      · by_cases c2 : x2 = 2
        · refine good (cn (fun p => 0 ≤ mt (24 * x1 + p)) 24) ?_ ?_
          · unfold m_Vol_file
            rw [p_Vol_isFile (by omega), bnd_s, if_pos h1, ceq_f (by omega), ceq_f (by omega), ceq_f (by omega), ceq_t (by omega), pD_waitingIn hI hD h1, bnd_s]
          · unfold m_Mod_file
            rw [p_Mod_isFile (by omega), bnd_s, if_pos h1, ceq_f (by omega), ceq_f (by omega), ceq_f (by omega), ceq_t (by omega), pM_waitingOf hI h1, bnd_s]
        · by_cases c3 : x2 = 3
          · refine good (cn (fun p => ml (24 * x1 + p) < 0 ∧ 0 ≤ mt (24 * x1 + p)) 24) ?_ ?_
            · unfold m_Vol_file
              rw [p_Vol_isFile (by omega), bnd_s, if_pos h1, ceq_f (by omega), ceq_f (by omega), ceq_f (by omega), ceq_f (by omega), ceq_t (by omega), pD_promisedIn hI hD h1, bnd_s]
            · unfold m_Mod_file
              rw [p_Mod_isFile (by omega), bnd_s, if_pos h1, ceq_f (by omega), ceq_f (by omega), ceq_f (by omega), ceq_f (by omega), ceq_t (by omega), pM_toPlaceOf hI h1, bnd_s]
          · by_cases c4 : x2 = 4
            · refine good (ext ml mw x1) ?_ ?_
              · unfold m_Vol_file
                rw [p_Vol_isFile (by omega), bnd_s, if_pos h1, ceq_f (by omega), ceq_f (by omega), ceq_f (by omega), ceq_f (by omega), ceq_f (by omega), ceq_t (by omega), pD_extentsIn hI hD h1, bnd_s]
              · unfold m_Mod_file
                rw [p_Mod_isFile (by omega), bnd_s, if_pos h1, ceq_f (by omega), ceq_f (by omega), ceq_f (by omega), ceq_f (by omega), ceq_f (by omega), ceq_t (by omega), pM_extents hI h1, bnd_s]
            · by_cases c5 : x2 = 5
              · have hd : ∃ d : Int, m_Vol_depthOf (ext ml mw x1) = some d ∧ m_Mod_depthOf (ext ml mw x1) = some d := by
                  unfold m_Vol_depthOf m_Mod_depthOf
                  by_cases q1 : ext ml mw x1 ≤ 4
                  · exact ⟨0, cle_t (by omega), cle_t (by omega)⟩
                  · by_cases q2 : ext ml mw x1 ≤ 16
                    · exact ⟨1, (cle_f (by omega)).trans (cle_t (by omega)), (cle_f (by omega)).trans (cle_t (by omega))⟩
                    · exact ⟨2, (cle_f (by omega)).trans (cle_f (by omega)), (cle_f (by omega)).trans (cle_f (by omega))⟩
                obtain ⟨d, e1, e2⟩ := hd
                refine good d ?_ ?_
                · unfold m_Vol_file
                  rw [p_Vol_isFile (by omega), bnd_s, if_pos h1, ceq_f (by omega), ceq_f (by omega), ceq_f (by omega), ceq_f (by omega), ceq_f (by omega), ceq_f (by omega), ceq_t (by omega), pD_extentsIn hI hD h1, bnd_s, e1, bnd_s]
                · unfold m_Mod_file
                  rw [p_Mod_isFile (by omega), bnd_s, if_pos h1, ceq_f (by omega), ceq_f (by omega), ceq_f (by omega), ceq_f (by omega), ceq_f (by omega), ceq_f (by omega), ceq_t (by omega), pM_extents hI h1, bnd_s, e2, bnd_s]
              · by_cases c6 : x2 = 6
                · refine good (cn (fun p => mw (24 * x1 + p) = 1) 24) ?_ ?_
                  · unfold m_Vol_file
                    rw [p_Vol_isFile (by omega), bnd_s, if_pos h1, ceq_f (by omega), ceq_f (by omega), ceq_f (by omega), ceq_f (by omega), ceq_f (by omega), ceq_f (by omega), ceq_f (by omega), ceq_t (by omega), pD_writtenIn hI hD h1, bnd_s]
                  · unfold m_Mod_file
                    rw [p_Mod_isFile (by omega), bnd_s, if_pos h1, ceq_f (by omega), ceq_f (by omega), ceq_f (by omega), ceq_f (by omega), ceq_f (by omega), ceq_f (by omega), ceq_f (by omega), ceq_t (by omega), pM_writtenOf hI h1, bnd_s]
                · refine ⟨(-2, uf rf (- -2) (rf (- -2) + 1)), (-2, uf mr (- -2) (mr (- -2) + 1)), ?_, ?_, rfl, hR.no (-2) (by omega)⟩
                  · unfold m_Vol_file
                    rw [p_Vol_isFile (by omega), bnd_s, if_pos h1, ceq_f (by omega), ceq_f (by omega), ceq_f (by omega), ceq_f (by omega), ceq_f (by omega), ceq_f (by omega), ceq_f (by omega), ceq_f (by omega), p_refuse (by omega), bnd_s]
                  · unfold m_Mod_file
                    rw [p_Mod_isFile (by omega), bnd_s, if_pos h1, ceq_f (by omega), ceq_f (by omega), ceq_f (by omega), ceq_f (by omega), ceq_f (by omega), ceq_f (by omega), ceq_f (by omega), ceq_f (by omega), p_no (by omega), bnd_s]
  · refine ⟨(-1, uf rf (- -1) (rf (- -1) + 1)), (-1, uf mr (- -1) (mr (- -1) + 1)), ?_, ?_, rfl, hR.no (-1) (by omega)⟩
    · unfold m_Vol_file
      rw [p_Vol_isFile (by omega), bnd_s, if_neg h1, ceq_t (by omega), p_refuse (by omega), bnd_s]
    · unfold m_Mod_file
      rw [p_Mod_isFile (by omega), bnd_s, if_neg h1, ceq_t (by omega), p_no (by omega), bnd_s]
theorem e_says : E_says := by
  intro ik now nbt nki npl nva nwr kow kbt kki kpl kva kwr smn snu rmn rnu rf mr mb mo ml mw mt mk mp mq mz mh my mn x1 x2 x3 hR hx hy hz
  have hI := hR.1
  have hD := hR.2.1
  have bad : ∀ k : Int, (k = -1 ∨ k = -4 ∨ k = -6) → m_Vol_says x1 x2 x3 now nbt npl nva nwr rf = some (k, nva, uf rf (-k) (rf (-k) + 1)) → m_Mod_says x1 x2 x3 mr mb mo ml mw mt = some (k, uf mr (-k) (mr (-k) + 1), mt) → ∃ (o : Int × (Int → Int) × (Int → Int)) (u : Int × (Int → Int) × (Int → Int)), m_Vol_says x1 x2 x3 now nbt npl nva nwr rf = some o ∧ m_Mod_says x1 x2 x3 mr mb mo ml mw mt = some u ∧ o.1 = u.1 ∧ Rel ik now nbt nki npl o.2.1 nwr kow kbt kki kpl kva kwr smn snu rmn rnu o.2.2 u.2.1 mb mo ml mw u.2.2 mk mp mq mz mh my mn :=
    fun k hk h1 h2 => ⟨_, _, h1, h2, rfl, hR.no k (by omega)⟩
  by_cases h1 : 0 ≤ x1 ∧ x1 < 4
  · by_cases h2 : 0 ≤ x2 ∧ x2 < 24
    · by_cases h3 : x3 < 0
      · refine bad (-4) (by omega) ?_ ?_
        · unfold m_Vol_says
          simp only [jn_s]
          rw [p_Vol_isFile (by omega), bnd_s, if_pos h1, ceq_f (by omega), p_Vol_isPage (by omega), bnd_s, if_pos h2, ceq_f (by omega), clt_t (by omega), p_refuse (by omega), bnd_s]
        · unfold m_Mod_says
          simp only [jn_s]
          rw [p_Mod_isFile (by omega), bnd_s, if_pos h1, ceq_f (by omega), p_Mod_isPage (by omega), bnd_s, if_pos h2, ceq_f (by omega), p_Mod_bound (by omega) (by omega) (by omega), bnd_s, if_pos h3, ceq_f (by omega), ceq_f (by omega), p_no (by omega), bnd_s]
      · by_cases h4 : 99 < x3
        · refine bad (-6) (by omega) ?_ ?_
          · unfold m_Vol_says
            simp only [jn_s]
            rw [p_Vol_isFile (by omega), bnd_s, if_pos h1, ceq_f (by omega), p_Vol_isPage (by omega), bnd_s, if_pos h2, ceq_f (by omega), clt_f (by omega), p_Disk_readAt hI hD h1 h2, bnd_s, cle_f (by omega), p_refuse (by omega), bnd_s]
          · unfold m_Mod_says
            simp only [jn_s]
            rw [p_Mod_isFile (by omega), bnd_s, if_pos h1, ceq_f (by omega), p_Mod_isPage (by omega), bnd_s, if_pos h2, ceq_f (by omega), p_Mod_bound (by omega) (by omega) (by omega), bnd_s, if_neg h3, if_neg (by omega), ceq_f (by omega), ceq_f (by omega), p_no (by omega), bnd_s]
        · by_cases h5 : ¬ (ml (24 * x1 + x2) < 0 ∧ mt (24 * x1 + x2) < 0) ∨ 1 ≤ rom mo ml mt
          · refine ⟨(rdv mb ml mw mt (24 * x1 + x2), uf nva (24 * x1 + x2) x3, rf), (rdv mb ml mw mt (24 * x1 + x2), mr, uf mt (24 * x1 + x2) x3), ?_, ?_, rfl, hI.say (by omega) (by omega) h5, hD.say (by omega), hR.2.2⟩
            · unfold m_Vol_says
              simp only [jn_s]
              rw [p_Vol_isFile (by omega), bnd_s, if_pos h1, ceq_f (by omega), p_Vol_isPage (by omega), bnd_s, if_pos h2, ceq_f (by omega), clt_f (by omega), p_Disk_readAt hI hD h1 h2, bnd_s, cle_t (by omega), pD_sayAt hI hD h1 h2, bnd_s, if_pos h5, ceq_f (by omega)]
            · unfold m_Mod_says
              simp only [jn_s]
              rw [p_Mod_isFile (by omega), bnd_s, if_pos h1, ceq_f (by omega), p_Mod_isPage (by omega), bnd_s, if_pos h2, ceq_f (by omega), p_Mod_bound (by omega) (by omega) (by omega), bnd_s, if_neg h3, if_pos (by omega), ceq_t (by omega), pM_canSay hI (by omega), bnd_s, if_pos h5, ceq_f (by omega), ceq_t (by omega), p_Mod_readAt hI (by omega), bnd_s]
              unfold m_Mod_saysAt
              rw [gd_x (by omega), bnd_s]
          · refine bad (-6) (by omega) ?_ ?_
            · unfold m_Vol_says
              simp only [jn_s]
              rw [p_Vol_isFile (by omega), bnd_s, if_pos h1, ceq_f (by omega), p_Vol_isPage (by omega), bnd_s, if_pos h2, ceq_f (by omega), clt_f (by omega), p_Disk_readAt hI hD h1 h2, bnd_s, cle_t (by omega), pD_sayAt hI hD h1 h2, bnd_s, if_neg h5, ceq_t (by omega), p_refuse (by omega), bnd_s]
            · unfold m_Mod_says
              simp only [jn_s]
              rw [p_Mod_isFile (by omega), bnd_s, if_pos h1, ceq_f (by omega), p_Mod_isPage (by omega), bnd_s, if_pos h2, ceq_f (by omega), p_Mod_bound (by omega) (by omega) (by omega), bnd_s, if_neg h3, if_pos (by omega), ceq_t (by omega), pM_canSay hI (by omega), bnd_s, if_neg h5, ceq_t (by omega), ceq_f (by omega), p_no (by omega), bnd_s]
    · refine bad (-1) (by omega) ?_ ?_
      · unfold m_Vol_says
        simp only [jn_s]
        rw [p_Vol_isFile (by omega), bnd_s, if_pos h1, ceq_f (by omega), p_Vol_isPage (by omega), bnd_s, if_neg h2, ceq_t (by omega), p_refuse (by omega), bnd_s]
      · unfold m_Mod_says
        simp only [jn_s]
        rw [p_Mod_isFile (by omega), bnd_s, if_pos h1, ceq_f (by omega), p_Mod_isPage (by omega), bnd_s, if_neg h2, ceq_t (by omega), ceq_f (by omega), ceq_f (by omega), p_no (by omega), bnd_s]
  · refine bad (-1) (by omega) ?_ ?_
    · unfold m_Vol_says
      simp only [jn_s]
      rw [p_Vol_isFile (by omega), bnd_s, if_neg h1, ceq_t (by omega), p_refuse (by omega), bnd_s]
    · unfold m_Mod_says
      simp only [jn_s]
      rw [p_Mod_isFile (by omega), bnd_s, if_neg h1, ceq_t (by omega), ceq_f (by omega), ceq_f (by omega), p_no (by omega), bnd_s]
