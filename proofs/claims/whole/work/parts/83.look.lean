/-! calls that look something up -/
theorem e_kind : E_kind := by
  intro ik now nbt nki npl nva nwr kow kbt kki kpl kva kwr smn snu rmn rnu rf mr mb mo ml mw mt mk mp mq mz mh my mn x1 x2 hR hx hy
  obtain ⟨hI, hD, hik, hkp, hrf, hlt, hrw⟩ := hR
  have bad : ∀ k : Int, (k = -1 ∨ k = -2) → (m_Vol_kind x1 x2 nki rf = some (k, nki, uf rf (-k) (rf (-k) + 1))) → (m_Mod_kind x1 x2 mr mk = some (k, uf mr (-k) (mr (-k) + 1), mk)) → ∃ (o : Int × (Int → Int) × (Int → Int)) (u : Int × (Int → Int) × (Int → Int)), m_Vol_kind x1 x2 nki rf = some o ∧ m_Mod_kind x1 x2 mr mk = some u ∧ o.1 = u.1 ∧ Rel ik now nbt o.2.1 npl nva nwr kow kbt kki kpl kva kwr smn snu rmn rnu o.2.2 u.2.1 mb mo ml mw mt u.2.2 mp mq mz mh my mn :=
    fun k hk h1 h2 => ⟨_, _, h1, h2, rfl, hI, hD, hik, hkp, hrf.bump (by omega), hlt, hrw⟩
  by_cases h1 : 0 ≤ x1 ∧ x1 < 4
  · by_cases h2 : 0 ≤ x2 ∧ x2 ≤ 5
    · have hV : m_Vol_kind x1 x2 nki rf = some (nki x1, uf nki x1 x2, rf) := by
        unfold m_Vol_kind
        simp only [jn_s]
        rw [p_Vol_isFile (by omega), bnd_s, if_pos h1, ceq_f (by omega), clt_f (by omega), clt_t (by omega), p_kindAt h1, bnd_s, p_turnKind h1, bnd_s]
      have hM : m_Mod_kind x1 x2 mr mk = some (mk x1, mr, uf mk x1 x2) := by
        unfold m_Mod_kind
        simp only [jn_s]
        rw [p_Mod_isFile (by omega), bnd_s, if_pos h1, ceq_f (by omega), p_Mod_isIn (by omega) (by omega) (by omega), bnd_s, if_pos h2, ceq_f (by omega), ceq_t (by omega), gd_x (by omega), gd_x (by omega)]
      obtain ⟨i1, i2, i3, i4, i5, i6, i7, i8⟩ := hI
      obtain ⟨d1, d2, d3, d4, d5, d6⟩ := hD
      refine ⟨_, _, hV, hM, d3 x1 h1.1 h1.2, ⟨i1, i2, i3, i4, i5, fun f h0 h3 => ?_, i7, i8⟩, ⟨d1, d2, fun f h0 h3 => ?_, d4, d5, d6⟩, hik, hkp, hrf, hlt, hrw⟩
      · show 0 ≤ uf mk x1 x2 f ∧ uf mk x1 x2 f ≤ 5
        by_cases hf : f = x1
        · subst hf
          rw [uf_s]
          exact h2
        · rw [uf_n hf]
          exact i6 f h0 h3
      · show uf nki x1 x2 f = uf mk x1 x2 f
        by_cases hf : f = x1
        · subst hf
          rw [uf_s, uf_s]
        · rw [uf_n hf, uf_n hf]
          exact d3 f h0 h3
    · refine bad (-2) (by omega) ?_ ?_
      · unfold m_Vol_kind
        simp only [jn_s]
        rw [p_Vol_isFile (by omega), bnd_s, if_pos h1, ceq_f (by omega)]
        by_cases h3 : x2 < 0
        · rw [clt_t (by omega), p_refuse (by omega), bnd_s]
        · rw [clt_f (by omega), clt_f (by omega), p_refuse (by omega), bnd_s]
      · unfold m_Mod_kind
        simp only [jn_s]
        rw [p_Mod_isFile (by omega), bnd_s, if_pos h1, ceq_f (by omega), p_Mod_isIn (by omega) (by omega) (by omega), bnd_s, if_neg h2, ceq_t (by omega), ceq_f (by omega), p_no (by omega), bnd_s]
  · refine bad (-1) (by omega) ?_ ?_
    · unfold m_Vol_kind
      simp only [jn_s]
      rw [p_Vol_isFile (by omega), bnd_s, if_neg h1, ceq_t (by omega), p_refuse (by omega), bnd_s]
    · unfold m_Mod_kind
      simp only [jn_s]
      rw [p_Mod_isFile (by omega), bnd_s, if_neg h1, ceq_t (by omega), ceq_f (by omega), p_no (by omega), bnd_s]
