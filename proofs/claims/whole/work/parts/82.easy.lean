/-! the calls that need little -/
theorem e_letter : E_letter := by
  intro ik now nbt nki npl nva nwr kow kbt kki kpl kva kwr smn snu rmn rnu rf mr mb mo ml mw mt mk mp mq mz mh my mn x1 hR hx
  obtain ⟨hI, hD, hik, hkp, hrf, ⟨rfl, hl0, hl1, hl⟩, hrw⟩ := hR
  have bad : ∀ k : Int, (k = -4 ∨ k = -6) → (m_Vol_letter x1 smn snu rf = some (k, smn, snu, uf rf (-k) (rf (-k) + 1))) → (m_Mod_letter x1 smn mr mp = some (k, smn, uf mr (-k) (mr (-k) + 1), mp)) → ∃ (o : Int × Int × (Int → Int) × (Int → Int)) (u : Int × Int × (Int → Int) × (Int → Int)), m_Vol_letter x1 smn snu rf = some o ∧ m_Mod_letter x1 smn mr mp = some u ∧ o.1 = u.1 ∧ Rel ik now nbt nki npl nva nwr kow kbt kki kpl kva kwr o.2.1 o.2.2.1 rmn rnu o.2.2.2 u.2.2.1 mb mo ml mw mt mk u.2.2.2 u.2.1 mz mh my mn :=
    fun k hk h1 h2 => ⟨_, _, h1, h2, rfl, hI, hD, hik, hkp, hrf.bump (by omega), ⟨rfl, hl0, hl1, hl⟩, hrw⟩
  by_cases h1 : x1 < 0
  · refine bad (-4) (by omega) ?_ ?_
    · unfold m_Vol_letter
      rw [clt_t (by omega), p_refuse (by omega), bnd_s]
    · unfold m_Mod_letter
      simp only [jn_s]
      rw [p_Mod_bound (by omega) (by omega) (by omega), bnd_s, if_pos h1, ceq_f (by omega), ceq_f (by omega), p_no (by omega), bnd_s]
  · by_cases h2 : 255 < x1
    · refine bad (-6) (by omega) ?_ ?_
      · unfold m_Vol_letter
        simp only [jn_s]
        rw [clt_f (by omega), cle_f (by omega), p_refuse (by omega), bnd_s]
      · unfold m_Mod_letter
        simp only [jn_s]
        rw [p_Mod_bound (by omega) (by omega) (by omega), bnd_s, if_neg h1, if_neg (by omega), ceq_f (by omega), ceq_f (by omega), p_no (by omega), bnd_s]
    · by_cases h3 : smn = 96
      · refine bad (-6) (by omega) ?_ ?_
        · unfold m_Vol_letter m_Row_isFull_W96
          simp only [jn_s]
          rw [clt_f (by omega), cle_t (by omega), clt_f (by omega), bnd_s, ceq_f (by omega), p_refuse (by omega), bnd_s]
        · unfold m_Mod_letter
          simp only [jn_s]
          rw [p_Mod_bound (by omega) (by omega) (by omega), bnd_s, if_neg h1, if_pos (by omega), ceq_t (by omega), ceq_t (by omega), ceq_f (by omega), p_no (by omega), bnd_s]
      · have hV : m_Vol_letter x1 smn snu rf = some (smn + 1, smn + 1, uf snu smn x1, rf) := by
          unfold m_Vol_letter m_Row_isFull_W96 m_Row_add_W96
          simp only [jn_s]
          rw [clt_f (by omega), cle_t (by omega), clt_t (by omega), bnd_s, ceq_t (by omega), clt_f (by omega), clt_t (by omega), gd_x (by omega), bnd_s]
        have hM : m_Mod_letter x1 smn mr mp = some (smn + 1, smn + 1, mr, uf mp smn x1) := by
          unfold m_Mod_letter
          simp only [jn_s]
          rw [p_Mod_bound (by omega) (by omega) (by omega), bnd_s, if_neg h1, if_pos (by omega), ceq_t (by omega), ceq_f (by omega), ceq_t (by omega), gd_x (by omega)]
        refine ⟨_, _, hV, hM, rfl, hI, hD, hik, hkp, hrf, ⟨rfl, by show 0 ≤ smn + 1; omega, by show smn + 1 ≤ 96; omega, ?_⟩, hrw⟩
        intro j h0 hj
        show uf snu smn x1 j = uf mp smn x1 j ∧ 0 ≤ uf mp smn x1 j ∧ uf mp smn x1 j ≤ 255
        have hj' : j < smn + 1 := hj
        by_cases hjs : j = smn
        · subst hjs
          rw [uf_s, uf_s]
          omega
        · rw [uf_n hjs, uf_n hjs]
          exact hl j h0 (by omega)
theorem e_row : E_row := by
  intro ik now nbt nki npl nva nwr kow kbt kki kpl kva kwr smn snu rmn rnu rf mr mb mo ml mw mt mk mp mq mz mh my mn x1 hR hx
  obtain ⟨hI, hD, hik, hkp, hrf, hlt, ⟨rfl, hl0, hl1, hl⟩⟩ := hR
  have bad : ∀ k : Int, (k = -4 ∨ k = -6) → (m_Vol_row x1 rmn rnu rf = some (k, rmn, rnu, uf rf (-k) (rf (-k) + 1))) → (m_Mod_row x1 rmn mr my = some (k, rmn, uf mr (-k) (mr (-k) + 1), my)) → ∃ (o : Int × Int × (Int → Int) × (Int → Int)) (u : Int × Int × (Int → Int) × (Int → Int)), m_Vol_row x1 rmn rnu rf = some o ∧ m_Mod_row x1 rmn mr my = some u ∧ o.1 = u.1 ∧ Rel ik now nbt nki npl nva nwr kow kbt kki kpl kva kwr smn snu o.2.1 o.2.2.1 o.2.2.2 u.2.2.1 mb mo ml mw mt mk mp mq mz mh u.2.2.2 u.2.1 :=
    fun k hk h1 h2 => ⟨_, _, h1, h2, rfl, hI, hD, hik, hkp, hrf.bump (by omega), hlt, ⟨rfl, hl0, hl1, hl⟩⟩
  by_cases h1 : x1 < 0
  · refine bad (-4) (by omega) ?_ ?_
    · unfold m_Vol_row
      rw [clt_t (by omega), p_refuse (by omega), bnd_s]
    · unfold m_Mod_row
      simp only [jn_s]
      rw [p_Mod_bound (by omega) (by omega) (by omega), bnd_s, if_pos h1, ceq_f (by omega), ceq_f (by omega), p_no (by omega), bnd_s]
  · by_cases h2 : 99 < x1
    · refine bad (-6) (by omega) ?_ ?_
      · unfold m_Vol_row
        simp only [jn_s]
        rw [clt_f (by omega), cle_f (by omega), p_refuse (by omega), bnd_s]
      · unfold m_Mod_row
        simp only [jn_s]
        rw [p_Mod_bound (by omega) (by omega) (by omega), bnd_s, if_neg h1, if_neg (by omega), ceq_f (by omega), ceq_f (by omega), p_no (by omega), bnd_s]
    · by_cases h3 : rmn = 32
      · refine bad (-6) (by omega) ?_ ?_
        · unfold m_Vol_row m_Row_isFull_W32
          simp only [jn_s]
          rw [clt_f (by omega), cle_t (by omega), clt_f (by omega), bnd_s, ceq_f (by omega), p_refuse (by omega), bnd_s]
        · unfold m_Mod_row
          simp only [jn_s]
          rw [p_Mod_bound (by omega) (by omega) (by omega), bnd_s, if_neg h1, if_pos (by omega), ceq_t (by omega), ceq_t (by omega), ceq_f (by omega), p_no (by omega), bnd_s]
      · have hV : m_Vol_row x1 rmn rnu rf = some (rmn + 1, rmn + 1, uf rnu rmn x1, rf) := by
          unfold m_Vol_row m_Row_isFull_W32 m_Row_add_W32
          simp only [jn_s]
          rw [clt_f (by omega), cle_t (by omega), clt_t (by omega), bnd_s, ceq_t (by omega), clt_f (by omega), clt_t (by omega), gd_x (by omega), bnd_s]
        have hM : m_Mod_row x1 rmn mr my = some (rmn + 1, rmn + 1, mr, uf my rmn x1) := by
          unfold m_Mod_row
          simp only [jn_s]
          rw [p_Mod_bound (by omega) (by omega) (by omega), bnd_s, if_neg h1, if_pos (by omega), ceq_t (by omega), ceq_f (by omega), ceq_t (by omega), gd_x (by omega)]
        refine ⟨_, _, hV, hM, rfl, hI, hD, hik, hkp, hrf, hlt, ⟨rfl, by show 0 ≤ rmn + 1; omega, by show rmn + 1 ≤ 32; omega, ?_⟩⟩
        intro j h0 hj
        show uf rnu rmn x1 j = uf my rmn x1 j ∧ 0 ≤ uf my rmn x1 j ∧ uf my rmn x1 j ≤ 99
        have hj' : j < rmn + 1 := hj
        by_cases hjs : j = rmn
        · subst hjs
          rw [uf_s, uf_s]
          omega
        · rw [uf_n hjs, uf_n hjs]
          exact hl j h0 (by omega)
theorem e_clear : E_clear := by
  intro ik now nbt nki npl nva nwr kow kbt kki kpl kva kwr smn snu rmn rnu rf mr mb mo ml mw mt mk mp mq mz mh my mn hR
  obtain ⟨hI, hD, hik, hkp, hrf, hlt, ⟨rfl, hl0, hl1, hl⟩⟩ := hR
  exact ⟨_, _, rfl, rfl, rfl, hI, hD, hik, hkp, hrf, hlt, rfl, Int.le_refl _, by show (0 : Int) ≤ 32; omega, fun j h0 h1 => absurd h1 (by show ¬ j < 0; omega)⟩
