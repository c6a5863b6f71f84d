/-! e_flush, e_crash -/
theorem e_flush : E_flush := by
  intro ik now nbt nki npl nva nwr kow kbt kki kpl kva kwr smn snu rmn rnu rf mr mb mo ml mw mt mk mp mq mz mh my mn nrm nrs nrz sm sM x1 hR hx
  obtain ⟨hI, hD, hk, hk1, h5, h6, h7⟩ := id hR
  unfold m_Vol_flush m_Mod_flush
  rw [p_Vol_isFile hx, bnd_s, p_Mod_isFile hx, bnd_s, ceq_yn, ceq_yn]
  by_cases hf : 0 ≤ x1 ∧ x1 < 4
  · rw [if_pos hf, if_pos hf]
    obtain ⟨st, vow', vbt', vpl', vva', vwr', rm', rs', rz', bt', ow', bl', wr', wa', e1, e2, nI, nD, -⟩ := flush_both hI hD hf (K := 1000) (M := 1000000) (Or.inr ⟨rfl, rfl⟩) nrm nrs nrz sm sM
    rw [e1, e2, bnd_s, bnd_s]
    exact ⟨_, _, rfl, rfl, rfl, nI, nD, hk, hk1, h5, h6, h7⟩
  · rw [if_neg hf, if_neg hf, p_refuse (by omega), p_no (by omega), bnd_s, bnd_s]
    exact ⟨_, _, rfl, rfl, rfl, hR.no (-1) (by omega)⟩
section CRA
variable {bt ow bl wr wa ki vow vbt vki vpl vva vwr : Int → Int}
theorem dropD_loop (hQ : Q91 96 vva wa) (hb : ∀ a : Int, 0 ≤ a → a < 96 → -9 ≤ wa a ∧ wa a ≤ 99) : ∀ (d : Nat) (i v : Int) (w : Int → Int) (fM fD : Nat), 0 ≤ i → i + d = 96 → d < fM → d < fD → 0 ≤ v → v ≤ i → (∀ j : Int, i ≤ j → w j = vva j) → ∃ n w', m_Disk_dropWaiting_4 fD v i w = some (n, w') ∧ m_Mod_allWaiting_4 fM v i wa = some n ∧ 0 ≤ n ∧ n ≤ 96 ∧ (∀ j : Int, i ≤ j → j < 96 → w' j = -1) ∧ (∀ j : Int, j < i → w' j = w j) := by
  intro d
  induction d with
  | zero =>
    intro i v w fM fD h0 h1 h2 h3 h4 h5 h6
    cases fM with
    | zero => omega
    | succ fM =>
      cases fD with
      | zero => omega
      | succ fD => exact ⟨v, w, by rw [m_Disk_dropWaiting_4, clt_f (by omega)], by rw [m_Mod_allWaiting_4, clt_f (by omega)], h4, by omega, fun j q0 q1 => by omega, fun j _ => rfl⟩
  | succ d ih =>
    intro i v w fM fD h0 h1 h2 h3 h4 h5 h6
    cases fM with
    | zero => omega
    | succ fM =>
      cases fD with
      | zero => omega
      | succ fD =>
        have hbi := hb i h0 (by omega)
        have hq := hQ i h0 (by omega)
        have hw := h6 i (by omega)
        have kD : m_Disk_dropWaiting_4 (fD + 1) v i w = m_Disk_dropWaiting_4 fD (if 0 ≤ wa i then v + 1 else v) (i + 1) (uf w i (-1)) := by
          rw [m_Disk_dropWaiting_4, clt_t (by omega), gd_x (by omega)]
          by_cases h : 0 ≤ wa i
          · rw [if_pos h, clt_f (by omega), gd_x (by omega)]
          · rw [if_neg h, clt_t (by omega), gd_x (by omega)]
        have kM : m_Mod_allWaiting_4 (fM + 1) v i wa = m_Mod_allWaiting_4 fM (if 0 ≤ wa i then v + 1 else v) (i + 1) wa := by
          rw [m_Mod_allWaiting_4, clt_t (by omega), p_isWaiting (by omega) (by omega), bnd_s, ceq_yn]
          by_cases h : 0 ≤ wa i
          · rw [if_pos h, if_pos h]
          · rw [if_neg h, if_neg h, Int.add_zero]
        have hv : 0 ≤ (if 0 ≤ wa i then v + 1 else v) ∧ (if 0 ≤ wa i then v + 1 else v) ≤ i + 1 := by split <;> omega
        rw [kD, kM]
        obtain ⟨n, w', e1, e2, e3, e4, e5, e6⟩ := ih (i + 1) (if 0 ≤ wa i then v + 1 else v) (uf w i (-1)) fM fD (by omega) (by omega) (by omega) (by omega) hv.1 hv.2 (fun j q0 => by rw [uf_n (by omega)]; exact h6 j (by omega))
        refine ⟨n, w', e1, e2, e3, e4, fun j q0 q1 => ?_, fun j q0 => ?_⟩
        · by_cases c : j = i
          · rw [c, e6 i (by omega), uf_s]
          · exact e5 j (by omega) q1
        · rw [e6 j (by omega), uf_n (by omega)]
theorem dropM_loop (v sm sM : Int) : ∀ (d : Nat) (i : Int) (w : Int → Int) (fM : Nat), 0 ≤ i → i + d = 96 → d < fM → ∃ w', m_Mod_crashes_15 fM v i sm sM bt ow bl wr w ki = some (v, sm, sM, bt, ow, bl, wr, w') ∧ (∀ j : Int, i ≤ j → j < 96 → w' j = -9) ∧ (∀ j : Int, j < i → w' j = w j) := by
  intro d
  induction d with
  | zero =>
    intro i w fM h0 h1 h2
    cases fM with
    | zero => omega
    | succ fM => exact ⟨w, by rw [m_Mod_crashes_15, clt_f (by omega)], fun j q0 q1 => by omega, fun j _ => rfl⟩
  | succ d ih =>
    intro i w fM h0 h1 h2
    cases fM with
    | zero => omega
    | succ fM =>
      obtain ⟨w', e1, e2, e3⟩ := ih (i + 1) (uf w i (-9)) fM (by omega) (by omega) (by omega)
      refine ⟨w', by rw [m_Mod_crashes_15, clt_t (by omega), gd_x (by omega)]; exact e1, fun j q0 q1 => ?_, fun j q0 => ?_⟩
      · by_cases c : j = i
        · rw [c, e3 i (by omega), uf_s]
        · exact e2 j (by omega) q1
      · rw [e3 j (by omega), uf_n (by omega)]
theorem Inv.still (hI : Inv bt ow bl wr wa ki) {w : Int → Int} (hw : ∀ j : Int, 0 ≤ j → j < 96 → w j = -9) : Inv bt ow bl wr w ki := by
  obtain ⟨i1, i2, i3, i4, i5, i6, i7, i8⟩ := hI
  refine ⟨i1, i2, i3, fun a h0 h1 => Or.inl (hw a h0 h1), i5, i6, ?_, i8⟩
  have h1 : cn (fun a => bl a < 0 ∧ 0 ≤ w a) 96 = 0 := by
    by_cases q : 1 ≤ cn (fun a => bl a < 0 ∧ 0 ≤ w a) 96
    · obtain ⟨k, k0, k1, k2⟩ := cn_ex 96 q
      have := hw k k0 (by omega)
      omega
    · have := cn_bd (fun a => bl a < 0 ∧ 0 ≤ w a) 96
      omega
  have := cn_bd (fun b => ow b < 0) 64
  omega
theorem Dsk.still (hD : Dsk vow vbt vki vpl vva vwr bt ow bl wr wa ki) {v w : Int → Int} (hv : ∀ j : Int, 0 ≤ j → j < 96 → v j = -1) (hw : ∀ j : Int, 0 ≤ j → j < 96 → w j = -9) : Dsk vow vbt vki vpl v vwr bt ow bl wr w ki := by
  obtain ⟨d1, d2, d3, d4, d5, d6⟩ := hD
  exact ⟨d1, d2, d3, d4, fun j h0 h1 => Or.inl ⟨hw j h0 h1, hv j h0 h1⟩, d6⟩
theorem crash_both (hI : Inv bt ow bl wr wa ki) (hD : Dsk vow vbt vki vpl vva vwr bt ow bl wr wa ki) {f K M : Int} (hf : 0 ≤ f ∧ f < 4) (hL : Lim K M) (rm : Int) (rs rz : Int → Int) (sm sM : Int) :
    ∃ n st vow' vbt' vpl' vva' vwr' rm' rs' rz' va' bt' ow' bl' wr' wa', m_Disk_flushUpTo f K vow vbt vki vpl vva vwr rm rs rz = some (st, vow', vbt', vpl', vva', vwr', rm', rs', rz') ∧ m_Disk_dropWaiting vva' = some (n, va') ∧ m_Mod_crashes f M sm sM bt ow bl wr wa ki = some (n, st, M, bt', ow', bl', wr', wa') ∧ Inv bt' ow' bl' wr' wa' ki ∧ Dsk vow' vbt' vki vpl' va' vwr' bt' ow' bl' wr' wa' ki ∧ 0 ≤ st ∧ st ≤ K ∧ st ≤ 99 ∧ 0 ≤ n ∧ n ≤ 96 ∧ (st < K → ∀ q : Int, 0 ≤ q → q < 24 → rd bt' bl' wr' wa' (24 * f + q) = rd bt bl wr wa (24 * f + q)) := by
  obtain ⟨st, vow', vbt', vpl', vva', vwr', rm', rs', rz', bt', ow', bl', wr', wa', e1, e2, nI, nD, s0, s1, s2, s3, s4⟩ := flush_both hI hD hf hL rm rs rz sm sM
  obtain ⟨n, va', d1, d2, d3, d4, d5, -⟩ := dropD_loop nD.2.2.2.2.1 (fun a h0 h1 => ((Inv.at nI).2 a h0 h1).2.1) 96 0 0 vva' 5000 5000 (by omega) (by omega) (by omega) (by omega) (by omega) (by omega) (fun j _ => rfl)
  obtain ⟨w', c1, c2, -⟩ := dropM_loop (bt := bt') (ow := ow') (bl := bl') (wr := wr') (ki := ki) n st M 96 0 wa' 5000 (by omega) (by omega) (by omega)
  have c3 : ∀ j : Int, 0 ≤ j → j < 96 → w' j = -9 := c2
  refine ⟨n, st, vow', vbt', vpl', vva', vwr', rm', rs', rz', va', bt', ow', bl', wr', w', e1, d1, ?_, nI.still c3, nD.still d5 c3, s0, s1, s2, d3, d4, fun q r r0 r1 => ?_⟩
  · unfold m_Mod_crashes m_Mod_allWaiting
    rw [e2, bnd_s]
    dsimp only
    rw [d2, bnd_s]
    exact c1
  · rw [← s3 (24 * f + r) (by omega) (by omega)]
    have h1 := s4 q r r0 r1
    have h2 := c3 (24 * f + r) (by omega) (by omega)
    unfold rd
    rw [if_neg (show ¬ 0 ≤ w' (24 * f + r) by omega), if_neg (show ¬ 0 ≤ wa' (24 * f + r) by omega)]
theorem rd_v (hI : Inv bt ow bl wr wa ki) {a : Int} (ha : 0 ≤ a ∧ a < 96) : rdv bt bl wr wa a = rd bt bl wr wa a := by
  have i3 := hI.2.2.1 a ha.1 ha.2
  unfold rdv rd
  by_cases h : 0 ≤ wa a
  · rw [if_pos h, if_pos h]
  · rw [if_neg h, if_neg h]
    by_cases h2 : wr a = 1
    · rw [if_pos h2, if_pos (by omega)]
    · rw [if_neg h2, if_neg (by omega)]
end CRA
theorem e_crash : E_crash := by
  intro ik now nbt nki npl nva nwr kow kbt kki kpl kva kwr smn snu rmn rnu rf mr mb mo ml mw mt mk mp mq mz mh my mn nrm nrs nrz sm sM x1 x2 hR hx hx2
  obtain ⟨hI, hD, hk, hk1, h5, h6, h7⟩ := id hR
  unfold m_Vol_crash m_Mod_crash
  simp only [jn_s]
  rw [p_Vol_isFile hx, bnd_s, p_Mod_isFile hx, bnd_s, ceq_yn, ceq_yn]
  by_cases hf : 0 ≤ x1 ∧ x1 < 4
  · rw [if_pos hf, if_pos hf, p_Mod_bound hx2 (by omega) (by omega), bnd_s]
    by_cases h1 : x2 < 0
    · rw [clt_t (by omega), if_pos h1, ceq_f (by omega), p_refuse (by omega), p_no (by omega), bnd_s, bnd_s]
      exact ⟨_, _, rfl, rfl, rfl, hR.no (-4) (by omega)⟩
    · rw [clt_f (by omega), if_neg h1]
      by_cases h2 : x2 ≤ 99
      · rw [cle_t (by omega), if_pos h2, ceq_t (by omega)]
        obtain ⟨n, st, vow', vbt', vpl', vva', vwr', rm', rs', rz', va', bt', ow', bl', wr', wa', e1, e2, e3, nI, nD, -⟩ := crash_both hI hD hf (K := x2) (M := x2) (Or.inl ⟨by omega, by omega, rfl⟩) nrm nrs nrz sm sM
        rw [e1, e3, bnd_s, bnd_s]
        dsimp only
        rw [e2, bnd_s]
        exact ⟨_, _, rfl, rfl, rfl, nI, nD, hk, hk1, h5, h6, h7⟩
      · rw [cle_f (by omega), if_neg h2, ceq_f (by omega), p_refuse (by omega), p_no (by omega), bnd_s, bnd_s]
        exact ⟨_, _, rfl, rfl, rfl, hR.no (-6) (by omega)⟩
  · rw [if_neg hf, if_neg hf, ceq_f (by omega), p_refuse (by omega), p_no (by omega), bnd_s, bnd_s]
    exact ⟨_, _, rfl, rfl, rfl, hR.no (-1) (by omega)⟩
