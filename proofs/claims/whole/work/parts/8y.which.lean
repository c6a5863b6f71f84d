/-! e_which -/
theorem zor_r (x y : Int) : -2147483648 ≤ z_or x y ∧ z_or x y < 2147483648 := by
  have h1 := Int32.le_toInt (Int32.ofInt x ||| Int32.ofInt y)
  have h2 := Int32.toInt_lt (Int32.ofInt x ||| Int32.ofInt y)
  unfold z_or
  omega
theorem zor_0 {x : Int} (h : -2147483648 ≤ x ∧ x < 2147483648) : z_or x 0 = x := by
  unfold z_or
  rw [show (Int32.ofInt 0) = 0 from by decide +kernel, Int32.or_zero, Int32.toInt_ofInt_of_le (by omega) (by omega)]
section WHI
variable {bt ow bl wr wa ki vow vbt vki vpl vva vwr : Int → Int}
/-- was: 1 at a page that waits and is not placed -/
def wasOk (bl wa was : Int → Int) : Prop := ∀ j : Int, 0 ≤ j → j < 96 → (toP bl wa j ∧ was j = 1) ∨ (¬ toP bl wa j ∧ was j = 0)
theorem which_was (hI : Inv bt ow bl wr wa ki) {f sm sM mi mc mn : Int} {mr kp my : Int → Int} (hf : 0 ≤ f ∧ f < 4) : ∀ (d : Nat) (i : Int) (w : Int → Int) (fuel : Nat), 0 ≤ i → i + d = 96 → d < fuel → (∀ j : Int, 0 ≤ j → j < i → (toP bl wa j ∧ w j = 1) ∨ (¬ toP bl wa j ∧ w j = 0)) → ∃ w', wasOk bl wa w' ∧ m_Mod_which_35 fuel f i sm sM mi mc mn mr bt ow bl wr wa ki kp w my = m_Mod_which_78 5000 f (ki f) 0 0 sm sM mi mc mn mr bt ow bl wr wa ki kp w' my := by
  intro d
  induction d with
  | zero =>
    intro i w fuel h0 h1 h2 h3
    cases fuel with
    | zero => omega
    | succ fuel => exact ⟨w, fun j q0 q1 => h3 j q0 (by omega), by rw [m_Mod_which_35, clt_f (by omega), gd_x hf]⟩
  | succ d ih =>
    intro i w fuel h0 h1 h2 h3
    cases fuel with
    | zero => omega
    | succ fuel =>
      have hb := (Inv.at hI).2 i h0 (by omega)
      rw [m_Mod_which_35, clt_t (by omega), p_isToPlace ⟨h0, by omega⟩ (by omega) (by omega), bnd_s, ceq_yn]
      by_cases c : bl i < 0 ∧ 0 ≤ wa i
      · rw [if_pos c, gd_x (by omega)]
        refine ih (i + 1) (uf w i 1) fuel (by omega) (by omega) (by omega) (fun j q0 q1 => ?_)
        by_cases q : j = i
        · rw [q, uf_s]
          exact Or.inl ⟨c, rfl⟩
        · rw [uf_n q]
          exact h3 j q0 (by omega)
      · rw [if_neg c, gd_x (by omega)]
        refine ih (i + 1) (uf w i 0) fuel (by omega) (by omega) (by omega) (fun j q0 q1 => ?_)
        by_cases q : j = i
        · rw [q, uf_s]
          exact Or.inr ⟨c, rfl⟩
        · rw [uf_n q]
          exact h3 j q0 (by omega)
variable {b2 o2 l2 w2 a2 k2 : Int → Int}
theorem so_end {f n : Int} {was my : Int → Int} (hf : 0 ≤ f ∧ f < 4) (hn : 0 ≤ n ∧ n ≤ 32) (hw : wasOk bl wa was) : ∀ (d : Nat) (p : Int) (fuel : Nat), 0 ≤ p → p + d = 24 → d < fuel → m_Mod_isPlacedSo_7 fuel f n (24 * f + p) n l2 was my = some 1 := by
  intro d
  induction d with
  | zero =>
    intro p fuel h0 h1 h2
    cases fuel with
    | zero => omega
    | succ fuel => rw [m_Mod_isPlacedSo_7, clt_f (by omega)]
  | succ d ih =>
    intro p fuel h0 h1 h2
    cases fuel with
    | zero => omega
    | succ fuel =>
      have hq := hw (24 * f + p) (by omega) (by omega)
      have e := ih (p + 1) fuel (by omega) (by omega) (by omega)
      rw [← Int.add_assoc] at e
      rw [m_Mod_isPlacedSo_7, clt_t (by omega), gd_x (by omega)]
      rcases hq with ⟨-, q⟩ | ⟨-, q⟩
      · rw [ceq_f (by omega), ceq_t (by omega)]
        exact e
      · rw [ceq_t (by omega)]
        exact e
/-- whether the pages came as told: both see the same -/
theorem so_both (hI : Inv bt ow bl wr wa ki) (hD : Dsk vow vbt vki vpl vva vwr bt ow bl wr wa ki) (nI : Inv b2 o2 l2 w2 a2 k2) {t : TG} (nD : Dsk t.1 t.2.1 t.2.2.1 t.2.2.2.1 t.2.2.2.2.1 t.2.2.2.2.2.1 b2 o2 l2 w2 a2 k2) {f n : Int} {was my rnu : Int → Int} (hf : 0 ≤ f ∧ f < 4) (hn : 0 ≤ n ∧ n ≤ 32) (hrw : ∀ j : Int, 0 ≤ j → j < n → rnu j = my j ∧ 0 ≤ my j ∧ my j ≤ 99) (hw : wasOk bl wa was) : ∀ (d : Nat) (p k : Int) (fM fD : Nat), 0 ≤ p → p + d = 24 → d < fM → d < fD → 0 ≤ k → k ≤ n → ∃ r : Int, (r = 0 ∨ r = 1) ∧ m_Mind_comesAsTold_12 fD f k p vow vbt vki vpl vva vwr t.1 t.2.1 t.2.2.1 t.2.2.2.1 t.2.2.2.2.1 t.2.2.2.2.2.1 t.2.2.2.2.2.2.1 t.2.2.2.2.2.2.2.1 t.2.2.2.2.2.2.2.2 n rnu = some (r, t) ∧ m_Mod_isPlacedSo_7 fM f k (24 * f + p) n l2 was my = some r := by
  intro d
  induction d with
  | zero =>
    intro p k fM fD h0 h1 h2 h3 h4 h5
    cases fM with
    | zero => omega
    | succ fM =>
      cases fD with
      | zero => omega
      | succ fD => exact ⟨1, Or.inr rfl, by rw [m_Mind_comesAsTold_12, clt_f (by omega)], by rw [m_Mod_isPlacedSo_7, clt_f (by omega)]⟩
  | succ d ih =>
    intro p k fM fD h0 h1 h2 h3 h4 h5
    by_cases hk : k = n
    · subst hk
      refine ⟨1, Or.inr rfl, ?_, so_end hf hn hw (d + 1) p fM h0 h1 h2⟩
      cases fD with
      | zero => omega
      | succ fD => rw [m_Mind_comesAsTold_12, clt_t (by omega), clt_f (by omega)]
    · cases fM with
      | zero => omega
      | succ fM =>
        cases fD with
        | zero => omega
        | succ fD =>
          have hb := (Inv.at hI).2 (24 * f + p) (by omega) (by omega)
          have hq := Rel.pg hD hf (p := p) ⟨h0, by omega⟩
          have nb := (Inv.at nI).2 (24 * f + p) (by omega) (by omega)
          have nq := Rel.pg nD hf (p := p) ⟨h0, by omega⟩
          have hrk := hrw k h4 (by omega)
          have hwp := hw (24 * f + p) (by omega) (by omega)
          rcases hwp with ⟨c, q⟩ | ⟨c, q⟩
          · unfold toP at c
            by_cases c2 : l2 (24 * f + p) = my k
            · obtain ⟨r, r0, e1, e2⟩ := ih (p + 1) (k + 1) fM fD (by omega) (by omega) (by omega) (by omega) (by omega) (by omega)
              refine ⟨r, r0, ?_, ?_⟩
              · rw [m_Mind_comesAsTold_12, clt_t (by omega), clt_t (by omega), p_Disk_isPromised hf ⟨h0, by omega⟩ (by omega) (by omega), bnd_s, ceq_yn, if_pos (by omega), p_blockAt hf ⟨h0, by omega⟩, bnd_s, p_numberAt32 h4 (by omega) hn.2, bnd_s, ceq_t (by omega)]
                exact e1
              · rw [m_Mod_isPlacedSo_7, clt_t (by omega), gd_x (by omega), ceq_f (by omega), ceq_f (by omega), gd_x (by omega), gd_x (by omega), ceq_t (by omega), Int.add_assoc (24 * f) p 1]
                exact e2
            · refine ⟨0, Or.inl rfl, ?_, ?_⟩
              · rw [m_Mind_comesAsTold_12, clt_t (by omega), clt_t (by omega), p_Disk_isPromised hf ⟨h0, by omega⟩ (by omega) (by omega), bnd_s, ceq_yn, if_pos (by omega), p_blockAt hf ⟨h0, by omega⟩, bnd_s, p_numberAt32 h4 (by omega) hn.2, bnd_s, ceq_f (by omega)]
              · rw [m_Mod_isPlacedSo_7, clt_t (by omega), gd_x (by omega), ceq_f (by omega), ceq_f (by omega), gd_x (by omega), gd_x (by omega), ceq_f (by omega)]
          · unfold toP at c
            obtain ⟨r, r0, e1, e2⟩ := ih (p + 1) k fM fD (by omega) (by omega) (by omega) (by omega) h4 h5
            refine ⟨r, r0, ?_, ?_⟩
            · rw [m_Mind_comesAsTold_12, clt_t (by omega), clt_t (by omega), p_Disk_isPromised hf ⟨h0, by omega⟩ (by omega) (by omega), bnd_s, ceq_yn, if_neg (by omega)]
              exact e1
            · rw [m_Mod_isPlacedSo_7, clt_t (by omega), gd_x (by omega), ceq_t (by omega), Int.add_assoc (24 * f) p 1]
              exact e2
theorem which_loop (hI : Inv bt ow bl wr wa ki) (hD : Dsk vow vbt vki vpl vva vwr bt ow bl wr wa ki) {f n : Int} {was my rnu rf mr mz : Int → Int} (hf : 0 ≤ f ∧ f < 4) (hn : 0 ≤ n ∧ n ≤ 32) (hrw : ∀ j : Int, 0 ≤ j → j < n → rnu j = my j ∧ 0 ≤ my j ∧ my j ≤ 99) (hw : wasOk bl wa was) : ∀ (d : Nat) (k v : Int) (g : TG) (x : MS) (fD fM : Nat), k + d = 6 → 0 ≤ k → d < fD → d < fM → (-2147483648 ≤ v ∧ v < 2147483648) → SmF f bt ow bl wr wa ki mz x.2.2.2.2.1 x.2.2.2.2.2.1 x.2.2.2.2.2.2.1 x.2.2.2.2.2.2.2.1 x.2.2.2.2.2.2.2.2.1 x.2.2.2.2.2.2.2.2.2.1 x.2.2.2.2.2.2.2.2.2.2 →
    ∃ (r : Int) (t : TG) (u : MS), m_Vol_which_42 fD f v k vow vbt vki vpl vva vwr g.1 g.2.1 g.2.2.1 g.2.2.2.1 g.2.2.2.2.1 g.2.2.2.2.2.1 g.2.2.2.2.2.2.1 g.2.2.2.2.2.2.2.1 g.2.2.2.2.2.2.2.2 n rnu rf = some (r, t.1, t.2.1, t.2.2.1, t.2.2.2.1, t.2.2.2.2.1, t.2.2.2.2.2.1, t.2.2.2.2.2.2.1, t.2.2.2.2.2.2.2.1, t.2.2.2.2.2.2.2.2, rf) ∧ m_Mod_which_78 fM f (ki f) v k x.1 x.2.1 x.2.2.1 x.2.2.2.1 n mr x.2.2.2.2.1 x.2.2.2.2.2.1 x.2.2.2.2.2.2.1 x.2.2.2.2.2.2.2.1 x.2.2.2.2.2.2.2.2.1 x.2.2.2.2.2.2.2.2.2.1 x.2.2.2.2.2.2.2.2.2.2 was my = some (r, u.1, u.2.1, u.2.2.1, u.2.2.2.1, mr, u.2.2.2.2.1, u.2.2.2.2.2.1, u.2.2.2.2.2.2.1, u.2.2.2.2.2.2.2.1, u.2.2.2.2.2.2.2.2.1, u.2.2.2.2.2.2.2.2.2.1, u.2.2.2.2.2.2.2.2.2.2, was) ∧ SmT bt ow bl wr wa ki mz u := by
  intro d
  induction d with
  | zero =>
    intro k v g x fD fM h1 h2 h3 h4 hv h5
    cases fD with
    | zero => omega
    | succ fD =>
      cases fM with
      | zero => omega
      | succ fM =>
        have hs := SmF.to (v := ki f) h5
        rw [uf_id] at hs
        refine ⟨v, g, (x.1, x.2.1, x.2.2.1, x.2.2.2.1, x.2.2.2.2.1, x.2.2.2.2.2.1, x.2.2.2.2.2.2.1, x.2.2.2.2.2.2.2.1, x.2.2.2.2.2.2.2.2.1, uf x.2.2.2.2.2.2.2.2.2.1 f (ki f), x.2.2.2.2.2.2.2.2.2.2), ?_, ?_, hs⟩
        · rw [m_Vol_which_42, clt_f (by omega)]
        · rw [m_Mod_which_78, clt_f (by omega), gd_x hf]
  | succ d ih =>
    intro k v g x fD fM h1 h2 h3 h4 hv h5
    cases fD with
    | zero => omega
    | succ fD =>
      cases fM with
      | zero => omega
      | succ fM =>
        have hs := SmF.to (v := k) h5
        have jI := hs.inv (hI.kind ⟨h2, by omega⟩)
        have jD := hs.dsk hD.kind
        obtain ⟨t, st, b', o', l', w', a', e1, e2, nI, nD, -⟩ := byKind_both jI jD hf g x.1 x.2.1
        obtain ⟨c, kp, m1, m2⟩ := minds_forgets x.2.2.1 x.2.2.2.1 x.2.2.2.2.1 x.2.2.2.2.2.1 x.2.2.2.2.2.2.1 x.2.2.2.2.2.2.2.1 x.2.2.2.2.2.2.2.2.1 (uf x.2.2.2.2.2.2.2.2.2.1 f k) x.2.2.2.2.2.2.2.2.2.2
        obtain ⟨cc, b3, o3, l3, w3, x3, k3, m3, m4⟩ := m2 1 c b' o' l' w' a' (uf x.2.2.2.2.2.2.2.2.2.1 f k)
        obtain ⟨s, s0, y1, y2⟩ := so_both hI hD nI nD hf hn hrw hw 24 0 0 5000 5000 (by omega) (by omega) (by omega) (by omega) (by omega) hn.1
        rw [Int.add_zero] at y2
        have hn2 := h5.nx m4
        have y3 : m_Mind_comesAsTold f k vow vbt vki vpl vva vwr g.1 g.2.1 g.2.2.1 g.2.2.2.1 g.2.2.2.2.1 g.2.2.2.2.2.1 g.2.2.2.2.2.2.1 g.2.2.2.2.2.2.2.1 g.2.2.2.2.2.2.2.2 n rnu = some (s, t) := by
          unfold m_Mind_comesAsTold
          rw [e1, bnd_s]
          exact y1
        have y4 : m_Mod_isPlacedSo f n l' was my = some s := y2
        have kM : ∀ z : Int, (s = 0 ∧ z = v) ∨ (s = 1 ∧ z = z_or v (z_shl 1 k)) → m_Mod_which_78 (fM + 1) f (ki f) v k x.1 x.2.1 x.2.2.1 x.2.2.2.1 n mr x.2.2.2.2.1 x.2.2.2.2.2.1 x.2.2.2.2.2.2.1 x.2.2.2.2.2.2.2.1 x.2.2.2.2.2.2.2.2.1 x.2.2.2.2.2.2.2.2.2.1 x.2.2.2.2.2.2.2.2.2.2 was my = m_Mod_which_78 fM f (ki f) z (k + 1) st 1000000 0 cc n mr b3 o3 l3 w3 x3 k3 kp was my := by
          intro z hz
          rw [m_Mod_which_78, clt_t (by omega), gd_x hf, m1, bnd_s]
          dsimp only
          rw [e2, bnd_s]
          dsimp only
          rw [y4, bnd_s]
          simp only [jn_s]
          rcases hz with ⟨z1, z2⟩ | ⟨z1, z2⟩
          · rw [ceq_t (by omega), m3, bnd_s, zor_0 hv, z2]
          · rw [ceq_f (by omega), m3, bnd_s, z2]
        rcases s0 with s0 | s0
        · obtain ⟨r, t2, u2, q1, q2, q3⟩ := ih (k + 1) v t (st, 1000000, 0, cc, b3, o3, l3, w3, x3, k3, kp) fD fM (by omega) (by omega) (by omega) (by omega) hv hn2
          refine ⟨r, t2, u2, ?_, ?_, q3⟩
          · rw [m_Vol_which_42, clt_t (by omega), y3, bnd_s]
            dsimp only
            rw [ceq_t (by omega)]
            exact q1
          · rw [kM v (Or.inl ⟨s0, rfl⟩)]
            exact q2
        · obtain ⟨r, t2, u2, q1, q2, q3⟩ := ih (k + 1) (z_or v (z_shl 1 k)) t (st, 1000000, 0, cc, b3, o3, l3, w3, x3, k3, kp) fD fM (by omega) (by omega) (by omega) (by omega) (zor_r _ _) hn2
          refine ⟨r, t2, u2, ?_, ?_, q3⟩
          · rw [m_Vol_which_42, clt_t (by omega), y3, bnd_s]
            dsimp only
            rw [ceq_f (by omega)]
            exact q1
          · rw [kM _ (Or.inr ⟨s0, rfl⟩)]
            exact q2
end WHI
theorem e_which : E_which := by
  intro ik now nbt nki npl nva nwr kow kbt kki kpl kva kwr smn snu rmn rnu rf mr mb mo ml mw mt mk mp mq mz mh my mn tow tbt tki tpl tva twr trm trs trz sm sM mi mc ms x1 hR hx
  obtain ⟨hI, hD, hk, hk1, h5, h6, h7⟩ := id hR
  obtain ⟨g1, g2, g3, g4⟩ := id h7
  subst g1
  unfold m_Vol_which m_Mod_which
  rw [p_Vol_isFile hx, bnd_s, p_Mod_isFile hx, bnd_s, ceq_yn, ceq_yn]
  by_cases hf : 0 ≤ x1 ∧ x1 < 4
  · have hc := cn_bd (fun p => ml (24 * x1 + p) < 0 ∧ 0 ≤ mt (24 * x1 + p)) 24
    rw [if_pos hf, if_pos hf, pD_promisedIn hI hD hf, bnd_s, pM_toPlaceOf hI hf, bnd_s]
    by_cases h1 : rmn ≤ cn (fun p => ml (24 * x1 + p) < 0 ∧ 0 ≤ mt (24 * x1 + p)) 24
    · rw [cle_t (by omega), cle_t (by omega)]
      obtain ⟨w', w1, w2⟩ := which_was hI (sm := sm) (sM := sM) (mi := mi) (mc := mc) (mn := rmn) (mr := mr) (kp := mz) (my := my) hf 96 0 ms 5000 (by omega) (by omega) (by omega) (fun j q0 q1 => by omega)
      obtain ⟨r, t, u, q1, q2, q3⟩ := which_loop hI hD (rf := rf) (mr := mr) (mz := mz) hf ⟨g2, g3⟩ g4 w1 6 0 0 (tow, tbt, tki, tpl, tva, twr, trm, trs, trz) (sm, sM, mi, mc, mb, mo, ml, mw, mt, mk, mz) 5000 5000 (by omega) (by omega) (by omega) (by omega) (by omega) ⟨QE.rf, QE.rf, QE.rf, QE.rf, QE.rf, fun _ _ _ _ => rfl, fun _ _ => rfl⟩
      dsimp only at q1 q2
      rw [q1, w2, q2]
      exact ⟨_, _, rfl, rfl, rfl, hR.sm q3⟩
    · rw [cle_f (by omega), cle_f (by omega), p_refuse (by omega), p_no (by omega), bnd_s, bnd_s]
      exact ⟨_, _, rfl, rfl, rfl, hR.no (-3) (by omega)⟩
  · rw [if_neg hf, if_neg hf, p_refuse (by omega), p_no (by omega), bnd_s, bnd_s]
    exact ⟨_, _, rfl, rfl, rfl, hR.no (-1) (by omega)⟩
