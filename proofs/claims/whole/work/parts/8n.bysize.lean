/-! e_byPlace: the order by size -/
abbrev bfr (rz : Int → Int) (j i : Int) : Prop := rz j < rz i ∨ (rz j = rz i ∧ j < i)
theorem cn_mono {P Q : Int → Prop} [DecidablePred P] [DecidablePred Q] : ∀ n : Nat, (∀ j : Int, 0 ≤ j → j < n → P j → Q j) → cn P n ≤ cn Q n
  | 0, _ => Int.le_refl _
  | n + 1, h => by
    have q := cn_mono (P := P) (Q := Q) n (fun j h0 h1 => h j h0 (by omega))
    have hn := h n (by omega) (by omega)
    unfold cn
    by_cases c : P n
    · rw [if_pos c, if_pos (hn c)]
      omega
    · rw [if_neg c]
      split <;> omega
theorem cn_strict {P Q : Int → Prop} [DecidablePred P] [DecidablePred Q] {k : Int} : ∀ n : Nat, 0 ≤ k → k < n → ¬ P k → Q k → (∀ j : Int, 0 ≤ j → j < n → P j → Q j) → cn P n + 1 ≤ cn Q n
  | 0, h0, h1, _, _, _ => by omega
  | n + 1, h0, h1, hP, hQ, h => by
    by_cases c : k = n
    · subst c
      have q := cn_mono (P := P) (Q := Q) n (fun j h0 h1 => h j h0 (by omega))
      unfold cn
      rw [if_neg hP, if_pos hQ]
      omega
    · have q := cn_strict (P := P) (Q := Q) n h0 (by omega) hP hQ (fun j h0 h1 => h j h0 (by omega))
      have hn := h n (by omega) (by omega)
      unfold cn
      by_cases c : P n
      · rw [if_pos c, if_pos (hn c)]
        omega
      · rw [if_neg c]
        split <;> omega
theorem rank_onto (rz : Int → Int) : ∀ (n : Nat) (r : Int), 0 ≤ r → r < n → ∃ i : Int, 0 ≤ i ∧ i < n ∧ cn (fun j => bfr rz j i) n = r
  | 0, r, h0, h1 => by omega
  | n + 1, r, h0, h1 => by
    have kb := cn_bd (fun j => bfr rz j n) n
    by_cases c : r = cn (fun j => bfr rz j n) n
    · refine ⟨n, by omega, by omega, ?_⟩
      show cn (fun j => bfr rz j n) n + _ = r
      rw [if_neg (by omega)]
      omega
    · by_cases c2 : r < cn (fun j => bfr rz j n) n
      · obtain ⟨i, i0, i1, e⟩ := rank_onto rz n r h0 (by omega)
        refine ⟨i, i0, by omega, ?_⟩
        show cn (fun j => bfr rz j i) n + _ = r
        rw [if_neg, e]
        · omega
        · intro q
          have := cn_mono (P := fun j => bfr rz j n) (Q := fun j => bfr rz j i) n (fun j h0 h1 h => by omega)
          omega
      · obtain ⟨i, i0, i1, e⟩ := rank_onto rz n (r - 1) (by omega) (by omega)
        refine ⟨i, i0, by omega, ?_⟩
        show cn (fun j => bfr rz j i) n + _ = r
        rw [if_pos, e]
        · omega
        · by_cases q : bfr rz n i
          · exact q
          · have := cn_strict (P := fun j => bfr rz j i) (Q := fun j => bfr rz j n) (k := i) n i0 i1 (by omega) (by omega) (fun j h0 h1 h => by omega)
            omega
section BYS
variable {ow : Int → Int} {rm : Int} {rs rz : Int → Int}
def rnk (rm : Int) (rz : Int → Int) (i : Int) : Int := cn (fun j => bfr rz j i) rm.toNat
theorem p_rankD (R : RunsTo ow 64 rm rs rz) {i : Int} (h0 : 0 ≤ i) (h1 : i < rm) : m_Runs_rankOfSize i rm rz = some (rnk rm rz i) := by
  have ha := R.at h0 h1
  refine cn_loop (fun j => bfr rz j i) rm.toNat (fun fuel v j => m_Runs_rankOfSize_4 fuel i v j rm rz) (fun fuel v j hj h2 h3 => ?_) (fun fuel v h2 h3 => ?_) rm.toNat 0 5000 (by omega) (by omega)
  · have hj2 := R.at (i := j) (by omega) (by omega)
    rw [m_Runs_rankOfSize_4, clt_t (by omega), p_sizeAt (by omega) (by omega) ha.2.2, bnd_s, p_sizeAt h0 h1 ha.2.2, bnd_s]
    by_cases c : rz j < rz i
    · rw [clt_t (by omega), if_pos (by omega)]
    · rw [clt_f (by omega), bnd_s, bnd_s]
      by_cases c2 : rz j = rz i
      · rw [ceq_t (by omega)]
        by_cases c3 : (j : Int) < i
        · rw [clt_t (by omega), if_pos (by omega)]
        · rw [clt_f (by omega), if_neg (by omega), Int.add_zero]
      · rw [ceq_f (by omega), if_neg (by omega), Int.add_zero]
  · skip
    rw [m_Runs_rankOfSize_4, clt_f (by omega)]
theorem ahead_row (hb : ∀ b : Int, 0 ≤ b → b < 64 → -9 ≤ ow b ∧ ow b < 96) (R : RunsTo ow 64 rm rs rz) {i j w c : Int} {fuel : Nat} (h0 : 0 ≤ i) (h1 : i < rm) (h2 : 0 ≤ j) (h3 : j < rm) (hw : w = 0 ∨ w = 1) : m_Mod_aheadOf_5 (fuel + 1) (rs i) w c (rs j) ow = m_Mod_aheadOf_5 fuel (rs i) w (c + if (w = 0 ∧ j < i) ∨ (w = 1 ∧ bfr rz j i) then 1 else 0) (rs j + 1) ow := by
  have ha := R.at h0 h1
  have hj := R.at h2 h3
  have hzi := pM_size_at hb R h0 h1
  have hzj := pM_size_at hb R h2 h3
  have hlt : rs j < rs i ↔ j < i := by
    constructor
    · intro q
      by_cases c : i < j
      · have := R.lt h0 c h3
        omega
      · by_cases c2 : i = j
        · subst c2
          omega
        · omega
    · intro q
      have := R.lt h2 q h1
      omega
  rw [m_Mod_aheadOf_5, clt_t (by omega), pM_beg hb (b := rs j) ⟨by omega, by omega⟩ (R.run h2 h3), bnd_s, ceq_f (by omega)]
  simp only [jn_s]
  rcases hw with hw | hw
  · subst hw
    rw [ceq_t (by omega)]
    by_cases c3 : j < i
    · rw [clt_t (by omega), ceq_f (by omega), if_pos (by omega)]
    · rw [clt_f (by omega), ceq_t (by omega), if_neg (by omega)]
  · subst hw
    rw [ceq_f (by omega), hzj, bnd_s, hzi, bnd_s]
    by_cases c : rz j < rz i
    · rw [clt_t (by omega), ceq_f (by omega), if_pos (by omega)]
    · rw [clt_f (by omega), bnd_s, bnd_s]
      by_cases c2 : rz j = rz i
      · rw [ceq_t (by omega)]
        by_cases c3 : j < i
        · rw [clt_t (by omega), ceq_f (by omega), if_pos (by omega)]
        · rw [clt_f (by omega), ceq_t (by omega), if_neg (by omega)]
      · rw [ceq_f (by omega), ceq_t (by omega), if_neg (by omega)]
theorem cn_lt (i : Int) : ∀ n : Nat, 0 ≤ i → i ≤ n → cn (fun j => (0 = (0 : Int) ∧ j < i) ∨ ((0 : Int) = 1 ∧ bfr (fun _ => 0) j i)) n = i
  | 0, h0, h1 => by
    show (0 : Int) = i
    omega
  | n + 1, h0, h1 => by
    by_cases c : i ≤ n
    · show cn _ n + _ = i
      rw [cn_lt i n h0 c, if_neg (by omega)]
      omega
    · have hi : i = ((n + 1 : Nat) : Int) := by omega
      have e : cn (fun j => (0 = (0 : Int) ∧ j < i) ∨ ((0 : Int) = 1 ∧ bfr (fun _ => 0) j i)) n = n := by
        rw [cn_congr (Q := fun j => (0 = (0 : Int) ∧ j < (n : Int)) ∨ ((0 : Int) = 1 ∧ bfr (fun _ => 0) j n)) n (fun j q0 q1 => by omega)]
        exact cn_lt n n (by omega) (by omega)
      show cn _ n + _ = i
      rw [e, if_pos (by omega)]
      omega
def rk (rm : Int) (rz : Int → Int) (w i : Int) : Int := if w = 0 then i else rnk rm rz i
theorem p_aheadOf (hb : ∀ b : Int, 0 ≤ b → b < 64 → -9 ≤ ow b ∧ ow b < 96) (R : RunsTo ow 64 rm rs rz) {i w : Int} (h0 : 0 ≤ i) (h1 : i < rm) (hw : w = 0 ∨ w = 1) : m_Mod_aheadOf (rs i) w ow = some (rk rm rz w i) := by
  have ha := R.at h0 h1
  obtain ⟨u, v, e1, -, e3⟩ := run_scan R (fun fuel s b => m_Mod_aheadOf_5 fuel (rs i) w s b ow) (fun _ (_ : Unit) _ => some ()) (fun s _ j => 0 ≤ j ∧ s = cn (fun j => (w = 0 ∧ j < i) ∨ (w = 1 ∧ bfr rz j i)) j.toNat) (fun u _ => u = cn (fun j => (w = 0 ∧ j < i) ∨ (w = 1 ∧ bfr rz j i)) rm.toNat) 0 () ⟨by omega, rfl⟩ (fun fuel s b q0 q1 q2 => by
      show m_Mod_aheadOf_5 (fuel + 1) (rs i) w s b ow = m_Mod_aheadOf_5 fuel (rs i) w s (b + 1) ow
      rw [m_Mod_aheadOf_5, clt_t (by omega), pM_beg0 hb ⟨q0, q1⟩ q2, bnd_s, ceq_t (by omega)]) (fun s t j q0 q1 hR => by
      refine Or.inl ⟨_, (), fun fuel => ahead_row hb R h0 h1 q0 q1 hw, fun _ => rfl, by omega, ?_⟩
      rw [show (j + 1).toNat = j.toNat + 1 by omega, hR.2]
      show _ = cn _ j.toNat + _
      rw [show ((j.toNat : Nat) : Int) = j by omega]) (fun s t hR => ⟨s, (), fun fuel => by
      show m_Mod_aheadOf_5 (fuel + 1) (rs i) w s 64 ow = some s
      rw [m_Mod_aheadOf_5, clt_f (by omega)], fun _ => rfl, hR.2⟩)
  have e1 : m_Mod_aheadOf (rs i) w ow = some u := e1
  rw [e1, e3]
  unfold rk
  rcases hw with hw | hw
  · subst hw
    rw [if_pos rfl, cn_congr (Q := fun j => (0 = (0 : Int) ∧ j < i) ∨ ((0 : Int) = 1 ∧ bfr (fun _ => 0) j i)) rm.toNat (fun j q0 q1 => by omega), cn_lt i rm.toNat h0 (by omega)]
  · subst hw
    rw [if_neg (by omega)]
    unfold rnk
    rw [cn_congr (Q := fun j => bfr rz j i) rm.toNat (fun j q0 q1 => by omega)]
/-- the first run of a rank -/
def isAt (rm : Int) (rz : Int → Int) (w x i : Int) : Prop := 0 ≤ i ∧ i < rm ∧ rk rm rz w i = x ∧ ∀ j : Int, 0 ≤ j → j < i → rk rm rz w j ≠ x
theorem isAt.eq {w x i j : Int} (h : isAt rm rz w x i) (g : isAt rm rz w x j) : i = j := by
  obtain ⟨h1, h2, h3, h4⟩ := h
  obtain ⟨g1, g2, g3, g4⟩ := g
  by_cases c : i < j
  · exact absurd h3 (g4 i h1 c)
  · by_cases c2 : j < i
    · exact absurd g3 (h4 j g1 c2)
    · omega
theorem rk_bd {w i : Int} (h0 : 0 ≤ i) (h1 : i < rm) : 0 ≤ rk rm rz w i ∧ rk rm rz w i < rm := by
  unfold rk
  by_cases c : w = 0
  · rw [if_pos c]
    omega
  · rw [if_neg c]
    unfold rnk
    have b := cn_bd (fun j => bfr rz j i) rm.toNat
    have s := cn_strict (P := fun j => bfr rz j i) (Q := fun j => j = j) (k := i) rm.toNat h0 (by omega) (by omega) rfl (fun j _ _ _ => rfl)
    have t := cn_bd (fun j : Int => j = j) rm.toNat
    omega
theorem rk_ex {w x : Int} (h0 : 0 ≤ x) (h1 : x < rm) : ∃ i, 0 ≤ i ∧ i < rm ∧ rk rm rz w i = x := by
  unfold rk
  by_cases c : w = 0
  · exact ⟨x, h0, h1, if_pos c⟩
  · obtain ⟨i, i0, i1, e⟩ := rank_onto rz rm.toNat x h0 (by omega)
    exact ⟨i, i0, by omega, by rw [if_neg c]; exact e⟩
theorem p_byPlaceM (hb : ∀ b : Int, 0 ≤ b → b < 64 → -9 ≤ ow b ∧ ow b < 96) (R : RunsTo ow 64 rm rs rz) {x w : Int} {mr : Int → Int} (hx : -2147483648 ≤ x ∧ x < 2147483648) (hw : w = 0 ∨ w = 1) : (∃ i, isAt rm rz w x i ∧ m_Mod_byPlace_18 5000 x w 0 mr ow = some (100 * rs i + rz i, mr)) ∨ ((∀ j : Int, 0 ≤ j → j < rm → rk rm rz w j ≠ x) ∧ m_Mod_byPlace_18 5000 x w 0 mr ow = some (-1, uf mr (- -1) (mr (- -1) + 1))) := by
  obtain ⟨u, v, e1, -, e3⟩ := run_scan R (fun fuel (_ : Unit) b => m_Mod_byPlace_18 fuel x w b mr ow) (fun _ (_ : Unit) _ => some ()) (fun _ _ i => ∀ j : Int, 0 ≤ j → j < i → rk rm rz w j ≠ x) (fun u _ => (∃ i, isAt rm rz w x i ∧ u = (100 * rs i + rz i, mr)) ∨ ((∀ j : Int, 0 ≤ j → j < rm → rk rm rz w j ≠ x) ∧ u = (-1, uf mr (- -1) (mr (- -1) + 1)))) () () (fun j q0 q1 => by omega) (fun fuel s b q0 q1 q2 => by
      show m_Mod_byPlace_18 (fuel + 1) x w b mr ow = m_Mod_byPlace_18 fuel x w (b + 1) mr ow
      rw [m_Mod_byPlace_18, clt_t (by omega), pM_beg0 hb ⟨q0, q1⟩ q2, bnd_s, ceq_t (by omega)]) (fun s t i q0 q1 hR => by
      have ha := R.at q0 q1
      have hg := pM_beg hb (b := rs i) ⟨by omega, by omega⟩ (R.run q0 q1)
      have hr := rk_bd (rz := rz) (w := w) q0 q1
      by_cases c : rk rm rz w i = x
      · refine Or.inr ⟨(100 * rs i + rz i, mr), (), fun fuel => ?_, fun _ => rfl, Or.inl ⟨i, ⟨q0, q1, c, hR⟩, rfl⟩⟩
        show m_Mod_byPlace_18 (fuel + 1) x w (rs i) mr ow = _
        rw [m_Mod_byPlace_18, clt_t (by omega), hg, bnd_s, ceq_f (by omega), p_aheadOf hb R q0 q1 hw, bnd_s, ceq_t (by omega), pM_size_at hb R q0 q1, bnd_s]
      · refine Or.inl ⟨(), (), fun fuel => ?_, fun _ => rfl, fun j q2 q3 => ?_⟩
        · show m_Mod_byPlace_18 (fuel + 1) x w (rs i) mr ow = m_Mod_byPlace_18 fuel x w (rs i + 1) mr ow
          rw [m_Mod_byPlace_18, clt_t (by omega), hg, bnd_s, ceq_f (by omega), p_aheadOf hb R q0 q1 hw, bnd_s, ceq_f (by omega)]
        · by_cases c2 : j = i
          · rw [c2]
            exact c
          · exact hR j q2 (by omega)) (fun s t hR => ⟨_, (), fun fuel => by
      show m_Mod_byPlace_18 (fuel + 1) x w 64 mr ow = some (-1, uf mr (- -1) (mr (- -1) + 1))
      rw [m_Mod_byPlace_18, clt_f (by omega), p_no (by omega), bnd_s], fun _ => rfl, Or.inr ⟨hR, rfl⟩⟩)
  have e1 : m_Mod_byPlace_18 5000 x w 0 mr ow = some u := e1
  rcases e3 with ⟨i, e3, e4⟩ | ⟨e3, e4⟩
  · exact Or.inl ⟨i, e3, by rw [e1, e4]⟩
  · exact Or.inr ⟨e3, by rw [e1, e4]⟩
theorem atRank_loop (R : RunsTo ow 64 rm rs rz) {x : Int} (hx : -2147483648 ≤ x ∧ x < 2147483648) : ∀ (d : Nat) (i : Int) (fuel : Nat), 0 ≤ i → i + d = rm → d < fuel → (∀ j : Int, 0 ≤ j → j < i → rk rm rz 1 j ≠ x) → (∃ k, isAt rm rz 1 x k ∧ m_Runs_atRankOfSize_2 fuel x i rm rz = some k) ∨ ((∀ j : Int, 0 ≤ j → j < rm → rk rm rz 1 j ≠ x) ∧ m_Runs_atRankOfSize_2 fuel x i rm rz = some (-1)) := by
  have hm := R.many (by omega)
  intro d
  induction d with
  | zero =>
    intro i fuel h0 h1 h2 h3
    cases fuel with
    | zero => omega
    | succ fuel => exact Or.inr ⟨fun j q0 q1 => h3 j q0 (by omega), by rw [m_Runs_atRankOfSize_2, clt_f (by omega)]⟩
  | succ d ih =>
    intro i fuel h0 h1 h2 h3
    cases fuel with
    | zero => omega
    | succ fuel =>
      have hr := rk_bd (rz := rz) (w := 1) h0 (show i < rm by omega)
      have e : rnk rm rz i = rk rm rz 1 i := by unfold rk; rw [if_neg (by omega)]
      rw [m_Runs_atRankOfSize_2, clt_t (by omega), p_rankD R h0 (by omega), bnd_s, e]
      by_cases c : rk rm rz 1 i = x
      · rw [ceq_t (by omega)]
        exact Or.inl ⟨i, ⟨h0, by omega, c, h3⟩, rfl⟩
      · rw [ceq_f (by omega)]
        refine ih (i + 1) fuel (by omega) (by omega) (by omega) (fun j q0 q1 => ?_)
        by_cases c2 : j = i
        · rw [c2]
          exact c
        · exact h3 j q0 (by omega)
end BYS
theorem e_byPlace : E_byPlace := by
  intro ik now nbt nki npl nva nwr kow kbt kki kpl kva kwr smn snu rmn rnu rf mr mb mo ml mw mt mk mp mq mz mh my mn nrm nrs nrz x1 x2 hR hx hx2
  obtain ⟨hI, hD, hk, hk1, h5, h6, h7⟩ := id hR
  unfold m_Vol_byPlace m_Mod_byPlace
  simp only [jn_s]
  rw [p_Vol_isEither hx2, bnd_s, p_Mod_isIn hx2 (by omega) (by omega), bnd_s, ceq_yn, ceq_yn]
  by_cases hw : x2 = 0 ∨ x2 = 1
  · rw [if_pos hw, if_pos (by omega)]
    obtain ⟨rm', rs', rz', e, R⟩ := lookedAt hI hD nrm nrs nrz
    have hm := R.many (by omega)
    have hm0 := R.1
    have hb := (Inv.at hI).1
    rw [e, bnd_s]
    dsimp only
    by_cases hin : 0 ≤ x1 ∧ x1 < rm'
    · rw [clt_f (by omega), clt_t (by omega)]
      rcases p_byPlaceM hb R (mr := mr) hx hw with ⟨i, a1, a2⟩ | ⟨a1, -⟩
      · have ha := R.at a1.1 a1.2.1
        rw [a2]
        rcases hw with hw | hw
        · subst hw
          have hi : x1 = i := by
            have := a1.2.2.1
            unfold rk at this
            rw [if_pos rfl] at this
            omega
          subst hi
          rw [ceq_t (by omega), p_startAt hin.1 hin.2 hm.1, bnd_s, p_sizeAt hin.1 hin.2 hm.1, bnd_s]
          exact ⟨_, _, rfl, rfl, rfl, hR⟩
        · subst hw
          rw [ceq_f (by omega)]
          rcases atRank_loop (rz := rz') R hx rm'.toNat 0 5000 (by omega) (by omega) (by omega) (fun j q0 q1 => by omega) with ⟨k, b1, b2⟩ | ⟨b1, -⟩
          · have hki := b1.eq a1
            subst hki
            have b3 : m_Runs_atRankOfSize x1 rm' rz' = some k := b2
            rw [b3, bnd_s, p_startAt a1.1 a1.2.1 hm.1, bnd_s, p_sizeAt a1.1 a1.2.1 hm.1, bnd_s]
            exact ⟨_, _, rfl, rfl, rfl, hR⟩
          · exact absurd a1.2.2.1 (b1 i a1.1 a1.2.1)
      · obtain ⟨i, i0, i1, e2⟩ := rk_ex (rz := rz') (w := x2) hin.1 hin.2
        exact absurd e2 (a1 i i0 i1)
    · have hno : m_Mod_byPlace_18 5000 x1 x2 0 mr mo = some (-1, uf mr (- -1) (mr (- -1) + 1)) := by
        rcases p_byPlaceM hb R (mr := mr) hx hw with ⟨i, a1, -⟩ | ⟨-, a2⟩
        · have := rk_bd (rz := rz') (w := x2) a1.1 a1.2.1
          have := a1.2.2.1
          omega
        · exact a2
      rw [hno]
      by_cases h0 : x1 < 0
      · rw [clt_t (by omega), p_refuse (by omega), bnd_s]
        exact ⟨_, _, rfl, rfl, rfl, hR.no (-1) (by omega)⟩
      · rw [clt_f (by omega), clt_f (by omega), p_refuse (by omega), bnd_s]
        exact ⟨_, _, rfl, rfl, rfl, hR.no (-1) (by omega)⟩
  · rw [if_neg hw, if_neg (by omega), p_refuse (by omega), p_no (by omega), bnd_s, bnd_s]
    exact ⟨_, _, rfl, rfl, rfl, hR.no (-2) (by omega)⟩
