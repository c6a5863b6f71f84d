/-! what a crash loses -/
theorem gcd_two {a b : Int} (ha : 0 ≤ a ∧ a ≤ 100000) (hb : 1 ≤ b ∧ b ≤ 100) : ∃ g : Int, m_Vol_greatestDivisor a b = some g ∧ m_Mod_divisor a b = some g ∧ 0 < g ∧ g ≤ 1000 := by
  have q1 := Int.emod_nonneg a (show b ≠ 0 by omega)
  have q2 := Int.emod_lt_of_pos a (show 0 < b by omega)
  unfold m_Vol_greatestDivisor m_Mod_divisor
  have s1 : ∀ f : Nat, m_Vol_greatestDivisor_7 (f + 1) a b 0 = m_Vol_greatestDivisor_7 f b (a % b) 1 := fun f => by
    rw [m_Vol_greatestDivisor_7, clt_t (by omega), ceq_f (by omega), gd_xz (by omega)]
    rfl
  have s2 : ∀ f : Nat, m_Mod_divisor_6 (f + 1) a b = m_Mod_divisor_6 f b (a % b) := fun f => by
    rw [m_Mod_divisor_6, gd_qq (by omega), show z_cmp b 0 = 1 from if_pos (by omega), ceq_f (by omega)]
    rw [gd_t (c := zx a 9223372036854775808 ∧ zp b 9223372036854775808) (by omega)]
  rw [s1 4999, s2 4999]
  by_cases hr : a % b = 0
  · rw [hr]
    obtain ⟨g, e1, e2, e3, e4, e5⟩ := gcd_both 0 b 0 4999 4999 1 (by omega) (by omega) (by omega) (by omega) (by omega) (by omega) (by omega) (by omega)
    exact ⟨g, e1, e2, e5 (Or.inl (by omega)), e4⟩
  · generalize hrr : a % b = r at *
    have p1 := Int.emod_nonneg b (show r ≠ 0 by omega)
    have p2 := Int.emod_lt_of_pos b (show 0 < r by omega)
    have h1 : 1 ≤ b / r := (Int.le_ediv_iff_mul_le (by omega)).mpr (by omega)
    have h2 : r * 1 ≤ r * (b / r) := Int.mul_le_mul_of_nonneg_left h1 (by omega)
    have h3 := Int.emod_def b r
    have t1 : m_Vol_greatestDivisor_7 4999 b r 1 = m_Vol_greatestDivisor_7 4998 r (b % r) 2 := by
      rw [m_Vol_greatestDivisor_7, clt_t (by omega), ceq_f (by omega), gd_xz (by omega)]
      rfl
    have t2 : m_Mod_divisor_6 4999 b r = m_Mod_divisor_6 4998 r (b % r) := by
      rw [m_Mod_divisor_6, gd_qq (by omega), show z_cmp r 0 = 1 from if_pos (by omega), ceq_f (by omega)]
      rw [gd_t (c := zx b 9223372036854775808 ∧ zp r 9223372036854775808) (by omega)]
    rw [t1, t2]
    obtain ⟨g, e1, e2, e3, e4, e5⟩ := gcd_both 50 r (b % r) 4998 4998 2 (by omega) (by omega) (by omega) (by omega) (by omega) (by omega) (by omega) (by omega)
    exact ⟨g, e1, e2, e5 (Or.inl (by omega)), e4⟩
theorem part_both {a b w : Int} (ha : 0 ≤ a ∧ a ≤ 100000) (hb : 1 ≤ b ∧ b ≤ 100) (hw : w = 0 ∨ w = 1) : ∃ r : Int, m_Vol_partOf a b w = some r ∧ m_Mod_partOf a b w = some r := by
  obtain ⟨g, e1, e2, g0, g1⟩ := gcd_two ha hb
  have dA : 0 ≤ a / g ∧ a / g ≤ a := ⟨Int.ediv_nonneg ha.1 (by omega), Int.ediv_le_self _ ha.1⟩
  have dB : 0 ≤ b / g ∧ b / g ≤ b := ⟨Int.ediv_nonneg (by omega) (by omega), Int.ediv_le_self _ (by omega)⟩
  unfold m_Vol_partOf m_Mod_partOf
  simp only [jn_s]
  rw [e1, bnd_s]
  by_cases h0 : a = 0
  · subst h0
    have hg : g = b := by
      have s2 : m_Mod_divisor 0 b = some b := by
        unfold m_Mod_divisor
        rw [m_Mod_divisor_6, gd_qq (by omega), show z_cmp b 0 = 1 from if_pos (by omega), ceq_f (by omega)]
        rw [gd_t (c := zx 0 9223372036854775808 ∧ zp b 9223372036854775808) (by omega), Int.zero_emod, m_Mod_divisor_6, gd_qq (by omega), show z_cmp 0 0 = 0 from rfl, ceq_t (by omega)]
      rw [e2] at s2
      exact Option.some.inj s2
    subst hg
    rw [ceq_t (x := 0) (y := 0) (by omega), gd_r (by omega)]
    rcases hw with hw | hw
    · subst hw
      refine ⟨0, rfl, ?_⟩
      rw [ceq_t (by omega), e2, bnd_s, gd_t (c := zx 0 9223372036854775808 ∧ zp g 9223372036854775808) (by omega), Int.zero_ediv]
    · subst hw
      refine ⟨1, rfl, ?_⟩
      rw [ceq_f (by omega), e2, bnd_s, gd_t (c := zx g 9223372036854775808 ∧ zp g 9223372036854775808) (by omega), Int.ediv_self (by omega)]
  · rw [ceq_f (x := a) (y := 0) (by omega), ceq_f (x := g) (y := 0) (by omega)]
    rcases hw with hw | hw
    · subst hw
      refine ⟨a / g, ?_, ?_⟩
      · rw [ceq_t (by omega), gd_xz (by omega), gd_r (by omega)]
      · rw [ceq_t (by omega), e2, bnd_s, gd_t (c := zx a 9223372036854775808 ∧ zp g 9223372036854775808) (by omega)]
    · subst hw
      refine ⟨b / g, ?_, ?_⟩
      · rw [ceq_f (by omega), gd_xz (by omega), gd_r (by omega)]
      · rw [ceq_f (by omega), e2, bnd_s, gd_t (c := zx b 9223372036854775808 ∧ zp g 9223372036854775808) (by omega)]
theorem cn_nil {P : Int → Prop} [DecidablePred P] : ∀ n : Nat, (∀ j : Int, 0 ≤ j → j < n → ¬ P j) → cn P n = 0
  | 0, _ => rfl
  | n + 1, h => by
    unfold cn
    rw [cn_nil n (fun j h0 h1 => h j h0 (by omega)), if_neg (h n (by omega) (by omega))]
    rfl
section LOS
variable {bt ow bl wr wa ki vow vbt vki vpl vva vwr : Int → Int}
theorem rd_bd (hI : Inv bt ow bl wr wa ki) {a : Int} (ha : 0 ≤ a ∧ a < 96) : 0 ≤ rd bt bl wr wa a ∧ rd bt bl wr wa a ≤ 99 := by
  have i4 := hI.2.2.2.1 a ha.1 ha.2
  have i2 := hI.2.1 a ha.1 ha.2
  unfold rd
  by_cases h : 0 ≤ wa a
  · rw [if_pos h]
    omega
  · rw [if_neg h]
    by_cases h2 : 0 ≤ bl a ∧ wr a = 1
    · rw [if_pos h2]
      exact hI.2.2.2.2.1 (bl a) h2.1 (by omega)
    · rw [if_neg h2]
      omega
/-- pages of a file that are read otherwise -/
def oth (b l w a b2 l2 w2 a2 : Int → Int) (f : Int) : Int := cn (fun p => rd b2 l2 w2 a2 (24 * f + p) ≠ rd b l w a (24 * f + p)) 24
variable {b2 o2 l2 w2 a2 k2 t1 t2 t3 t4 t5 t6 : Int → Int}
theorem p_otherwise (hI : Inv bt ow bl wr wa ki) (hD : Dsk vow vbt vki vpl vva vwr bt ow bl wr wa ki) (nI : Inv b2 o2 l2 w2 a2 k2) (nD : Dsk t1 t2 t3 t4 t5 t6 b2 o2 l2 w2 a2 k2) {f : Int} (hf : 0 ≤ f ∧ f < 4) : m_Mind_otherwiseIn f vbt vpl vva vwr t2 t4 t5 t6 = some (oth bt bl wr wa b2 l2 w2 a2 f) := by
  refine cn_file (fun p => rd b2 l2 w2 a2 (24 * f + p) ≠ rd bt bl wr wa (24 * f + p)) (fun fuel v i => m_Mind_otherwiseIn_4 fuel f v i vbt vpl vva vwr t2 t4 t5 t6) (fun fuel v i h0 h1 _ _ => ?_) (fun fuel v _ _ => ?_)
  · have r1 := rd_bd hI (a := 24 * f + i) ⟨by omega, by omega⟩
    have r2 := rd_bd nI (a := 24 * f + i) ⟨by omega, by omega⟩
    rw [m_Mind_otherwiseIn_4, clt_t (by omega), p_Disk_readAt hI hD hf ⟨h0, h1⟩, bnd_s, p_Disk_readAt nI nD hf ⟨h0, h1⟩, bnd_s, rd_v hI ⟨by omega, by omega⟩, rd_v nI ⟨by omega, by omega⟩]
    by_cases c : rd b2 l2 w2 a2 (24 * f + i) = rd bt bl wr wa (24 * f + i)
    · rw [ceq_t (by omega), if_neg (fun q => q c), Int.add_zero]
    · rw [ceq_f (by omega), if_pos c]
  · rw [m_Mind_otherwiseIn_4, clt_f (by omega)]
theorem rem_loop (hI : Inv bt ow bl wr wa ki) : ∀ (d : Nat) (i : Int) (w : Int → Int) (fuel : Nat), 0 ≤ i → i + d = 96 → d < fuel → ∃ w', m_Mod_remembers_2 fuel i bt bl wr wa w = some w' ∧ (∀ j : Int, i ≤ j → j < 96 → w' j = rd bt bl wr wa j) ∧ (∀ j : Int, j < i → w' j = w j) := by
  intro d
  induction d with
  | zero =>
    intro i w fuel h0 h1 h2
    cases fuel with
    | zero => omega
    | succ fuel => exact ⟨w, by rw [m_Mod_remembers_2, clt_f (by omega)], fun j q0 q1 => by omega, fun j _ => rfl⟩
  | succ d ih =>
    intro i w fuel h0 h1 h2
    cases fuel with
    | zero => omega
    | succ fuel =>
      obtain ⟨w', e1, e2, e3⟩ := ih (i + 1) (uf w i (rd bt bl wr wa i)) fuel (by omega) (by omega) (by omega)
      refine ⟨w', ?_, fun j q0 q1 => ?_, fun j q0 => ?_⟩
      · rw [m_Mod_remembers_2, clt_t (by omega), p_Mod_readAt hI ⟨h0, by omega⟩, bnd_s, gd_x (by omega), rd_v hI ⟨h0, by omega⟩]
        exact e1
      · by_cases c : j = i
        · rw [c, e3 i (by omega), uf_s]
        · exact e2 j (by omega) q1
      · rw [e3 j (by omega), uf_n (by omega)]
def lossM (b l w a b2 l2 w2 a2 : Int → Int) (f o : Int) : Int := cn (fun p => ((p / 24 = f ∧ o = 0) ∨ (p / 24 ≠ f ∧ o = 1)) ∧ rd b2 l2 w2 a2 p ≠ rd b l w a p) 96
theorem seg {b l w a b2 l2 w2 a2 : Int → Int} {f o g : Int} (hg : 0 ≤ g ∧ g < 4) : cn (fun p => ((24 * g + p) / 24 = f ∧ o = 0 ∨ (24 * g + p) / 24 ≠ f ∧ o = 1) ∧ rd b2 l2 w2 a2 (24 * g + p) ≠ rd b l w a (24 * g + p)) 24 = if (g = f ∧ o = 0) ∨ (g ≠ f ∧ o = 1) then oth b l w a b2 l2 w2 a2 g else 0 := by
  by_cases c : (g = f ∧ o = 0) ∨ (g ≠ f ∧ o = 1)
  · rw [if_pos c]
    unfold oth
    refine cn_congr 24 (fun j h0 h1 => ?_)
    have e : (24 * g + j) / 24 = g := by omega
    rw [e]
    exact ⟨fun q => q.2, fun q => ⟨c, q⟩⟩
  · rw [if_neg c]
    refine cn_nil 24 (fun j h0 h1 q => ?_)
    have e : (24 * g + j) / 24 = g := by omega
    rw [e] at q
    exact c q.1
theorem lossM_own {b l w a b2 l2 w2 a2 : Int → Int} {f : Int} (hf : 0 ≤ f ∧ f < 4) : lossM b l w a b2 l2 w2 a2 f 0 = oth b l w a b2 l2 w2 a2 f := by
  unfold lossM
  rw [cn_four, seg (by omega), seg (by omega), seg (by omega), seg (by omega)]
  have hff : f = 0 ∨ f = 1 ∨ f = 2 ∨ f = 3 := by omega
  rcases hff with q | q | q | q <;> subst q
  · rw [if_pos (by omega), if_neg (by omega), if_neg (by omega), if_neg (by omega)]
    omega
  · rw [if_neg (by omega), if_pos (by omega), if_neg (by omega), if_neg (by omega)]
    omega
  · rw [if_neg (by omega), if_neg (by omega), if_pos (by omega), if_neg (by omega)]
    omega
  · rw [if_neg (by omega), if_neg (by omega), if_neg (by omega), if_pos (by omega)]
    omega
def skp (f g x : Int) : Int := if g = f then 0 else x
theorem lossM_others {b l w a b2 l2 w2 a2 : Int → Int} {f : Int} : lossM b l w a b2 l2 w2 a2 f 1 = 0 + skp f 0 (oth b l w a b2 l2 w2 a2 0) + skp f 1 (oth b l w a b2 l2 w2 a2 1) + skp f 2 (oth b l w a b2 l2 w2 a2 2) + skp f 3 (oth b l w a b2 l2 w2 a2 3) := by
  have h : ∀ g x : Int, (if (g = f ∧ (1 : Int) = 0) ∨ (g ≠ f ∧ (1 : Int) = 1) then x else 0) = skp f g x := by
    intro g x
    unfold skp
    by_cases c : g = f
    · rw [if_neg (by omega), if_pos c]
    · rw [if_pos (by omega), if_neg c]
  unfold lossM
  rw [cn_four, seg (by omega), seg (by omega), seg (by omega), seg (by omega), h, h, h, h, Int.zero_add]
theorem others_row (hI : Inv bt ow bl wr wa ki) (hD : Dsk vow vbt vki vpl vva vwr bt ow bl wr wa ki) (nI : Inv b2 o2 l2 w2 a2 k2) (nD : Dsk t1 t2 t3 t4 t5 t6 b2 o2 l2 w2 a2 k2) {f g v rm : Int} {rs rz : Int → Int} {fuel : Nat} (hf : 0 ≤ f ∧ f < 4) (hg : 0 ≤ g ∧ g < 4) : m_Mind_lossOfOthers_11 (fuel + 1) f v g vow vbt vki vpl vva vwr t1 t2 t3 t4 t5 t6 rm rs rz = m_Mind_lossOfOthers_11 fuel f (v + skp f g (oth bt bl wr wa b2 l2 w2 a2 g)) (g + 1) vow vbt vki vpl vva vwr t1 t2 t3 t4 t5 t6 rm rs rz := by
  unfold skp
  rw [m_Mind_lossOfOthers_11, clt_t (by omega)]
  by_cases c : g = f
  · rw [ceq_t (by omega), if_pos c, Int.add_zero]
  · rw [ceq_f (by omega), if_neg c, p_otherwise hI hD nI nD hg, bnd_s]
/-- the last crash of all: all steps made, nothing of the file waits -/
def FS (f st : Int) (bt ow bl wr wa ki : Int → Int) : Prop := 0 ≤ st ∧ st ≤ 99 ∧ ∃ b' o' l' w' a' : Int → Int, m_Mod_flushes f 1000000 0 0 bt ow bl wr wa ki = some (st, st, 1000000, b', o', l', w', a') ∧ Inv b' o' l' w' a' ki ∧ (∀ a : Int, 0 ≤ a → a < 96 → rd b' l' w' a' a = rd bt bl wr wa a) ∧ ∀ q : Int, 0 ≤ q → q < 24 → a' (24 * f + q) < 0
theorem steps_full (hI : Inv bt ow bl wr wa ki) (hD : Dsk vow vbt vki vpl vva vwr bt ow bl wr wa ki) {f : Int} (hf : 0 ≤ f ∧ f < 4) (g : TG) : ∃ (n : Int) (t : TG), m_Mind_stepsOf f vow vbt vki vpl vva vwr g.1 g.2.1 g.2.2.1 g.2.2.2.1 g.2.2.2.2.1 g.2.2.2.2.2.1 g.2.2.2.2.2.2.1 g.2.2.2.2.2.2.2.1 g.2.2.2.2.2.2.2.2 = some (n, t) ∧ FS f n bt ow bl wr wa ki := by
  obtain ⟨w', c1, c2⟩ := copied hI hD vki g.1 g.2.1 g.2.2.1 g.2.2.2.1 g.2.2.2.2.1 g.2.2.2.2.2.1
  obtain ⟨st, vow', vbt', vpl', vva', vwr', rm', rs', rz', bt', ow', bl', wr', wa', e1, e2, nI, nD, s0, s1, s2, s3, s4⟩ := flush_both hI c2 hf (K := 1000) (M := 1000000) (Or.inr ⟨rfl, rfl⟩) g.2.2.2.2.2.2.1 g.2.2.2.2.2.2.2.1 g.2.2.2.2.2.2.2.2 0 0
  refine ⟨st, (vow', vbt', vki, vpl', vva', vwr', rm', rs', rz'), ?_, s0, s2, bt', ow', bl', wr', wa', e2, nI, s3, s4 (by omega)⟩
  unfold m_Mind_stepsOf
  rw [c1, bnd_s]
  dsimp only
  rw [e1, bnd_s]
theorem FS.eq {f m n : Int} (h : FS f m bt ow bl wr wa ki) (g : FS f n bt ow bl wr wa ki) : m = n := by
  obtain ⟨-, -, b1, o1, l1, w1, a1, e1, -⟩ := h
  obtain ⟨-, -, b3, o3, l3, w3, a3, e3, -⟩ := g
  rw [e1] at e3
  cases e3
  rfl
theorem crash_full {f st sm sM n st2 : Int} {b' o' l' w' a' : Int → Int} (hf : 0 ≤ f ∧ f < 4) (h : FS f st bt ow bl wr wa ki) (hc : m_Mod_crashes f st sm sM bt ow bl wr wa ki = some (n, st2, st, b', o', l', w', a')) {q : Int} (q0 : 0 ≤ q) (q1 : q < 24) : rd b' l' w' a' (24 * f + q) = rd bt bl wr wa (24 * f + q) := by
  obtain ⟨s0, s1, b1, o1, l1, w1, a1, e1, eI, e2, e3⟩ := h
  have e4 := flush_lim e1 s1 sm sM st (by omega) (by omega)
  unfold m_Mod_crashes at hc
  rw [e4, bnd_s] at hc
  obtain ⟨r3, -, hc⟩ := bnd_e hc
  dsimp only at hc
  obtain ⟨w', c1, c2, -⟩ := dropM_loop (bt := b1) (ow := o1) (bl := l1) (wr := w1) (ki := ki) r3 st st 96 0 a1 5000 (by omega) (by omega) (by omega)
  rw [c1] at hc
  cases hc
  rw [← e2 (24 * f + q) (by omega) (by omega)]
  have h1 := e3 q q0 q1
  have h2 := c2 (24 * f + q) (by omega) (by omega)
  unfold rd
  rw [if_neg (show ¬ 0 ≤ a' (24 * f + q) by omega), if_neg (show ¬ 0 ≤ a1 (24 * f + q) by omega)]
theorem oth_bd {b l w a b2 l2 w2 a2 : Int → Int} {f : Int} : 0 ≤ oth b l w a b2 l2 w2 a2 f ∧ oth b l w a b2 l2 w2 a2 f ≤ 24 := cn_bd _ 24
/-- a crash in mind: what is lost -/
theorem loss_both {mz mw : Int → Int} {f k o : Int} (hI : Inv bt ow bl wr wa ki) (hD : Dsk vow vbt vki vpl vva vwr bt ow bl wr wa ki) (hf : 0 ≤ f ∧ f < 4) (hk : 0 ≤ k ∧ k ≤ 99) (ho : o = 0 ∨ o = 1) (g : TG) (sm sM mi mc : Int) :
    ∃ (n : Int) (t : TG) (x : MS) (mw' : Int → Int), (o = 0 → m_Mind_lossOfOwn f k vow vbt vki vpl vva vwr g.1 g.2.1 g.2.2.1 g.2.2.2.1 g.2.2.2.2.1 g.2.2.2.2.2.1 g.2.2.2.2.2.2.1 g.2.2.2.2.2.2.2.1 g.2.2.2.2.2.2.2.2 = some (n, t)) ∧ (o = 1 → m_Mind_lossOfOthers f k vow vbt vki vpl vva vwr g.1 g.2.1 g.2.2.1 g.2.2.2.1 g.2.2.2.2.1 g.2.2.2.2.2.1 g.2.2.2.2.2.2.1 g.2.2.2.2.2.2.2.1 g.2.2.2.2.2.2.2.2 = some (n, t)) ∧ m_Mod_losesBy f k o sm sM mi mc bt ow bl wr wa ki mz mw = some (n, x.1, x.2.1, x.2.2.1, x.2.2.2.1, x.2.2.2.2.1, x.2.2.2.2.2.1, x.2.2.2.2.2.2.1, x.2.2.2.2.2.2.2.1, x.2.2.2.2.2.2.2.2.1, x.2.2.2.2.2.2.2.2.2.1, x.2.2.2.2.2.2.2.2.2.2, mw') ∧ SmT bt ow bl wr wa ki mz x ∧ 0 ≤ n ∧ n ≤ 96 ∧ (o = 0 → n ≤ 24) ∧ (o = 0 → FS f k bt ow bl wr wa ki → n = 0) := by
  obtain ⟨w', c1, c2⟩ := copied hI hD vki g.1 g.2.1 g.2.2.1 g.2.2.2.1 g.2.2.2.2.1 g.2.2.2.2.2.1
  obtain ⟨cn1, st, vow', vbt', vpl', vva', vwr', rm', rs', rz', va', bt', ow', bl', wr', wa', e1, e2, e3, nI, nD, s0, s1, s2, -⟩ := crash_both hI c2 hf (K := k) (M := k) (Or.inl ⟨hk.1, hk.2, rfl⟩) g.2.2.2.2.2.2.1 g.2.2.2.2.2.2.2.1 g.2.2.2.2.2.2.2.2 sm sM
  have hcb : m_Mind_crashBehind f k vow vbt vki vpl vva vwr g.1 g.2.1 g.2.2.1 g.2.2.2.1 g.2.2.2.2.1 g.2.2.2.2.2.1 g.2.2.2.2.2.2.1 g.2.2.2.2.2.2.2.1 g.2.2.2.2.2.2.2.2 = some (vow', vbt', vki, vpl', va', vwr', rm', rs', rz') := by
    unfold m_Mind_crashBehind
    rw [c1, bnd_s]
    dsimp only
    rw [e1, bnd_s]
    dsimp only
    rw [e2, bnd_s]
  obtain ⟨c, kp, m1, m2⟩ := minds_forgets mi mc bt ow bl wr wa ki mz
  obtain ⟨cc, b3, o3, l3, w3, x3, k3, m3, m4⟩ := m2 1 c bt' ow' bl' wr' wa' ki
  obtain ⟨mw', u1, u2, -⟩ := rem_loop hI 96 0 mw 5000 (by omega) (by omega) (by omega)
  have hcnt := cn_bd (fun p => ((p / 24 = f ∧ o = 0) ∨ (p / 24 ≠ f ∧ o = 1)) ∧ rd bt' bl' wr' wa' p ≠ rd bt bl wr wa p) 96
  have hbd : 0 ≤ lossM bt bl wr wa bt' bl' wr' wa' f o ∧ lossM bt bl wr wa bt' bl' wr' wa' f o ≤ 96 := hcnt
  have hb24 := oth_bd (b := bt) (l := bl) (w := wr) (a := wa) (b2 := bt') (l2 := bl') (w2 := wr') (a2 := wa') (f := f)
  refine ⟨lossM bt bl wr wa bt' bl' wr' wa' f o, (vow', vbt', vki, vpl', va', vwr', rm', rs', rz'), (st, k, 0, cc, b3, o3, l3, w3, x3, k3, kp), mw', fun q => ?_, fun q => ?_, ?_, m4, hbd.1, hbd.2, fun q => ?_, fun q hF => ?_⟩
  · subst q
    unfold m_Mind_lossOfOwn
    rw [hcb, bnd_s, p_otherwise hI hD nI nD hf, bnd_s, lossM_own hf]
  · subst q
    unfold m_Mind_lossOfOthers
    rw [hcb, bnd_s]
    dsimp only
    rw [others_row hI hD nI nD hf (by omega), others_row hI hD nI nD hf (by omega), others_row hI hD nI nD hf (by omega), others_row hI hD nI nD hf (by omega), m_Mind_lossOfOthers_11, clt_f (by omega), lossM_others]
    rfl
  · unfold m_Mod_losesBy m_Mod_remembers
    rw [u1, bnd_s, m1, bnd_s]
    dsimp only
    rw [e3, bnd_s]
    refine cn_loopG (fun p => ((p / 24 = f ∧ o = 0) ∨ (p / 24 ≠ f ∧ o = 1)) ∧ rd bt' bl' wr' wa' p ≠ rd bt bl wr wa p) 96 (fun fuel v i => m_Mod_losesBy_21 fuel f o v i st k 1 c bt' ow' bl' wr' wa' ki kp mw') (fun v => (v, st, k, 0, cc, b3, o3, l3, w3, x3, k3, kp, mw')) (fun fuel v i h0 h1 h2 h3 => ?_) (fun fuel v h2 h3 => ?_) 96 0 5000 (by omega) (by omega)
    · have r1 := rd_bd hI (a := i) ⟨h0, by omega⟩
      have r2 := rd_bd nI (a := i) ⟨h0, by omega⟩
      have hw := u2 i h0 (by omega)
      rw [m_Mod_losesBy_21, clt_t (by omega), gd_xz (by omega)]
      simp only [jn_s]
      by_cases c1 : i / 24 = f
      · rw [ceq_t (by omega)]
        rcases ho with ho | ho
        · rw [ceq_f (by omega), p_Mod_readAt nI ⟨h0, by omega⟩, bnd_s, gd_x (by omega), hw, rd_v nI ⟨h0, by omega⟩]
          by_cases c3 : rd bt' bl' wr' wa' i = rd bt bl wr wa i
          · rw [ceq_t (by omega), if_neg (fun q => q.2 c3)]
          · rw [ceq_f (by omega), if_pos ⟨Or.inl ⟨c1, ho⟩, c3⟩]
        · rw [ceq_t (by omega), if_neg (by omega)]
      · rw [ceq_f (by omega)]
        rcases ho with ho | ho
        · rw [ceq_t (by omega), if_neg (by omega)]
        · rw [ceq_f (by omega), p_Mod_readAt nI ⟨h0, by omega⟩, bnd_s, gd_x (by omega), hw, rd_v nI ⟨h0, by omega⟩]
          by_cases c3 : rd bt' bl' wr' wa' i = rd bt bl wr wa i
          · rw [ceq_t (by omega), if_neg (fun q => q.2 c3)]
          · rw [ceq_f (by omega), if_pos ⟨Or.inr ⟨c1, ho⟩, c3⟩]
    · rw [m_Mod_losesBy_21, clt_f (by omega), m3, bnd_s]
  · rw [q, lossM_own hf]
    exact hb24.2
  · rw [q, lossM_own hf]
    unfold oth
    refine cn_nil 24 (fun j h0 h1 hne => hne ?_)
    exact crash_full hf hF e3 h0 h1
end LOS
