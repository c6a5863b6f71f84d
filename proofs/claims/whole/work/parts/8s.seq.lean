/-! flushes of several files, one behind the other -/
abbrev MR : Type := Int × Int × (Int → Int) × (Int → Int) × (Int → Int) × (Int → Int) × (Int → Int)
def dseq : List Int → TG → Option TG
  | [], t => some t
  | f :: fs, t => bnd (m_Disk_flushUpTo f 1000 t.1 t.2.1 t.2.2.1 t.2.2.2.1 t.2.2.2.2.1 t.2.2.2.2.2.1 t.2.2.2.2.2.2.1 t.2.2.2.2.2.2.2.1 t.2.2.2.2.2.2.2.2) (fun r => dseq fs (r.2.1, r.2.2.1, t.2.2.1, r.2.2.2.1, r.2.2.2.2.1, r.2.2.2.2.2.1, r.2.2.2.2.2.2.1, r.2.2.2.2.2.2.2.1, r.2.2.2.2.2.2.2.2))
def mseq (ki : Int → Int) : List Int → MR → Option MR
  | [], x => some x
  | f :: fs, x => bnd (m_Mod_flushes f 1000000 x.1 x.2.1 x.2.2.1 x.2.2.2.1 x.2.2.2.2.1 x.2.2.2.2.2.1 x.2.2.2.2.2.2 ki) (fun r => mseq ki fs (r.2.1, r.2.2.1, r.2.2.2.1, r.2.2.2.2.1, r.2.2.2.2.2.1, r.2.2.2.2.2.2.1, r.2.2.2.2.2.2.2))
theorem seq_both {ki : Int → Int} : ∀ (L : List Int) (t : TG) (x : MR), (∀ f ∈ L, 0 ≤ f ∧ f < 4) → Inv x.2.2.1 x.2.2.2.1 x.2.2.2.2.1 x.2.2.2.2.2.1 x.2.2.2.2.2.2 ki → Dsk t.1 t.2.1 t.2.2.1 t.2.2.2.1 t.2.2.2.2.1 t.2.2.2.2.2.1 x.2.2.1 x.2.2.2.1 x.2.2.2.2.1 x.2.2.2.2.2.1 x.2.2.2.2.2.2 ki →
    ∃ (t' : TG) (x' : MR), dseq L t = some t' ∧ mseq ki L x = some x' ∧ Inv x'.2.2.1 x'.2.2.2.1 x'.2.2.2.2.1 x'.2.2.2.2.2.1 x'.2.2.2.2.2.2 ki ∧ Dsk t'.1 t'.2.1 t'.2.2.1 t'.2.2.2.1 t'.2.2.2.2.1 t'.2.2.2.2.2.1 x'.2.2.1 x'.2.2.2.1 x'.2.2.2.2.1 x'.2.2.2.2.2.1 x'.2.2.2.2.2.2 ki := by
  intro L
  induction L with
  | nil =>
    intro t x _ hI hD
    exact ⟨t, x, rfl, rfl, hI, hD⟩
  | cons f fs ih =>
    intro t x hL hI hD
    obtain ⟨st, vow', vbt', vpl', vva', vwr', rm', rs', rz', bt', ow', bl', wr', wa', e1, e2, nI, nD, -⟩ := flush_both hI hD (hL f (List.mem_cons_self ..)) (K := 1000) (M := 1000000) (Or.inr ⟨rfl, rfl⟩) t.2.2.2.2.2.2.1 t.2.2.2.2.2.2.2.1 t.2.2.2.2.2.2.2.2 x.1 x.2.1
    obtain ⟨t', x', f1, f2, pI, pD⟩ := ih (vow', vbt', t.2.2.1, vpl', vva', vwr', rm', rs', rz') (st, 1000000, bt', ow', bl', wr', wa') (fun g hg => hL g (List.mem_cons_of_mem _ hg)) nI nD
    refine ⟨t', x', ?_, ?_, pI, pD⟩
    · rw [dseq, e1, bnd_s]
      exact f1
    · rw [mseq, e2, bnd_s]
      exact f2
section SQV
variable {bt ow bl wr wa ki vow vbt vki vpl vva vwr : Int → Int}
/-- what the flushes of a list leave, as extents -/
def SV (L : List Int) (vow vbt vki vpl vva vwr : Int → Int) (W : Int → Int) : Prop := (∀ f : Int, 0 ≤ W f ∧ W f ≤ 24) ∧ (∀ g : TG, ∃ (w' : Int → Int) (t : TG), m_Disk_copyFrom g.1 g.2.1 g.2.2.1 g.2.2.2.1 g.2.2.2.2.1 g.2.2.2.2.2.1 vow vbt vki vpl vva vwr = some (vow, vbt, vki, vpl, vva, w') ∧ dseq L (vow, vbt, vki, vpl, vva, w', g.2.2.2.2.2.2.1, g.2.2.2.2.2.2.2.1, g.2.2.2.2.2.2.2.2) = some t ∧ m_Disk_extentsInAll t.2.2.2.1 t.2.2.2.2.2.1 = some (W 0 + W 1 + W 2 + W 3) ∧ ∀ f : Int, 0 ≤ f → f < 4 → m_Disk_extentsIn f t.2.2.2.1 t.2.2.2.2.2.1 = some (W f)) ∧
  (∀ (x : MR) (k : Int → Int), Inv x.2.2.1 x.2.2.2.1 x.2.2.2.2.1 x.2.2.2.2.2.1 x.2.2.2.2.2.2 k → Dsk vow vbt vki vpl vva vwr x.2.2.1 x.2.2.2.1 x.2.2.2.2.1 x.2.2.2.2.2.1 x.2.2.2.2.2.2 k → ∃ x' : MR, mseq k L x = some x' ∧ m_Mod_allExtents x'.2.2.2.2.1 x'.2.2.2.2.2.1 = some (W 0 + W 1 + W 2 + W 3) ∧ ∀ f : Int, 0 ≤ f → f < 4 → m_Mod_extents f x'.2.2.2.2.1 x'.2.2.2.2.2.1 = some (W f))
theorem seq_val (hI : Inv bt ow bl wr wa ki) (hD : Dsk vow vbt vki vpl vva vwr bt ow bl wr wa ki) (L : List Int) (hL : ∀ f ∈ L, 0 ≤ f ∧ f < 4) : ∃ W, SV L vow vbt vki vpl vva vwr W := by
  have h0 : ∀ g : TG, ∃ (w' : Int → Int) (t : TG) (x' : MR), m_Disk_copyFrom g.1 g.2.1 g.2.2.1 g.2.2.2.1 g.2.2.2.2.1 g.2.2.2.2.2.1 vow vbt vki vpl vva vwr = some (vow, vbt, vki, vpl, vva, w') ∧ dseq L (vow, vbt, vki, vpl, vva, w', g.2.2.2.2.2.2.1, g.2.2.2.2.2.2.2.1, g.2.2.2.2.2.2.2.2) = some t ∧ mseq ki L (0, 0, bt, ow, bl, wr, wa) = some x' ∧ Inv x'.2.2.1 x'.2.2.2.1 x'.2.2.2.2.1 x'.2.2.2.2.2.1 x'.2.2.2.2.2.2 ki ∧ Dsk t.1 t.2.1 t.2.2.1 t.2.2.2.1 t.2.2.2.2.1 t.2.2.2.2.2.1 x'.2.2.1 x'.2.2.2.1 x'.2.2.2.2.1 x'.2.2.2.2.2.1 x'.2.2.2.2.2.2 ki := by
    intro g
    obtain ⟨w', c1, c2⟩ := copied hI hD vki g.1 g.2.1 g.2.2.1 g.2.2.2.1 g.2.2.2.2.1 g.2.2.2.2.2.1
    obtain ⟨t, x', e1, e2, e3, e4⟩ := seq_both (ki := ki) L (vow, vbt, vki, vpl, vva, w', g.2.2.2.2.2.2.1, g.2.2.2.2.2.2.2.1, g.2.2.2.2.2.2.2.2) (0, 0, bt, ow, bl, wr, wa) hL hI c2
    exact ⟨w', t, x', c1, e1, e2, e3, e4⟩
  obtain ⟨w0, t0, x0, a1, a2, a3, a4, a5⟩ := h0 (vow, vow, vow, vow, vow, vow, 0, vow, vow)
  refine ⟨ext x0.2.2.2.2.1 x0.2.2.2.2.2.1, fun f => ext_bd, fun g => ?_, fun x k jI jD => ?_⟩
  · obtain ⟨w', t, x', b1, b2, b3, b4, b5⟩ := h0 g
    rw [a3] at b3
    cases b3
    exact ⟨w', t, b1, b2, pD_extentsInAll b4 b5, fun f q0 q1 => pD_extentsIn b4 b5 ⟨q0, q1⟩⟩
  · obtain ⟨w', c1, c2⟩ := copied jI jD vki vow vow vow vow vow vow
    obtain ⟨t, x', e1, e2, e3, e4⟩ := seq_both (ki := k) L (vow, vbt, vki, vpl, vva, w', 0, vow, vow) x hL jI c2
    have hw : w' = w0 := by
      have a1 : m_Disk_copyFrom vow vow vow vow vow vow vow vbt vki vpl vva vwr = some (vow, vbt, vki, vpl, vva, w0) := a1
      rw [c1] at a1
      cases a1
      rfl
    subst hw
    have a2 : dseq L (vow, vbt, vki, vpl, vva, w', 0, vow, vow) = some t0 := a2
    rw [a2] at e1
    cases e1
    have hx : ∀ f : Int, 0 ≤ f → f < 4 → ext x'.2.2.2.2.1 x'.2.2.2.2.2.1 f = ext x0.2.2.2.2.1 x0.2.2.2.2.2.1 f := by
      intro f q0 q1
      have y1 := pD_extentsIn a4 a5 ⟨q0, q1⟩
      have y2 := pD_extentsIn e3 e4 ⟨q0, q1⟩
      rw [y1] at y2
      exact (Option.some.inj y2).symm
    refine ⟨x', e2, ?_, fun f q0 q1 => ?_⟩
    · rw [pM_allExtents e3]
      unfold exts
      rw [hx 0 (by omega) (by omega), hx 1 (by omega) (by omega), hx 2 (by omega) (by omega), hx 3 (by omega) (by omega)]
    · rw [pM_extents e3 ⟨q0, q1⟩, hx f q0 q1]
end SQV
