/-! what is looked up -/
theorem p_kindAt {f : Int} {ki : Int → Int} (hf : 0 ≤ f ∧ f < 4) : m_Disk_kindAt f ki = some (ki f) := by
  unfold m_Disk_kindAt
  rw [clt_f (by omega), clt_t (by omega), gd_x (by omega)]
theorem p_ownerAt {b : Int} {ow : Int → Int} (hb : 0 ≤ b ∧ b < 64) : m_Disk_ownerAt b ow = some (ow b) := by
  unfold m_Disk_ownerAt
  rw [clt_f (by omega), clt_t (by omega), gd_x (by omega)]
theorem p_byteAt {b : Int} {bt : Int → Int} (hb : 0 ≤ b ∧ b < 64) : m_Disk_byteAt b bt = some (bt b) := by
  unfold m_Disk_byteAt
  rw [clt_f (by omega), clt_t (by omega), gd_x (by omega)]
theorem p_isWritten {f p : Int} {wr : Int → Int} (hf : 0 ≤ f ∧ f < 4) (hp : 0 ≤ p ∧ p < 24) (hw : wr (24 * f + p) = 0 ∨ wr (24 * f + p) = 1) : m_Disk_isWritten f p wr = some (wr (24 * f + p)) := by
  unfold m_Disk_isWritten
  simp only [jn_s]
  rw [clt_f (by omega), clt_t (by omega), clt_f (by omega), clt_t (by omega), ceq_f (by omega), gd_x (by omega), Int.mul_comm f 24]
  rcases hw with h | h
  · rw [ceq_t (by omega), h]
  · rw [ceq_f (by omega), h]
theorem p_turnKind {f k : Int} {ki : Int → Int} (hf : 0 ≤ f ∧ f < 4) : m_Disk_turnKind f k ki = some (uf ki f k) := by
  unfold m_Disk_turnKind
  rw [p_Vol_isFile (by omega), bnd_s, if_pos hf, ceq_f (by omega), gd_x (by omega)]
theorem p_orNothing {x : Int} (h : -1000 ≤ x ∧ x < 1000) : m_Vol_orNothing x = some (if x < 0 then -9 else x) := by
  unfold m_Vol_orNothing
  by_cases h1 : x < 0
  · rw [clt_t (by omega), if_pos h1]
  · rw [clt_f (by omega), if_neg h1]
theorem p_isPlaced {a : Int} {bl : Int → Int} (ha : 0 ≤ a ∧ a < 96) (hb : -9 ≤ bl a ∧ bl a < 1000) : m_Mod_isPlaced a bl = some (if 0 ≤ bl a then 1 else 0) := by
  unfold m_Mod_isPlaced
  rw [gd_x (by omega)]
  by_cases h : bl a < 0
  · rw [clt_t (by omega), if_neg (by omega)]
  · rw [clt_f (by omega), if_pos (by omega)]
theorem p_isWaiting {a : Int} {wa : Int → Int} (ha : 0 ≤ a ∧ a < 96) (hb : -9 ≤ wa a ∧ wa a < 1000) : m_Mod_isWaiting a wa = some (if 0 ≤ wa a then 1 else 0) := by
  unfold m_Mod_isWaiting
  rw [gd_x (by omega)]
  by_cases h : wa a < 0
  · rw [clt_t (by omega), if_neg (by omega)]
  · rw [clt_f (by omega), if_pos (by omega)]
theorem p_Mod_isHole {a : Int} {bl wa : Int → Int} (ha : 0 ≤ a ∧ a < 96) (hb : -9 ≤ bl a ∧ bl a < 1000) (hw : -9 ≤ wa a ∧ wa a < 1000) : m_Mod_isHole a bl wa = some (if bl a < 0 ∧ wa a < 0 then 1 else 0) := by
  unfold m_Mod_isHole
  rw [p_isPlaced ha hb, bnd_s, ceq_yn]
  by_cases h : 0 ≤ bl a
  · rw [if_pos h, if_neg (by omega)]
  · rw [if_neg h, p_isWaiting ha hw, bnd_s, ceq_yn]
    by_cases h2 : 0 ≤ wa a
    · rw [if_pos h2, if_neg (by omega)]
    · rw [if_neg h2, if_pos (by omega)]
theorem p_isToPlace {a : Int} {bl wa : Int → Int} (ha : 0 ≤ a ∧ a < 96) (hb : -9 ≤ bl a ∧ bl a < 1000) (hw : -9 ≤ wa a ∧ wa a < 1000) : m_Mod_isToPlace a bl wa = some (if bl a < 0 ∧ 0 ≤ wa a then 1 else 0) := by
  unfold m_Mod_isToPlace
  rw [p_isWaiting ha hw, bnd_s, ceq_yn]
  by_cases h : 0 ≤ wa a
  · rw [if_pos h, p_isPlaced ha hb, bnd_s, ceq_yn]
    by_cases h2 : 0 ≤ bl a
    · rw [if_pos h2, if_neg (by omega)]
    · rw [if_neg h2, if_pos (by omega)]
  · rw [if_neg h, if_neg (by omega)]
theorem p_Disk_isHole {f p : Int} {pl va : Int → Int} (hf : 0 ≤ f ∧ f < 4) (hp : 0 ≤ p ∧ p < 24) (hb : -9 ≤ pl (24 * f + p) ∧ pl (24 * f + p) < 1000) (hw : -9 ≤ va (24 * f + p) ∧ va (24 * f + p) < 1000) : m_Disk_isHole f p pl va = some (if pl (24 * f + p) < 0 ∧ va (24 * f + p) < 0 then 1 else 0) := by
  unfold m_Disk_isHole
  rw [p_blockAt hf hp, bnd_s]
  by_cases h : pl (24 * f + p) < 0
  · rw [clt_t (by omega), p_valueAt hf hp, bnd_s]
    by_cases h2 : va (24 * f + p) < 0
    · rw [clt_t (by omega), if_pos (by omega)]
    · rw [clt_f (by omega), if_neg (by omega)]
  · rw [clt_f (by omega), if_neg (by omega)]
theorem p_Disk_isPromised {f p : Int} {pl va : Int → Int} (hf : 0 ≤ f ∧ f < 4) (hp : 0 ≤ p ∧ p < 24) (hb : -9 ≤ pl (24 * f + p) ∧ pl (24 * f + p) < 1000) (hw : -9 ≤ va (24 * f + p) ∧ va (24 * f + p) < 1000) : m_Disk_isPromised f p pl va = some (if pl (24 * f + p) < 0 ∧ 0 ≤ va (24 * f + p) then 1 else 0) := by
  unfold m_Disk_isPromised
  rw [p_blockAt hf hp, bnd_s]
  by_cases h : pl (24 * f + p) < 0
  · rw [clt_t (by omega), p_valueAt hf hp, bnd_s]
    by_cases h2 : va (24 * f + p) < 0
    · rw [clt_t (by omega), if_neg (by omega)]
    · rw [clt_f (by omega), if_pos (by omega)]
  · rw [clt_f (by omega), if_neg (by omega)]
