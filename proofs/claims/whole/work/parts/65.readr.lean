/-! ===== the reference reads a ford: one sign, one digit ===== -/
theorem within_dg (x lo hi : Int32) (m : Mem) : f_X7_within x (48 + lo) (48 + hi) m = some (if dgB lo hi x = true then 1 else 0, m) := by
  unfold f_X7_within dgB
  by_cases h1 : x < 48 + lo
  · simp [h1]
  · by_cases h2 : 48 + hi < x
    · simp [h1, h2]
    · simp [h1, h2]
theorem sign_end {m : Mem} {E : Nat} {s : Int32} (h : m 30 0 14 = nI E) (hE : E < 2 ^ 31) : f_X7_isSign (nI E) s m = some (0, m) := by
  unfold f_X7_isSign
  rw [h, if_pos (nI_le (Nat.le_refl _) hE)]
theorem sign_at {m : Mem} {E p : Nat} {s : Int32} (h : m 30 0 14 = nI p) (hp : p < E) (hE : E ≤ 240) : f_X7_isSign (nI E) s m = if m 33 0 p = s then some (1, mset m 30 0 14 (nI (p + 1))) else some (0, m) := by
  have hge : ¬ nI E ≤ nI p := nI_ge (by omega) (by omega)
  have b : inB (nI p) 240 = true := inB_nI (by omega) (by decide)
  have b2 : ix (nI p) = p := ix_nI (by omega)
  unfold f_X7_isSign
  rw [h, if_neg hge, if_pos b, b2, nI_1]
theorem digit_end {m : Mem} {E : Nat} {lo hi : Int32} (h : m 30 0 14 = nI E) (hE : E < 2 ^ 31) : f_X7_digit (nI E) lo hi m = some (-9, m) := by
  unfold f_X7_digit
  rw [h, if_pos (nI_le (Nat.le_refl _) hE)]
theorem digit_at {m : Mem} {E p : Nat} {lo hi : Int32} (h : m 30 0 14 = nI p) (hp : p < E) (hE : E ≤ 240) : f_X7_digit (nI E) lo hi m = if dgB lo hi (m 33 0 p) = true then some (m 33 0 p - 48, mset m 30 0 14 (nI (p + 1))) else some (-9, m) := by
  have hge : ¬ nI E ≤ nI p := nI_ge (by omega) (by omega)
  have b : inB (nI p) 240 = true := inB_nI (by omega) (by decide)
  have b2 : ix (nI p) = p := ix_nI (by omega)
  have e1 : nI (p + 1) - 1 = nI p := nI_pred p
  unfold f_X7_digit
  rw [h, if_neg hge, if_pos b, b2, within_dg, bnd_some]
  by_cases z : dgB lo hi (m 33 0 p) = true
  · rw [if_pos z, if_pos z, if_neg (by decide)]
    have q1 : (mset m 30 0 14 (m 30 0 14 + 1)) 30 0 14 - 1 = nI p := by
      rw [h, nI_1]
      simp [mset, e1]
    rw [q1, if_pos b, b2, h, nI_1]
  · rw [if_neg z, if_neg z, if_pos rfl]
