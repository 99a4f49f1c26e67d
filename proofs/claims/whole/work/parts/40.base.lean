/-! ===== numbers ===== -/
theorem nI_rng {x b : Int32} {n : Nat} (hb : b = nI n) (hn : n < 2 ^ 31) (h0 : ¬ x < 0) (h1 : ¬ b < x) : ∃ k, k ≤ n ∧ x = nI k := by
  subst hb
  refine nI_of2 (M := nI n) (nI_toInt hn) h0 ?_
  rw [Int32.le_iff_toInt_le]
  rw [Int32.lt_iff_toInt_lt] at h1
  omega
theorem ix_nI {k : Nat} (h : k < 2 ^ 31) : ix (nI k) = k := nI_clamp h
theorem inB_nI {k n : Nat} (h : k < n) (hn : n ≤ 2 ^ 31) : inB (nI k) n = true := by
  unfold inB
  rw [Bool.and_eq_true, decide_eq_true_eq]
  have hk : k < 2 ^ 31 := by omega
  exact ⟨nI_pos' hk, by rw [ix_nI hk]; exact Nat.blt_eq.mpr h⟩
/-! ===== the arguments of calls, the same for both ===== -/
/-- a number from 0 to n, or not -/
theorem rng_cases (x : Int32) {b : Int32} {n : Nat} (hb : b = nI n) (hn : n < 2 ^ 31) :
    ((∀ m, f_X6_isWithin x 0 b m = some (0, m)) ∧ (∀ m, f_X7_within x 0 b m = some (0, m)) ∧ ∀ k, k ≤ n → x ≠ nI k) ∨
    (∃ k, k ≤ n ∧ x = nI k ∧ (∀ m, f_X6_isWithin x 0 b m = some (1, m)) ∧ ∀ m, f_X7_within x 0 b m = some (1, m)) := by
  by_cases h0 : x < 0
  · refine Or.inl ⟨fun m => by simp [f_X6_isWithin, h0], fun m => ?_, fun k hk e => ?_⟩
    · unfold f_X7_within
      simp [h0]
    · rw [e] at h0
      exact nI_pos (by omega) h0
  · by_cases h1 : b < x
    · refine Or.inl ⟨fun m => by simp [f_X6_isWithin, h0, h1], fun m => ?_, fun k hk e => ?_⟩
      · unfold f_X7_within
        have : ¬ x ≤ b := by
          rw [Int32.le_iff_toInt_le]
          rw [Int32.lt_iff_toInt_lt] at h1
          omega
        simp [h0, h1, this]
      · subst hb
        rw [e] at h1
        exact nI_nlt hk (by omega) h1
    · obtain ⟨k, hk, e⟩ := nI_rng hb hn h0 h1
      refine Or.inr ⟨k, hk, e, fun m => by simp [f_X6_isWithin, h0, h1], fun m => ?_⟩
      unfold f_X7_within
      have : x ≤ b := by
        rw [Int32.le_iff_toInt_le]
        rw [Int32.lt_iff_toInt_lt] at h1
        omega
      simp [h0, h1, this]
