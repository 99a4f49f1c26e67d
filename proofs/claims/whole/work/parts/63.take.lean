/-! ===== ford: the ford that the cells say ===== -/
def kindc (x : Int32) : Nat := if x = 112 then 2 else if x = 101 then 1 else 0
def dg (x : Int32) : Nat := ix (x - 48)
/-- how many fish, how dear, nothing known; of fish j: its five cells -/
def fordF (c : Nat → Int32) (a N : Nat) : FdT := fun i j => if i = 0 then N else if i = 1 then dg (c (a + 1)) else if i = 2 then 0 else if i = 3 then kindc (c (a + (3 + 6 * j))) else dg (c (a + (i + 6 * j)))
theorem dg_at {x : Int32} {l h : Nat} (hh : h ≤ 9) (hl : l ≤ 9) (hx : dgB (nI l) (nI h) x = true) : x - 48 = nI (dg x) ∧ l ≤ dg x ∧ dg x ≤ h ∧ x = nI (48 + dg x) := by
  have e1 : (48 : Int32) + nI l = nI (48 + l) := nI_add 48 l
  have e2 : (48 : Int32) + nI h = nI (48 + h) := nI_add 48 h
  unfold dgB at hx
  rw [e1, e2] at hx
  by_cases h1 : x < nI (48 + l)
  · rw [if_pos h1] at hx; cases hx
  rw [if_neg h1] at hx
  by_cases h2 : nI (48 + h) < x
  · rw [if_pos h2] at hx; cases hx
  have h0 : ¬ x < 0 := fun q => by
    have g := nI_pos (show 48 + l < 2 ^ 31 by omega)
    rw [Int32.lt_iff_toInt_lt] at q h1 g
    omega
  obtain ⟨k, hk, rfl⟩ := nI_rng (b := nI (48 + h)) rfl (by omega) h0 h2
  have hk1 : 48 + l ≤ k := by
    by_cases q : 48 + l ≤ k
    · exact q
    · exact absurd ((nI_ltI (by omega) (by omega)).mpr (by omega)) h1
  have e3 : nI k - 48 = nI (k - 48) := pk_sub (b := 48) (by omega)
  have e4 : dg (nI k) = k - 48 := by
    unfold dg
    rw [e3, ix_nI (by omega)]
  rw [e4, e3]
  exact ⟨rfl, by omega, by omega, by rw [show 48 + (k - 48) = k by omega]⟩
theorem fit_0 {x : Int32} (h : fitc 0 x = true) : x = 104 := by simpa [fitc] using h
theorem fit_1 {x : Int32} (h : fitc 1 x = true) : dgB (nI 0) (nI 9) x = true := by
  have h' : dgB 0 9 x = true := by simpa [fitc] using h
  exact h'
theorem fit_k {f : Nat} {x : Int32} (hf : f < 5) (h : fitc (3 + 6 * f) x = true) : x = 102 ∨ x = 101 ∨ x = 112 := by
  unfold fitc at h
  rw [if_neg (by omega), if_neg (by omega), if_neg (by omega), if_neg (by omega), if_pos (by omega)] at h
  simpa [or_assoc] using h
theorem fit_4 {f : Nat} {x : Int32} (hf : f < 5) (h : fitc (4 + 6 * f) x = true) : dgB (nI 1) (nI 9) x = true := by
  unfold fitc at h
  rw [if_neg (by omega), if_neg (by omega), if_neg (by omega), if_neg (by omega), if_neg (by omega), if_pos (by omega)] at h
  exact h
theorem fit_5 {f : Nat} {x : Int32} (hf : f < 5) (h : fitc (5 + 6 * f) x = true) : dgB (nI 0) (nI 9) x = true := by
  unfold fitc at h
  rw [if_neg (by omega), if_neg (by omega), if_neg (by omega), if_neg (by omega), if_neg (by omega), if_neg (by omega), if_pos (by omega)] at h
  exact h
theorem fit_6 {f : Nat} {x : Int32} (hf : f < 5) (h : fitc (6 + 6 * f) x = true) : dgB (nI 0) (nI 6) x = true := by
  unfold fitc at h
  rw [if_neg (by omega), if_neg (by omega), if_neg (by omega), if_neg (by omega), if_neg (by omega), if_neg (by omega), if_neg (by omega), if_pos (by omega)] at h
  exact h
theorem fit_7 {f : Nat} {x : Int32} (hf : f < 5) (h : fitc (7 + 6 * f) x = true) : dgB (nI 0) (nI 5) x = true := by
  unfold fitc at h
  rw [if_neg (by omega), if_neg (by omega), if_neg (by omega), if_neg (by omega), if_neg (by omega), if_neg (by omega), if_neg (by omega), if_neg (by omega)] at h
  exact h
theorem kindc_le (x : Int32) : kindc x ≤ 2 := by unfold kindc; split <;> (try split) <;> omega
theorem fordF_WF {c : Nat → Int32} {a N : Nat} (hN : N ≤ 5) (hN1 : 1 ≤ N) (hO : Okto c a (2 + 6 * N)) : WF (fordF c a N) := by
  refine ⟨by simpa [fordF] using hN, ?_, by simp [fordF], fun f hf => ?_⟩
  · have := (dg_at (by decide) (by decide) (fit_1 (hO 1 (by omega)))).2.2.1
    simpa [fordF] using this
  · have hf' : f < N := hf
    have h4 := dg_at (by decide) (by decide) (fit_4 (by omega) (hO (4 + 6 * f) (by omega)))
    have h5 := dg_at (by decide) (by decide) (fit_5 (by omega) (hO (5 + 6 * f) (by omega)))
    have h6 := dg_at (by decide) (by decide) (fit_6 (by omega) (hO (6 + 6 * f) (by omega)))
    have h7 := dg_at (by decide) (by decide) (fit_7 (by omega) (hO (7 + 6 * f) (by omega)))
    have h3 := kindc_le (c (a + (3 + 6 * f)))
    refine ⟨by simpa [fordF] using h3, by simpa [fordF] using h4.2.1, by simpa [fordF] using h4.2.2.1, ?_, by simpa [fordF] using h6.2.2.1, by simpa [fordF] using h7.2.2.1⟩
    have := h5.2.2.1
    simp [fordF]
    omega
theorem kind_c (x : Int32) (m : Mem) : f_X6_kindOf x m = some (nI (kindc x), m) := by
  unfold f_X6_kindOf kindc
  by_cases h1 : x = 112
  · simp [h1, nI_2']
  by_cases h2 : x = 101
  · simp [h2, nI_1']
  · simp [h1, h2, nI_0]
/-- one fish taken from its cells -/
theorem take1 {m : Mem} {k a la len f : Nat} {c : Nat → Int32} (hS : SC m k (some (la, len, c))) (hl : len ≤ 60) (hal : a + (8 + 6 * f) ≤ len) : f_X1_take f k (nI (a + (2 + 6 * f))) m =
    some ((), mset (mset (mset (mset (mset m 6 f 0 (nI (kindc (c (a + (3 + 6 * f)))))) 6 f 1 (c (a + (4 + 6 * f)) - 48)) 6 f 2 (c (a + (5 + 6 * f)) - 48)) 6 f 3 (c (a + (6 + 6 * f)) - 48)) 6 f 4 (c (a + (7 + 6 * f)) - 48)) := by
  have at' : ∀ (m1 : Mem) (d : Nat) (x : Int32), x = nI d → m1 2 = m 2 → m1 3 = m 3 → d < 6 → f_X4_at k (nI (a + (2 + 6 * f)) + x) m1 = some (c (a + (d + 2 + 6 * f)), m1) := fun m1 d x hx h2 h3 hd => by
    have hS1 : SC m1 k (some (la, len, c)) := by
      unfold SC at hS ⊢
      rw [h2, h3]
      exact hS
    rw [hx, nI_add, show a + (2 + 6 * f) + d = a + (d + 2 + 6 * f) by omega]
    exact at_c hS1 hl (by omega)
  unfold f_X1_take
  rw [at' m 1 1 rfl rfl rfl (by decide), bnd_some, kind_c, bnd_some, at' _ 2 2 rfl (mset_ne (by decide)) (mset_ne (by decide)) (by decide), bnd_some,
    at' _ 3 3 rfl (by rw [mset_ne (by decide), mset_ne (by decide)]) (by rw [mset_ne (by decide), mset_ne (by decide)]) (by decide), bnd_some,
    at' _ 4 4 rfl (by rw [mset_ne (by decide), mset_ne (by decide), mset_ne (by decide)]) (by rw [mset_ne (by decide), mset_ne (by decide), mset_ne (by decide)]) (by decide), bnd_some,
    at' _ 5 5 rfl (by rw [mset_ne (by decide), mset_ne (by decide), mset_ne (by decide), mset_ne (by decide)]) (by rw [mset_ne (by decide), mset_ne (by decide), mset_ne (by decide), mset_ne (by decide)]) (by decide), bnd_some]
