/-! ===== ford: which cell fits which place ===== -/
def dgB (lo hi x : Int32) : Bool := if x < 48 + lo then false else if 48 + hi < x then false else true
def fitc (i : Nat) (x : Int32) : Bool :=
  if i = 0 then x == 104 else if i = 1 then dgB 0 9 x else if 32 ≤ i then false
  else if (i - 2) % 6 = 0 then x == 59 else if (i - 2) % 6 = 1 then x == 102 || x == 101 || x == 112
  else if (i - 2) % 6 = 2 then dgB 1 9 x else if (i - 2) % 6 = 3 then dgB 0 9 x else if (i - 2) % 6 = 4 then dgB 0 6 x else dgB 0 5 x
theorem isDigit_c (x lo hi : Int32) (m : Mem) : f_X6_isDigit x lo hi m = some (if dgB lo hi x = true then 1 else 0, m) := by
  unfold f_X6_isDigit f_X6_isWithin dgB
  by_cases h1 : x < 48 + lo
  · simp [h1, bnd]
  · by_cases h2 : 48 + hi < x
    · simp [h1, h2, bnd]
    · simp [h1, h2, bnd]
theorem digit_w {x lo hi : Int32} {m : Mem} : bnd (f_X6_isDigit x lo hi m) (fun r m => if r = 0 ∨ r = 1 then some (r, m) else none) = some (if dgB lo hi x = true then (1 : Int32) else 0, m) := by
  rw [isDigit_c, bnd_some]
  cases dgB lo hi x <;> simp
theorem place_q : ∀ i, i < 32 → 2 ≤ i → (nI i - 2) - (nI i - 2) / 6 * 6 = nI ((i - 2) % 6) := by decide +kernel
theorem goesOn_c {i : Nat} (hi : i < 100) (x : Int32) (m : Mem) : f_X6_goesOn (nI i) x m = some (if fitc i x = true then 1 else 0, m) := by
  have e2 : ((2 : Int32) ≤ nI i) ↔ 2 ≤ i := nI_leI (a := 2) (by decide) (by omega)
  have e32 : (nI i < (32 : Int32)) ↔ i < 32 := nI_ltI (b := 32) (by omega) (by decide)
  have e0 : (nI i = 0) ↔ i = 0 := nI_z (by omega)
  have h6 : ¬ (6 : Int32) = 0 := by decide
  unfold f_X6_goesOn
  by_cases h2 : 2 ≤ i
  · rw [if_pos (e2.mpr h2)]
    by_cases h32 : i < 32
    · rw [if_pos (e32.mpr h32), if_pos h6, place_q i h32 h2]
      unfold dv
      have hr : (i - 2) % 6 < 6 := Nat.mod_lt _ (by decide)
      have g0 : ¬ i = 0 := by omega
      have g1 : ¬ i = 1 := by omega
      have g3 : ¬ 32 ≤ i := by omega
      unfold fitc
      rw [if_neg g0, if_neg g1, if_neg g3]
      generalize (i - 2) % 6 = r at hr
      have hc : r = 0 ∨ r = 1 ∨ r = 2 ∨ r = 3 ∨ r = 4 ∨ r = 5 := by omega
      rcases hc with rfl | rfl | rfl | rfl | rfl | rfl
      · simp only [eq_true (show nI 0 = (0 : Int32) by decide), if_true, if_false]
        by_cases z : x = 59 <;> simp [z]
      · simp only [eq_false (show ¬ nI 1 = (0 : Int32) by decide), eq_true (show nI 1 = (1 : Int32) by decide), eq_false (show ¬ 1 = 0 by decide), if_true, if_false]
        by_cases z1 : x = 102
        · simp [z1]
        by_cases z2 : x = 101
        · simp [z2]
        by_cases z3 : x = 112
        · simp [z3]
        · simp [z1, z2, z3]
      · simp only [eq_false (show ¬ nI 2 = (0 : Int32) by decide), eq_false (show ¬ nI 2 = (1 : Int32) by decide), eq_true (show nI 2 = (2 : Int32) by decide), eq_false (show ¬ 2 = 0 by decide), eq_false (show ¬ 2 = 1 by decide), if_true, if_false]
        exact digit_w
      · simp only [eq_false (show ¬ nI 3 = (0 : Int32) by decide), eq_false (show ¬ nI 3 = (1 : Int32) by decide), eq_false (show ¬ nI 3 = (2 : Int32) by decide), eq_true (show nI 3 = (3 : Int32) by decide), eq_false (show ¬ 3 = 0 by decide), eq_false (show ¬ 3 = 1 by decide), eq_false (show ¬ 3 = 2 by decide), if_true, if_false]
        exact digit_w
      · simp only [eq_false (show ¬ nI 4 = (0 : Int32) by decide), eq_false (show ¬ nI 4 = (1 : Int32) by decide), eq_false (show ¬ nI 4 = (2 : Int32) by decide), eq_false (show ¬ nI 4 = (3 : Int32) by decide), eq_true (show nI 4 = (4 : Int32) by decide), eq_false (show ¬ 4 = 0 by decide), eq_false (show ¬ 4 = 1 by decide), eq_false (show ¬ 4 = 2 by decide), eq_false (show ¬ 4 = 3 by decide), if_true, if_false]
        exact digit_w
      · simp only [eq_false (show ¬ nI 5 = (0 : Int32) by decide), eq_false (show ¬ nI 5 = (1 : Int32) by decide), eq_false (show ¬ nI 5 = (2 : Int32) by decide), eq_false (show ¬ nI 5 = (3 : Int32) by decide), eq_false (show ¬ nI 5 = (4 : Int32) by decide), eq_false (show ¬ 5 = 0 by decide), eq_false (show ¬ 5 = 1 by decide), eq_false (show ¬ 5 = 2 by decide), eq_false (show ¬ 5 = 3 by decide), eq_false (show ¬ 5 = 4 by decide), if_true, if_false]
        exact digit_w
    · rw [if_neg (fun z => h32 (e32.mp z))]
      have g0 : ¬ i = 0 := by omega
      have g1 : ¬ i = 1 := by omega
      unfold fitc
      rw [if_neg g0, if_neg g1, if_pos (show 32 ≤ i by omega), if_neg (by decide)]
  · rw [if_neg (fun z => h2 (e2.mp z))]
    unfold fitc
    by_cases h0 : i = 0
    · rw [if_pos (e0.mpr h0), if_pos h0]
      by_cases z : x = 104 <;> simp [z]
    · rw [if_neg (fun z => h0 (e0.mp z)), if_neg h0, if_pos (show i = 1 by omega)]
      exact digit_w
/-- the first i cells from a fit -/
def Okto (c : Nat → Int32) (a i : Nat) : Prop := ∀ j, j < i → fitc j (c (a + j)) = true
theorem ff_step {m : Mem} {k a n la len i : Nat} {c : Nat → Int32} (hS : SC m k (some (la, len, c))) (hl : len ≤ 60) (hal : a + n ≤ len) (hi : i < n) (K : Mem → Option (Int32 × Mem)) (nx : Int32 × Mem → Option (Int32 × Mem)) :
    f_X6_firstFault_b2 k (nI a) (nI n) nx K (nI i, m) = if fitc i (c (a + i)) = true then nx (nI (i + 1), m) else some (nI i, m) := by
  have hge : ¬ nI n ≤ nI i := nI_ge (by omega) (by omega)
  unfold f_X6_firstFault_b2
  dsimp only
  rw [if_neg hge, nI_add, at_c hS hl (by omega), bnd_some, goesOn_c (by omega), bnd_some, nI_1]
  by_cases z : fitc i (c (a + i)) = true
  · rw [if_pos z, if_pos z, if_neg (by decide)]
  · rw [if_neg z, if_neg z, if_pos rfl]
theorem ff_to {m : Mem} {k a n la len : Nat} {c : Nat → Int32} (hS : SC m k (some (la, len, c))) (hl : len ≤ 60) (hal : a + n ≤ len) (K : Mem → Option (Int32 × Mem)) {j : Nat} (hj : j ≤ n) (hO : Okto c a j) :
    ∀ t p r, p + t = j → lpk (f_X6_firstFault_b2 k (nI a) (nI n)) (r + t) (nI p, m) K = lpk (f_X6_firstFault_b2 k (nI a) (nI n)) r (nI j, m) K
  | 0, p, r, h => by rw [show p = j by omega]; rfl
  | t + 1, p, r, h => by
    rw [show r + (t + 1) = (r + t) + 1 by omega, lpk_s, ff_step hS hl hal (by omega), if_pos (hO p (by omega))]
    exact ff_to hS hl hal K hj hO t (p + 1) r (by omega)
theorem ff_bad {m : Mem} {k a n la len j : Nat} {c : Nat → Int32} (hS : SC m k (some (la, len, c))) (hl : len ≤ 60) (hal : a + n ≤ len) (hj : j < n) (hO : Okto c a j) (hb : ¬ fitc j (c (a + j)) = true) : f_X6_firstFault k (nI a) (nI n) m = some (nI j, m) := by
  unfold f_X6_firstFault
  have e : fuelN = ((fuelN - j - 1) + 1) + j := by unfold fuelN; omega
  rw [e, show ((0 : Int32), m) = (nI 0, m) from rfl, ff_to hS hl hal _ (by omega) hO j 0 _ (by omega), lpk_s, ff_step hS hl hal hj, if_neg hb]
theorem ff_len : ∀ n, n < 61 → 8 ≤ n → (nI n - 2) - (nI n - 2) / 6 * 6 = nI ((n - 2) % 6) := by decide +kernel
theorem ff_end {m : Mem} {k a n la len : Nat} {c : Nat → Int32} (hS : SC m k (some (la, len, c))) (hl : len ≤ 60) (hal : a + n ≤ len) (hO : Okto c a n) : f_X6_firstFault k (nI a) (nI n) m = some (if 8 ≤ n ∧ (n - 2) % 6 = 0 then -9 else nI n, m) := by
  have hle : nI n ≤ nI n := nI_le (Nat.le_refl _) (by omega)
  have e8 : (nI n < (8 : Int32)) ↔ n < 8 := nI_ltI (b := 8) (by omega) (by decide)
  have h6 : ¬ (6 : Int32) = 0 := by decide
  have st : ∀ nx K, f_X6_firstFault_b2 k (nI a) (nI n) nx K (nI n, m) = K m := fun nx K => by
    unfold f_X6_firstFault_b2
    dsimp only
    rw [if_pos hle]
  unfold f_X6_firstFault
  have e : fuelN = ((fuelN - n - 1) + 1) + n := by unfold fuelN; omega
  rw [e, show ((0 : Int32), m) = (nI 0, m) from rfl, ff_to hS hl hal _ (Nat.le_refl _) hO n 0 _ (by omega), lpk_s, st]
  by_cases h8 : n < 8
  · rw [if_pos (e8.mpr h8), if_neg (fun z => by omega)]
    simp [f_X6_firstFault_j48, f_X6_firstFault_j49]
  · rw [if_neg (fun z => h8 (e8.mp z)), if_pos h6, ff_len n (by omega) (by omega)]
    unfold dv
    dsimp only
    have hr : (n - 2) % 6 < 6 := Nat.mod_lt _ (by decide)
    have ez : (nI ((n - 2) % 6) = 0) ↔ (n - 2) % 6 = 0 := nI_z (by omega)
    by_cases z : (n - 2) % 6 = 0
    · rw [if_pos (ez.mpr z), if_pos ⟨by omega, z⟩]
      simp [f_X6_firstFault_j49]
    · rw [if_neg (fun y => z (ez.mp y)), if_neg (fun y => z y.2)]
      simp [f_X6_firstFault_j48, f_X6_firstFault_j49]
