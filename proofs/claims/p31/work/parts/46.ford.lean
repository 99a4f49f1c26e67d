/-! ===== ford: which cell fits which place ===== -/
def dgB (lo hi x : Int32) : Bool := if x < 48 + lo then false else if 48 + hi < x then false else true
def fitc (i : Nat) (x : Int32) : Bool :=
  if i = 0 then x == 104 else if i = 1 then dgB 0 9 x else if 32 ≤ i then false
  else if (i - 2) % 6 = 0 then x == 59 else if (i - 2) % 6 = 1 then x == 102 || x == 101 || x == 112
  else if (i - 2) % 6 = 2 then dgB 1 9 x else if (i - 2) % 6 = 3 then dgB 0 9 x else if (i - 2) % 6 = 4 then dgB 0 6 x else dgB 0 5 x
theorem isDigit_c (x lo hi : Int32) (m : Mem) : f_X6_isDigit x lo hi m = some (if dgB lo hi x = true then 1 else 0, m) := by
  unfold f_X6_isDigit f_X6_isWithin dgB
  by_cases h1 : x < 48 + lo
  · simp [h1, bnd]
  · by_cases h2 : 48 + hi < x
    · simp [h1, h2, bnd]
    · simp [h1, h2, bnd]
theorem digit_w {x lo hi : Int32} {m : Mem} : bnd (f_X6_isDigit x lo hi m) (fun r m => if r = 0 ∨ r = 1 then some (r, m) else none) = some (if dgB lo hi x = true then (1 : Int32) else 0, m) := by
  rw [isDigit_c, bnd_some]
  cases dgB lo hi x <;> simp
theorem place_q : ∀ i, i < 32 → 2 ≤ i → (nI i - 2) - (nI i - 2) / 6 * 6 = nI ((i - 2) % 6) := by decide +kernel
theorem goesOn_c {i : Nat} (hi : i < 100) (x : Int32) (m : Mem) : f_X6_goesOn (nI i) x m = some (if fitc i x = true then 1 else 0, m) := by
  have e2 : ((2 : Int32) ≤ nI i) ↔ 2 ≤ i := nI_leI (a := 2) (by decide) (by omega)
  have e32 : (nI i < (32 : Int32)) ↔ i < 32 := nI_ltI (b := 32) (by omega) (by decide)
  have e0 : (nI i = 0) ↔ i = 0 := nI_z (by omega)
  have h6 : ¬ (6 : Int32) = 0 := by decide
  unfold f_X6_goesOn
  by_cases h2 : 2 ≤ i
  · rw [if_pos (e2.mpr h2)]
    by_cases h32 : i < 32
    · rw [if_pos (e32.mpr h32), if_pos h6, place_q i h32 h2]
      unfold dv
      have hr : (i - 2) % 6 < 6 := Nat.mod_lt _ (by decide)
      have g0 : ¬ i = 0 := by omega
      have g1 : ¬ i = 1 := by omega
      have g3 : ¬ 32 ≤ i := by omega
      unfold fitc
      rw [if_neg g0, if_neg g1, if_neg g3]
      generalize (i - 2) % 6 = r at hr
      have hc : r = 0 ∨ r = 1 ∨ r = 2 ∨ r = 3 ∨ r = 4 ∨ r = 5 := by omega
      rcases hc with rfl | rfl | rfl | rfl | rfl | rfl
      · simp only [eq_true (show nI 0 = (0 : Int32) by decide), if_true, if_false]
        by_cases z : x = 59 <;> simp [z]
      · simp only [eq_false (show ¬ nI 1 = (0 : Int32) by decide), eq_true (show nI 1 = (1 : Int32) by decide), eq_false (show ¬ 1 = 0 by decide), if_true, if_false]
        by_cases z1 : x = 102
        · simp [z1]
        by_cases z2 : x = 101
        · simp [z2]
        by_cases z3 : x = 112
        · simp [z3]
        · simp [z1, z2, z3]
      · simp only [eq_false (show ¬ nI 2 = (0 : Int32) by decide), eq_false (show ¬ nI 2 = (1 : Int32) by decide), eq_true (show nI 2 = (2 : Int32) by decide), eq_false (show ¬ 2 = 0 by decide), eq_false (show ¬ 2 = 1 by decide), if_true, if_false]
        exact digit_w
      · simp only [eq_false (show ¬ nI 3 = (0 : Int32) by decide), eq_false (show ¬ nI 3 = (1 : Int32) by decide), eq_false (show ¬ nI 3 = (2 : Int32) by decide), eq_true (show nI 3 = (3 : Int32) by decide), eq_false (show ¬ 3 = 0 by decide), eq_false (show ¬ 3 = 1 by decide), eq_false (show ¬ 3 = 2 by decide), if_true, if_false]
        exact digit_w
      · simp only [eq_false (show ¬ nI 4 = (0 : Int32) by decide), eq_false (show ¬ nI 4 = (1 : Int32) by decide), eq_false (show ¬ nI 4 = (2 : Int32) by decide), eq_false (show ¬ nI 4 = (3 : Int32) by decide), eq_true (show nI 4 = (4 : Int32) by decide), eq_false (show ¬ 4 = 0 by decide), eq_false (show ¬ 4 = 1 by decide), eq_false (show ¬ 4 = 2 by decide), eq_false (show ¬ 4 = 3 by decide), if_true, if_false]
        exact digit_w
      · simp only [eq_false (show ¬ nI 5 = (0 : Int32) by decide), eq_false (show ¬ nI 5 = (1 : Int32) by decide), eq_false (show ¬ nI 5 = (2 : Int32) by decide), eq_false (show ¬ nI 5 = (3 : Int32) by decide), eq_false (show ¬ nI 5 = (4 : Int32) by decide), eq_false (show ¬ 5 = 0 by decide), eq_false (show ¬ 5 = 1 by decide), eq_false (show ¬ 5 = 2 by decide), eq_false (show ¬ 5 = 3 by decide), eq_false (show ¬ 5 = 4 by decide), if_true, if_false]
        exact digit_w
    · rw [if_neg (fun z => h32 (e32.mp z))]
      have g0 : ¬ i = 0 := by omega
      have g1 : ¬ i = 1 := by omega
      unfold fitc
      rw [if_neg g0, if_neg g1, if_pos (show 32 ≤ i by omega), if_neg (by decide)]
  · rw [if_neg (fun z => h2 (e2.mp z))]
    unfold fitc
    by_cases h0 : i = 0
    · rw [if_pos (e0.mpr h0), if_pos h0]
      by_cases z : x = 104 <;> simp [z]
    · rw [if_neg (fun z => h0 (e0.mp z)), if_neg h0, if_pos (show i = 1 by omega)]
      exact digit_w
/-- the first i cells from a fit -/
def Okto (c : Nat → Int32) (a i : Nat) : Prop := ∀ j, j < i → fitc j (c (a + j)) = true
theorem ff_step {m : Mem} {k a n la len i : Nat} {c : Nat → Int32} (hS : SC m k (some (la, len, c))) (hl : len ≤ 60) (hal : a + n ≤ len) (hi : i < n) (K : Mem → Option (Int32 × Mem)) (nx : Int32 × Mem → Option (Int32 × Mem)) :
    f_X6_firstFault_b2 k (nI a) (nI n) nx K (nI i, m) = if fitc i (c (a + i)) = true then nx (nI (i + 1), m) else some (nI i, m) := by
  have hge : ¬ nI n ≤ nI i := nI_ge (by omega) (by omega)
  unfold f_X6_firstFault_b2
  dsimp only
  rw [if_neg hge, nI_add, at_c hS hl (by omega), bnd_some, goesOn_c (by omega), bnd_some, nI_1]
  by_cases z : fitc i (c (a + i)) = true
  · rw [if_pos z, if_pos z, if_neg (by decide)]
  · rw [if_neg z, if_neg z, if_pos rfl]
theorem ff_to {m : Mem} {k a n la len : Nat} {c : Nat → Int32} (hS : SC m k (some (la, len, c))) (hl : len ≤ 60) (hal : a + n ≤ len) (K : Mem → Option (Int32 × Mem)) {j : Nat} (hj : j ≤ n) (hO : Okto c a j) :
    ∀ t p r, p + t = j → lpk (f_X6_firstFault_b2 k (nI a) (nI n)) (r + t) (nI p, m) K = lpk (f_X6_firstFault_b2 k (nI a) (nI n)) r (nI j, m) K
  | 0, p, r, h => by rw [show p = j by omega]; rfl
  | t + 1, p, r, h => by
    rw [show r + (t + 1) = (r + t) + 1 by omega, lpk_s, ff_step hS hl hal (by omega), if_pos (hO p (by omega))]
    exact ff_to hS hl hal K hj hO t (p + 1) r (by omega)
theorem ff_bad {m : Mem} {k a n la len j : Nat} {c : Nat → Int32} (hS : SC m k (some (la, len, c))) (hl : len ≤ 60) (hal : a + n ≤ len) (hj : j < n) (hO : Okto c a j) (hb : ¬ fitc j (c (a + j)) = true) : f_X6_firstFault k (nI a) (nI n) m = some (nI j, m) := by
  unfold f_X6_firstFault
  have e : fuelN = ((fuelN - j - 1) + 1) + j := by unfold fuelN; omega
  rw [e, show ((0 : Int32), m) = (nI 0, m) from rfl, ff_to hS hl hal _ (by omega) hO j 0 _ (by omega), lpk_s, ff_step hS hl hal hj, if_neg hb]
theorem ff_len : ∀ n, n < 61 → 8 ≤ n → (nI n - 2) - (nI n - 2) / 6 * 6 = nI ((n - 2) % 6) := by decide +kernel
theorem ff_end {m : Mem} {k a n la len : Nat} {c : Nat → Int32} (hS : SC m k (some (la, len, c))) (hl : len ≤ 60) (hal : a + n ≤ len) (hO : Okto c a n) : f_X6_firstFault k (nI a) (nI n) m = some (if 8 ≤ n ∧ (n - 2) % 6 = 0 then -9 else nI n, m) := by
  have hle : nI n ≤ nI n := nI_le (Nat.le_refl _) (by omega)
  have e8 : (nI n < (8 : Int32)) ↔ n < 8 := nI_ltI (b := 8) (by omega) (by decide)
  have h6 : ¬ (6 : Int32) = 0 := by decide
  have st : ∀ nx K, f_X6_firstFault_b2 k (nI a) (nI n) nx K (nI n, m) = K m := fun nx K => by
    unfold f_X6_firstFault_b2
    dsimp only
    rw [if_pos hle]
  unfold f_X6_firstFault
  have e : fuelN = ((fuelN - n - 1) + 1) + n := by unfold fuelN; omega
  rw [e, show ((0 : Int32), m) = (nI 0, m) from rfl, ff_to hS hl hal _ (Nat.le_refl _) hO n 0 _ (by omega), lpk_s, st]
  by_cases h8 : n < 8
  · rw [if_pos (e8.mpr h8), if_neg (fun z => by omega)]
    simp [f_X6_firstFault_j48, f_X6_firstFault_j49]
  · rw [if_neg (fun z => h8 (e8.mp z)), if_pos h6, ff_len n (by omega) (by omega)]
    unfold dv
    dsimp only
    have hr : (n - 2) % 6 < 6 := Nat.mod_lt _ (by decide)
    have ez : (nI ((n - 2) % 6) = 0) ↔ (n - 2) % 6 = 0 := nI_z (by omega)
    by_cases z : (n - 2) % 6 = 0
    · rw [if_pos (ez.mpr z), if_pos ⟨by omega, z⟩]
      simp [f_X6_firstFault_j49]
    · rw [if_neg (fun y => z (ez.mp y)), if_neg (fun y => z y.2)]
      simp [f_X6_firstFault_j48, f_X6_firstFault_j49]
/-! ===== ford: the ford that the cells say ===== -/
def kindc (x : Int32) : Nat := if x = 112 then 2 else if x = 101 then 1 else 0
def dg (x : Int32) : Nat := ix (x - 48)
/-- how many fish, how dear, nothing known; of fish j: its five cells -/
def fordF (c : Nat → Int32) (a N : Nat) : FdT := fun i j => if i = 0 then N else if i = 1 then dg (c (a + 1)) else if i = 2 then 0 else if i = 3 then kindc (c (a + (3 + 6 * j))) else dg (c (a + (i + 6 * j)))
theorem dg_at {x : Int32} {l h : Nat} (hh : h ≤ 9) (hl : l ≤ 9) (hx : dgB (nI l) (nI h) x = true) : x - 48 = nI (dg x) ∧ l ≤ dg x ∧ dg x ≤ h ∧ x = nI (48 + dg x) := by
  have e1 : (48 : Int32) + nI l = nI (48 + l) := nI_add 48 l
  have e2 : (48 : Int32) + nI h = nI (48 + h) := nI_add 48 h
  unfold dgB at hx
  rw [e1, e2] at hx
  by_cases h1 : x < nI (48 + l)
  · rw [if_pos h1] at hx; cases hx
  rw [if_neg h1] at hx
  by_cases h2 : nI (48 + h) < x
  · rw [if_pos h2] at hx; cases hx
  have h0 : ¬ x < 0 := fun q => by
    have g := nI_pos (show 48 + l < 2 ^ 31 by omega)
    rw [Int32.lt_iff_toInt_lt] at q h1 g
    omega
  obtain ⟨k, hk, rfl⟩ := nI_rng (b := nI (48 + h)) rfl (by omega) h0 h2
  have hk1 : 48 + l ≤ k := by
    by_cases q : 48 + l ≤ k
    · exact q
    · exact absurd ((nI_ltI (by omega) (by omega)).mpr (by omega)) h1
  have e3 : nI k - 48 = nI (k - 48) := pk_sub (b := 48) (by omega)
  have e4 : dg (nI k) = k - 48 := by
    unfold dg
    rw [e3, ix_nI (by omega)]
  rw [e4, e3]
  exact ⟨rfl, by omega, by omega, by rw [show 48 + (k - 48) = k by omega]⟩
theorem fit_0 {x : Int32} (h : fitc 0 x = true) : x = 104 := by simpa [fitc] using h
theorem fit_1 {x : Int32} (h : fitc 1 x = true) : dgB (nI 0) (nI 9) x = true := by
  have h' : dgB 0 9 x = true := by simpa [fitc] using h
  exact h'
theorem fit_k {f : Nat} {x : Int32} (hf : f < 5) (h : fitc (3 + 6 * f) x = true) : x = 102 ∨ x = 101 ∨ x = 112 := by
  unfold fitc at h
  rw [if_neg (by omega), if_neg (by omega), if_neg (by omega), if_neg (by omega), if_pos (by omega)] at h
  simpa [or_assoc] using h
theorem fit_4 {f : Nat} {x : Int32} (hf : f < 5) (h : fitc (4 + 6 * f) x = true) : dgB (nI 1) (nI 9) x = true := by
  unfold fitc at h
  rw [if_neg (by omega), if_neg (by omega), if_neg (by omega), if_neg (by omega), if_neg (by omega), if_pos (by omega)] at h
  exact h
theorem fit_5 {f : Nat} {x : Int32} (hf : f < 5) (h : fitc (5 + 6 * f) x = true) : dgB (nI 0) (nI 9) x = true := by
  unfold fitc at h
  rw [if_neg (by omega), if_neg (by omega), if_neg (by omega), if_neg (by omega), if_neg (by omega), if_neg (by omega), if_pos (by omega)] at h
  exact h
theorem fit_6 {f : Nat} {x : Int32} (hf : f < 5) (h : fitc (6 + 6 * f) x = true) : dgB (nI 0) (nI 6) x = true := by
  unfold fitc at h
  rw [if_neg (by omega), if_neg (by omega), if_neg (by omega), if_neg (by omega), if_neg (by omega), if_neg (by omega), if_neg (by omega), if_pos (by omega)] at h
  exact h
theorem fit_7 {f : Nat} {x : Int32} (hf : f < 5) (h : fitc (7 + 6 * f) x = true) : dgB (nI 0) (nI 5) x = true := by
  unfold fitc at h
  rw [if_neg (by omega), if_neg (by omega), if_neg (by omega), if_neg (by omega), if_neg (by omega), if_neg (by omega), if_neg (by omega), if_neg (by omega)] at h
  exact h
theorem kindc_le (x : Int32) : kindc x ≤ 2 := by unfold kindc; split <;> (try split) <;> omega
theorem fordF_WF {c : Nat → Int32} {a N : Nat} (hN : N ≤ 5) (hN1 : 1 ≤ N) (hO : Okto c a (2 + 6 * N)) : WF (fordF c a N) := by
  refine ⟨by simpa [fordF] using hN, ?_, by simp [fordF], fun f hf => ?_⟩
  · have := (dg_at (by decide) (by decide) (fit_1 (hO 1 (by omega)))).2.2.1
    simpa [fordF] using this
  · have hf' : f < N := hf
    have h4 := dg_at (by decide) (by decide) (fit_4 (by omega) (hO (4 + 6 * f) (by omega)))
    have h5 := dg_at (by decide) (by decide) (fit_5 (by omega) (hO (5 + 6 * f) (by omega)))
    have h6 := dg_at (by decide) (by decide) (fit_6 (by omega) (hO (6 + 6 * f) (by omega)))
    have h7 := dg_at (by decide) (by decide) (fit_7 (by omega) (hO (7 + 6 * f) (by omega)))
    have h3 := kindc_le (c (a + (3 + 6 * f)))
    refine ⟨by simpa [fordF] using h3, by simpa [fordF] using h4.2.1, by simpa [fordF] using h4.2.2.1, ?_, by simpa [fordF] using h6.2.2.1, by simpa [fordF] using h7.2.2.1⟩
    have := h5.2.2.1
    simp [fordF]
    omega
theorem kind_c (x : Int32) (m : Mem) : f_X6_kindOf x m = some (nI (kindc x), m) := by
  unfold f_X6_kindOf kindc
  by_cases h1 : x = 112
  · simp [h1, nI_2']
  by_cases h2 : x = 101
  · simp [h2, nI_1']
  · simp [h1, h2, nI_0]
/-- one fish taken from its cells -/
theorem take1 {m : Mem} {k a la len f : Nat} {c : Nat → Int32} (hS : SC m k (some (la, len, c))) (hl : len ≤ 60) (hal : a + (8 + 6 * f) ≤ len) : f_X1_take f k (nI (a + (2 + 6 * f))) m =
    some ((), mset (mset (mset (mset (mset m 6 f 0 (nI (kindc (c (a + (3 + 6 * f)))))) 6 f 1 (c (a + (4 + 6 * f)) - 48)) 6 f 2 (c (a + (5 + 6 * f)) - 48)) 6 f 3 (c (a + (6 + 6 * f)) - 48)) 6 f 4 (c (a + (7 + 6 * f)) - 48)) := by
  have at' : ∀ (m1 : Mem) (d : Nat) (x : Int32), x = nI d → m1 2 = m 2 → m1 3 = m 3 → d < 6 → f_X4_at k (nI (a + (2 + 6 * f)) + x) m1 = some (c (a + (d + 2 + 6 * f)), m1) := fun m1 d x hx h2 h3 hd => by
    have hS1 : SC m1 k (some (la, len, c)) := by
      unfold SC at hS ⊢
      rw [h2, h3]
      exact hS
    rw [hx, nI_add, show a + (2 + 6 * f) + d = a + (d + 2 + 6 * f) by omega]
    exact at_c hS1 hl (by omega)
  unfold f_X1_take
  rw [at' m 1 1 rfl rfl rfl (by decide), bnd_some, kind_c, bnd_some, at' _ 2 2 rfl (mset_ne (by decide)) (mset_ne (by decide)) (by decide), bnd_some,
    at' _ 3 3 rfl (by rw [mset_ne (by decide), mset_ne (by decide)]) (by rw [mset_ne (by decide), mset_ne (by decide)]) (by decide), bnd_some,
    at' _ 4 4 rfl (by rw [mset_ne (by decide), mset_ne (by decide), mset_ne (by decide)]) (by rw [mset_ne (by decide), mset_ne (by decide), mset_ne (by decide)]) (by decide), bnd_some,
    at' _ 5 5 rfl (by rw [mset_ne (by decide), mset_ne (by decide), mset_ne (by decide), mset_ne (by decide)]) (by rw [mset_ne (by decide), mset_ne (by decide), mset_ne (by decide), mset_ne (by decide)]) (by decide), bnd_some]
def TF (m m' : Mem) : Prop := ∀ t, t ≠ 4 → t ≠ 6 → m' t = m t
def TkF (m : Mem) (F : FdT) (f : Nat) : Prop := m 6 f 0 = nI (F 3 f) ∧ m 6 f 1 = nI (F 4 f) ∧ m 6 f 2 = nI (F 5 f) ∧ m 6 f 3 = nI (F 6 f) ∧ m 6 f 4 = nI (F 7 f)
theorem take_c {m : Mem} {k a la len N : Nat} {c : Nat → Int32} (hS : SC m k (some (la, len, c))) (hl : len ≤ 60) (hal : a + (2 + 6 * N) ≤ len) (hN : N ≤ 5) (hN1 : 1 ≤ N) (hO : Okto c a (2 + 6 * N)) :
    ∃ m', f_X5_take k (nI a) (nI (2 + 6 * N)) m = some ((), m') ∧ TF m m' ∧ TC m' (fordF c a N) := by
  have hSx : ∀ m', TF m m' → SC m' k (some (la, len, c)) := fun m' h => by
    unfold SC at hS ⊢
    rw [h 2 (by decide) (by decide), h 3 (by decide) (by decide)]
    exact hS
  have key : ∀ (t f n : Nat) (m0 : Mem), f + t = N → t < n → TF m m0 → (∀ j, m0 4 0 1 = nI N ∧ m0 4 0 2 = nI (fordF c a N 1 j) ∧ m0 4 0 3 = 0) → (∀ x, x < f → TkF m0 (fordF c a N) x) → ∃ m1, lpk (f_X5_take_b36 k (nI a)) n (nI f, m0) (fun t36 => some ((), t36)) = some ((), m1) ∧ TF m m1 ∧ (∀ j, m1 4 0 1 = nI N ∧ m1 4 0 2 = nI (fordF c a N 1 j) ∧ m1 4 0 3 = 0) ∧ ∀ x, x < N → TkF m1 (fordF c a N) x := by
    intro t
    induction t with
    | zero =>
      intro f n m0 hf hn hF h4 h
      obtain ⟨n, rfl⟩ : ∃ n', n = n' + 1 := ⟨n - 1, by omega⟩
      have e : f = N := by omega
      subst e
      refine ⟨m0, ?_, hF, h4, h⟩
      have hle : nI f ≤ nI f := nI_le (Nat.le_refl _) (by omega)
      simp [lpk_s, f_X5_take_b36, (h4 0).1, hle]
    | succ t ih =>
      intro f n m0 hf hn hF h4 h
      obtain ⟨n, rfl⟩ : ∃ n', n = n' + 1 := ⟨n - 1, by omega⟩
      have hge : ¬ nI N ≤ nI f := nI_ge (by omega) (by omega)
      obtain ⟨b1, b2⟩ := i5 (f := f) (n := N) (by omega) hN
      have ei : nI a + 2 + nI f * 6 = nI (a + (2 + 6 * f)) := by
        rw [show nI a + 2 = nI (a + 2) from nI_add a 2, show nI f * 6 = nI (f * 6) from pk_mul f 6, nI_add, show a + 2 + f * 6 = a + (2 + 6 * f) by omega]
      have h4' := (dg_at (by decide) (by decide) (fit_4 (f := f) (by omega) (hO (4 + 6 * f) (by omega)))).1
      have h5' := (dg_at (by decide) (by decide) (fit_5 (f := f) (by omega) (hO (5 + 6 * f) (by omega)))).1
      have h6' := (dg_at (by decide) (by decide) (fit_6 (f := f) (by omega) (hO (6 + 6 * f) (by omega)))).1
      have h7' := (dg_at (by decide) (by decide) (fit_7 (f := f) (by omega) (hO (7 + 6 * f) (by omega)))).1
      have tk := take1 (a := a) (f := f) (hSx m0 hF) hl (by omega)
      rw [h4', h5', h6', h7'] at tk
      obtain ⟨m1, e1, e2, e3, e4⟩ := ih (f + 1) n (mset (mset (mset (mset (mset m0 6 f 0 (nI (kindc (c (a + (3 + 6 * f)))))) 6 f 1 (nI (dg (c (a + (4 + 6 * f)))))) 6 f 2 (nI (dg (c (a + (5 + 6 * f)))))) 6 f 3 (nI (dg (c (a + (6 + 6 * f)))))) 6 f 4 (nI (dg (c (a + (7 + 6 * f)))))) (by omega) (by omega)
        (fun t h1 h2 => by rw [mset_ne h2, mset_ne h2, mset_ne h2, mset_ne h2, mset_ne h2, hF t h1 h2])
        (fun j => by simpa [mset] using h4 j)
        (fun x hx => by
          by_cases e : x = f
          · subst e
            exact ⟨by simp [mset, fordF], by simp [mset, fordF], by simp [mset, fordF], by simp [mset, fordF], by simp [mset, fordF]⟩
          · have := h x (by omega)
            unfold TkF at this ⊢
            simpa [mset, e] using this)
      refine ⟨m1, ?_, e2, e3, e4⟩
      rw [← e1, lpk_s]
      have st : ∀ nx, f_X5_take_b36 k (nI a) nx (fun t36 => some ((), t36)) (nI f, m0) = nx (nI (f + 1), mset (mset (mset (mset (mset m0 6 f 0 (nI (kindc (c (a + (3 + 6 * f)))))) 6 f 1 (nI (dg (c (a + (4 + 6 * f)))))) 6 f 2 (nI (dg (c (a + (5 + 6 * f)))))) 6 f 3 (nI (dg (c (a + (6 + 6 * f)))))) 6 f 4 (nI (dg (c (a + (7 + 6 * f)))))) := fun nx => by
        unfold f_X5_take_b36
        dsimp only
        have hge' : ¬ m0 4 0 1 ≤ nI f := by rw [(h4 0).1]; exact hge
        rw [if_neg hge', if_pos b1, b2, ei, tk, bnd_some, nI_1]
      rw [st]
  have a1 : f_X4_at k (nI a + 1) m = some (c (a + 1), m) := by rw [nI_1]; exact at_c hS hl (by omega)
  have hd := (dg_at (by decide) (by decide) (fit_1 (hO 1 (by omega)))).1
  have h6 : ¬ (6 : Int32) = 0 := by decide
  have eq : (nI (2 + 6 * N) - 2) / 6 = nI N := by
    rw [show nI (2 + 6 * N) - 2 = nI (2 + 6 * N - 2) from pk_sub (b := 2) (by omega)]
    rw [show nI (2 + 6 * N - 2) / 6 = nI ((2 + 6 * N - 2) / 6) from pk_div (d := 6) (by omega) (by decide) (by decide)]
    rw [show (2 + 6 * N - 2) / 6 = N by omega]
  have h5n : ¬ (5 : Int32) < nI N := fun z => by have := (nI_ltI (a := 5) (by decide) (by omega)).mp z; omega
  obtain ⟨m1, e1, e2, e3, e4⟩ := key N 0 fuelN (mset (mset (mset m 4 0 2 (nI (dg (c (a + 1))))) 4 0 3 0) 4 0 1 (nI N)) (by omega) (by unfold fuelN; omega)
    (fun t h1 h2 => by rw [mset_ne h1, mset_ne h1, mset_ne h1]) (fun j => by simp [mset, fordF]) (fun x hx => by omega)
  refine ⟨m1, ?_, e2, (e3 0).1, (e3 0).2.1, ?_, fun f hf => e4 f hf⟩
  · unfold f_X5_take
    rw [a1, bnd_some, if_pos h6, eq, hd]
    unfold dv
    dsimp only
    rw [if_neg h5n]
    exact e1
  · rw [(e3 0).2.2]; rfl
