/-! ===== payments: the class's two arrays ===== -/
theorem fold_lp2 {ω : Type} {body : (Int32 × Int32 × Mem → Option ω) → (Int32 × Mem → Option ω) → Int32 × Int32 × Mem → Option ω} {K : Int32 × Mem → Option ω} {g : Int32 → Nat → Int32} {m : Mem} {N : Nat}
    (hend : ∀ acc next, body next K (acc, nI N, m) = K (acc, m)) (hstep : ∀ v acc next, v < N → body next K (acc, nI v, m) = next (g acc v, nI (v + 1), m)) :
    ∀ k v n acc, v + k = N → k < n → lpk body n (acc, nI v, m) K = K (foldS g v k acc, m) := by
  intro k
  induction k with
  | zero =>
    intro v n acc hv hn
    obtain ⟨n, rfl⟩ : ∃ n', n = n' + 1 := ⟨n - 1, by omega⟩
    have e : v = N := by omega
    subst e
    rw [lpk_s, hend]
    rfl
  | succ k ih =>
    intro v n acc hv hn
    obtain ⟨n, rfl⟩ : ∃ n', n = n' + 1 := ⟨n - 1, by omega⟩
    rw [lpk_s, hstep v acc _ (by omega), ih (v + 1) n (g acc v) (by omega) (by omega)]
    rfl
/-- what a fish owes less what it is owed -/
def netD (F C : FdT) (f : Nat) : Int32 := foldS (fun acc g => acc + (nI (C (5 + f) g) - nI (C (5 + g) f))) 0 (F 0 0) 0
theorem net_c {m : Mem} {w f : Nat} {F C : FdT} (hX : XR m w F C) (hn : F 0 0 ≤ 5) (hf : f < F 0 0) : f_X0_netOf w (nI f) m = some (netD F C f, m) := by
  obtain ⟨b1, b2⟩ := i5 hf hn
  obtain ⟨q0, -, -, -, -, -, q6⟩ := hX
  unfold f_X0_netOf
  refine fold_lp2 (g := fun acc g => acc + (nI (C (5 + f) g) - nI (C (5 + g) f))) (N := F 0 0) ?_ ?_ (F 0 0) 0 fuelN 0 (by omega) (by unfold fuelN; omega)
  · intro acc next
    have hle : m 7 w 8 ≤ nI (F 0 0) := by rw [q0]; exact nI_le (Nat.le_refl _) (by omega)
    unfold f_X0_netOf_b4
    dsimp only
    rw [if_pos hle]
  · intro v acc next hv
    obtain ⟨b3, b4⟩ := i5 hv hn
    have hge : ¬ m 7 w 8 ≤ nI v := by rw [q0]; exact nI_ge (by omega) (by omega)
    unfold f_X0_netOf_b4
    dsimp only
    rw [if_neg hge, if_pos b1, if_pos b3, if_pos b3, if_pos b1, b2, b4, (q6 f hf).2.2.2.2.2 v hv, (q6 v hv).2.2.2.2.2 f hf, nI_1]
/-! a table, filled from below -/
def mxS (t : Nat → Nat) (M : Nat) : Nat → Nat
  | 0 => 0
  | i + 1 => if M.testBit i = true then max (mxS t M i) (t (M ^^^ 2 ^ i)) else mxS t M i
def tabS (v : (Nat → Nat) → Nat → Nat) : Nat → Nat → Nat
  | 0 => fun _ => 0
  | K + 1 => fun x => if x = K + 1 then v (tabS v K) (K + 1) else tabS v K x
theorem tabS_st {v : (Nat → Nat) → Nat → Nat} : ∀ (K x : Nat), x ≤ K → tabS v K x = tabS v x x
  | 0, x, h => by
    have : x = 0 := by omega
    subst this
    rfl
  | K + 1, x, h => by
    by_cases e : x = K + 1
    · subst e; rfl
    · have : tabS v (K + 1) x = tabS v K x := by
        show (if x = K + 1 then _ else _) = _
        rw [if_neg e]
      rw [this, tabS_st K x (by omega)]
/-- the table's numbers: v looks at smaller places alone -/
def lowV (v : (Nat → Nat) → Nat → Nat) : Prop := ∀ t t' M, 0 < M → M < 32 → (∀ x, x < M → t x = t' x) → v t M = v t' M
theorem tabS_eq {v : (Nat → Nat) → Nat → Nat} (hv : lowV v) {M : Nat} (h0 : 0 < M) (hM : M < 32) : tabS v M M = v (fun x => tabS v x x) M := by
  obtain ⟨K, rfl⟩ : ∃ K, M = K + 1 := ⟨M - 1, by omega⟩
  show (if K + 1 = K + 1 then _ else _) = _
  rw [if_pos rfl]
  exact hv _ _ _ h0 hM (fun x hx => tabS_st K x (by omega))
theorem mxS_cg {t t' : Nat → Nat} {M : Nat} (hM : M < 32) (h : ∀ x, x < M → t x = t' x) : ∀ i, i ≤ 5 → mxS t M i = mxS t' M i
  | 0, _ => rfl
  | i + 1, hi => by
    unfold mxS
    rw [mxS_cg hM h i (by omega)]
    by_cases c : M.testBit i = true
    · rw [if_pos c, if_pos c, h _ (mk_lt M hM i (by omega) c)]
    · rw [if_neg c, if_neg c]
theorem mxS_ge {t : Nat → Nat} {M : Nat} : ∀ n i, i < n → M.testBit i = true → t (M ^^^ 2 ^ i) ≤ mxS t M n
  | 0, i, h, _ => by omega
  | n + 1, i, h, c => by
    unfold mxS
    by_cases e : i = n
    · subst e
      rw [if_pos c]
      exact Nat.le_max_right _ _
    · have := mxS_ge (t := t) n i (by omega) c
      split
      · exact Nat.le_trans this (Nat.le_max_left _ _)
      · exact this
theorem mxS_at {t : Nat → Nat} {M : Nat} : ∀ n, (∃ i, i < n ∧ M.testBit i = true) → ∃ i, i < n ∧ M.testBit i = true ∧ mxS t M n = t (M ^^^ 2 ^ i)
  | 0, h => by obtain ⟨i, h, _⟩ := h; omega
  | n + 1, h => by
    by_cases c : M.testBit n = true
    · by_cases k : ∃ i, i < n ∧ M.testBit i = true
      · obtain ⟨i, h1, h2, h3⟩ := mxS_at (t := t) n k
        unfold mxS
        rw [if_pos c]
        by_cases g : mxS t M n ≤ t (M ^^^ 2 ^ n)
        · exact ⟨n, by omega, c, Nat.max_eq_right g⟩
        · exact ⟨i, by omega, h2, by rw [← h3]; exact Nat.max_eq_left (by omega)⟩
      · refine ⟨n, by omega, c, ?_⟩
        have z : ∀ j, j ≤ n → mxS t M j = 0 := by
          intro j
          induction j with
          | zero => intro _; rfl
          | succ j ih =>
            intro hj
            unfold mxS
            rw [if_neg (fun q => k ⟨j, by omega, q⟩), ih (by omega)]
        unfold mxS
        rw [if_pos c, z n (Nat.le_refl _), Nat.zero_max]
    · obtain ⟨i, h1, h2⟩ := h
      have : i ≠ n := fun e => c (e ▸ h2)
      obtain ⟨j, g1, g2, g3⟩ := mxS_at (t := t) n ⟨i, by omega, h2⟩
      unfold mxS
      rw [if_neg c]
      exact ⟨j, by omega, g2, g3⟩
def someB (n M : Nat) : Bool := (M == 0) || (List.range n).any (fun i => M.testBit i)
theorem some_all : ∀ n, n < 6 → ∀ M, M < 2 ^ n → someB n M = true := by decide +kernel
theorem some_bit {n M : Nat} (hn : n ≤ 5) (h0 : 0 < M) (hM : M < 2 ^ n) : ∃ i, i < n ∧ M.testBit i = true := by
  have := some_all n (by omega) M hM
  unfold someB at this
  rw [Bool.or_eq_true, beq_iff_eq, List.any_eq_true] at this
  rcases this with q | ⟨i, h1, h2⟩
  · omega
  · exact ⟨i, List.mem_range.mp h1, h2⟩
def vC (n : Nat) (z : Nat → Bool) (t : Nat → Nat) (M : Nat) : Nat := mxS t M n + ez z M
theorem vC_low {n : Nat} {z : Nat → Bool} (hn : n ≤ 5) : lowV (vC n z) := fun t t' M h0 hM h => by
  unfold vC
  rw [mxS_cg hM h n hn]
def bC (n : Nat) (z : Nat → Bool) (x : Nat) : Nat := tabS (vC n z) x x
theorem bC_is {n : Nat} {z : Nat → Bool} (hn : n ≤ 5) : IsC n z (bC n z) := by
  refine ⟨rfl, fun M h0 hM => ?_⟩
  have m32 := p2_32 hn hM
  have e : bC n z M = mxS (bC n z) M n + ez z M := tabS_eq (vC_low hn) h0 m32
  refine ⟨fun i hi hb => ?_, ?_⟩
  · rw [e]
    have := mxS_ge (t := bC n z) n i hi hb
    omega
  · obtain ⟨i, h1, h2, h3⟩ := mxS_at (t := bC n z) n (some_bit hn h0 hM)
    exact ⟨i, h1, h2, by rw [e, h3]⟩
theorem bC_le {n : Nat} {z : Nat → Bool} (hn : n ≤ 5) : ∀ k M, M < k → M < 2 ^ n → bC n z M ≤ M
  | 0, M, h, _ => by omega
  | k + 1, M, h, hM => by
    by_cases h0 : M = 0
    · subst h0; exact Nat.le_refl _
    · obtain ⟨i, h1, h2, h3⟩ := ((bC_is (z := z) hn).2 M (by omega) hM).2
      have lt := mk_lt M (p2_32 hn hM) i (by omega) h2
      have := bC_le (z := z) hn k (M ^^^ 2 ^ i) (by omega) (by omega)
      have : ez z M ≤ 1 := by unfold ez; split <;> omega
      omega
theorem mxS_le {n : Nat} {z : Nat → Bool} (hn : n ≤ 5) {M : Nat} (hM : M < 2 ^ n) : ∀ i, i ≤ n → mxS (bC n z) M i ≤ 32
  | 0, _ => by unfold mxS; omega
  | i + 1, hi => by
    unfold mxS
    have ih := mxS_le (z := z) hn hM i (by omega)
    split
    case isFalse => exact ih
    case isTrue c =>
      have lt := mk_lt M (p2_32 hn hM) i (by omega) c
      have := bC_le (z := z) hn (M + 1) (M ^^^ 2 ^ i) (by omega) (by omega)
      have := p2_32 hn hM
      exact Nat.max_le.mpr ⟨ih, by omega⟩
theorem sum_one : ∀ i, i < 5 → ∀ j, j < 5 → (2 ^ i).testBit j = decide (i = j) := by decide +kernel
theorem and_one : ∀ M, M < 32 → ∀ i, i < 5 → M.testBit i = true → (M ^^^ 2 ^ i) &&& 2 ^ i = 0 ∧ (M ^^^ 2 ^ i) ^^^ 2 ^ i = M := by decide +kernel
theorem sumM_one (d : Nat → Int32) {i : Nat} (hi : i < 5) : sumM d (2 ^ i) = d i := by
  unfold sumM
  rw [sum_one i hi 0 (by omega), sum_one i hi 1 (by omega), sum_one i hi 2 (by omega), sum_one i hi 3 (by omega), sum_one i hi 4 (by omega)]
  have : i = 0 ∨ i = 1 ∨ i = 2 ∨ i = 3 ∨ i = 4 := by omega
  rcases this with rfl | rfl | rfl | rfl | rfl <;> simp
theorem sumM_bit (d : Nat → Int32) {M i : Nat} (hM : M < 32) (hi : i < 5) (h : M.testBit i = true) : sumM d (M ^^^ 2 ^ i) + d i = sumM d M := by
  obtain ⟨h1, h2⟩ := and_one M hM i hi h
  have := sumM_add d h1
  rw [h2, sumM_one d hi] at this
  exact this.symm
/-! the class's arrays up to a mask -/
def PF (m m' : Mem) : Prop := ∀ t, t ≠ 15 → t ≠ 16 → m' t = m t
theorem PF.s {m m' : Mem} {t i j : Nat} {v : Int32} (h : PF m m') (ht : t = 15 ∨ t = 16) : PF m (mset m' t i j v) := fun t' h1 h2 => by
  rw [mset_ne (by omega)]
  exact h t' h1 h2
theorem PF.x {m m' : Mem} {w : Nat} {F C : FdT} (h : PF m m') (hX : XR m w F C) : XR m' w F C := by
  unfold XR at hX ⊢
  rw [h 7 (by decide) (by decide), h 8 (by decide) (by decide), h 9 (by decide) (by decide), h 10 (by decide) (by decide), h 11 (by decide) (by decide), h 12 (by decide) (by decide), h 14 (by decide) (by decide)]
  exact hX
theorem PF.xf {m m' : Mem} (h : PF m m') : XF m m' := fun t ht => h t (by omega) (by omega)
def zD (d : Nat → Int32) (M : Nat) : Bool := sumM d M == 0
def PyT (m : Mem) (w n : Nat) (d : Nat → Int32) (M : Nat) : Prop := ∀ x, x < M → m 15 w x = nI (bC n (zD d) x) ∧ m 16 w x = sumM d x
theorem i32 {M : Nat} (h : M < 32) : inB (nI M) 32 = true ∧ ix (nI M) = M := ⟨inB_nI h (by decide), ix_nI (by omega)⟩
theorem max_at {x y : Int32} {a b : Nat} (hx : x = nI a) (hy : y = nI b) (ha : a < 2 ^ 31) (hb : b < 2 ^ 31) : (if x < y then y else x) = nI (max a b) := by
  subst hx; subst hy
  by_cases c : a < b
  · rw [if_pos ((nI_ltI ha hb).mpr c), Nat.max_eq_right (by omega)]
  · rw [if_neg (fun q => c ((nI_ltI ha hb).mp q)), Nat.max_eq_left (by omega)]
theorem max_nI {a b : Nat} (ha : a < 2 ^ 31) (hb : b < 2 ^ 31) : (if nI a < nI b then nI b else nI a) = nI (max a b) := by
  by_cases c : a < b
  · rw [if_pos ((nI_ltI ha hb).mpr c), Nat.max_eq_right (by omega)]
  · rw [if_neg (fun q => c ((nI_ltI ha hb).mp q)), Nat.max_eq_left (by omega)]
theorem pays_in {m0 : Mem} {w M : Nat} {x1 : Int32} {F C : FdT} {K : Mem → Option (Int32 × Mem)} (hX : XR m0 w F C) (hn : F 0 0 ≤ 5) (h0 : 0 < M) (hM : M < 2 ^ F 0 0) :
    ∀ k i fu m, i + k = F 0 0 → k < fu → PF m0 m → PyT m w (F 0 0) (netD F C) M → m 15 w M = nI (mxS (bC (F 0 0) (zD (netD F C))) M i) → ((∃ j, j < i ∧ M.testBit j = true) → m 16 w M = sumM (netD F C) M) →
      ∃ m', PF m0 m' ∧ PyT m' w (F 0 0) (netD F C) M ∧ m' 15 w M = nI (mxS (bC (F 0 0) (zD (netD F C))) M (F 0 0)) ∧ m' 16 w M = sumM (netD F C) M ∧ lpk (f_X0_fewestPayments_b48 w x1 (nI M)) fu (nI i, m) K = K m' := by
  have m32 := p2_32 hn hM
  obtain ⟨c1, c2⟩ := i32 m32
  intro k
  induction k with
  | zero =>
    intro i fu m hi hfu hP hT h15 h16
    obtain ⟨fu, rfl⟩ : ∃ n', fu = n' + 1 := ⟨fu - 1, by omega⟩
    have e : i = F 0 0 := by omega
    subst e
    refine ⟨m, hP, hT, h15, h16 (some_bit hn h0 hM), ?_⟩
    rw [lpk_s]
    unfold f_X0_fewestPayments_b48
    dsimp only
    have hle : m 7 w 8 ≤ nI (F 0 0) := by rw [(hP.x hX).1]; exact nI_le (Nat.le_refl _) (by omega)
    rw [if_pos hle]
  | succ k ih =>
    intro i fu m hi hfu hP hT h15 h16
    obtain ⟨fu, rfl⟩ : ∃ n', fu = n' + 1 := ⟨fu - 1, by omega⟩
    have hge : ¬ m 7 w 8 ≤ nI i := by rw [(hP.x hX).1]; exact nI_ge (by omega) (by omega)
    have hb := (bit_1 (s := M) (k := i) (by omega) (by omega)).1
    by_cases c : M.testBit i = true
    · have lt := mk_lt M m32 i (by omega) c
      obtain ⟨c3, c4⟩ := i32 (M := M ^^^ 2 ^ i) (by omega)
      have ex := (bit_x M (by omega) i (by omega)).1
      obtain ⟨t1, t2⟩ := hT _ lt
      have b1 := mxS_le (z := zD (netD F C)) hn hM i (by omega)
      have b2 := bC_le (z := zD (netD F C)) hn (M + 1) (M ^^^ 2 ^ i) (by omega) (by omega)
      obtain ⟨m', r1, r2, r3, r4, r5⟩ := ih (i + 1) fu (mset (mset m 16 w M (sumM (netD F C) M)) 15 w M (nI (mxS (bC (F 0 0) (zD (netD F C))) M (i + 1)))) (by omega) (by omega) ((hP.s (Or.inr rfl)).s (Or.inl rfl)) (fun x hx => by
        have := hT x hx
        have hne : x ≠ M := by omega
        simpa [mset, hne] using this) (by simp [mset]) (fun _ => by simp [mset])
      refine ⟨m', r1, r2, r3, r4, ?_⟩
      rw [← r5, lpk_s]
      have st : ∀ next, f_X0_fewestPayments_b48 w x1 (nI M) next K (nI i, m) = next (nI (i + 1), mset (mset m 16 w M (sumM (netD F C) M)) 15 w M (nI (mxS (bC (F 0 0) (zD (netD F C))) M (i + 1)))) := fun next => by
        have em : mxS (bC (F 0 0) (zD (netD F C))) M (i + 1) = max (mxS (bC (F 0 0) (zD (netD F C))) M i) (bC (F 0 0) (zD (netD F C)) (M ^^^ 2 ^ i)) := by
          show (if _ then _ else _) = _
          rw [if_pos c]
        unfold f_X0_fewestPayments_b48 f_X0_fewestPayments_j113
        dsimp only
        have c3' : inB (nI M ^^^ ((1 : Int32) <<< (nI i &&& 31))) 32 = true := by rw [ex]; exact c3
        have hx : m 15 w (ix (nI M)) = nI (mxS (bC (F 0 0) (zD (netD F C))) M i) := by rw [c2]; exact h15
        have hy : m 15 w (ix (nI M ^^^ ((1 : Int32) <<< (nI i &&& 31)))) = nI (bC (F 0 0) (zD (netD F C)) (M ^^^ 2 ^ i)) := by rw [ex, c4]; exact t1
        rw [if_neg hge, if_pos (hb.mpr c), if_pos c3', net_c (hP.x hX) hn (by omega), bnd_some, if_pos c1, if_pos c1, if_pos c3', if_pos c1, max_at hx hy (by omega) (by omega), ex, c2, c4, t2, sumM_bit _ m32 (by omega) c, ← em, nI_1]
      rw [st]
    · have em : mxS (bC (F 0 0) (zD (netD F C))) M (i + 1) = mxS (bC (F 0 0) (zD (netD F C))) M i := by
        show (if _ then _ else _) = _
        rw [if_neg c]
      obtain ⟨m', r1, r2, r3, r4, r5⟩ := ih (i + 1) fu m (by omega) (by omega) hP hT (by rw [em]; exact h15) (fun ⟨j, hj, hc⟩ => h16 ⟨j, by
        have : j ≠ i := fun e => c (e ▸ hc)
        omega, hc⟩)
      refine ⟨m', r1, r2, r3, r4, ?_⟩
      rw [← r5, lpk_s]
      have st : ∀ next, f_X0_fewestPayments_b48 w x1 (nI M) next K (nI i, m) = next (nI (i + 1), m) := fun next => by
        unfold f_X0_fewestPayments_b48 f_X0_fewestPayments_j113
        dsimp only
        rw [if_neg hge, if_neg (fun q => c (hb.mp q)), nI_1]
      rw [st]
theorem pay_out {m0 : Mem} {w : Nat} {F C : FdT} {K : Mem → Option (Int32 × Mem)} (hX : XR m0 w F C) (hn : F 0 0 ≤ 5) :
    ∀ k M fu m, M + k = 2 ^ F 0 0 → k < fu → 0 < M → PF m0 m → PyT m w (F 0 0) (netD F C) M →
      ∃ m', PF m0 m' ∧ PyT m' w (F 0 0) (netD F C) (2 ^ F 0 0) ∧ lpk (f_X0_fewestPayments_b25 w (nI (2 ^ F 0 0 - 1))) fu (nI M, m) K = K m' := by
  have p32 : 2 ^ F 0 0 ≤ 32 := Nat.pow_le_pow_right (by decide) hn
  intro k
  induction k with
  | zero =>
    intro M fu m hM hfu h0 hP hT
    obtain ⟨fu, rfl⟩ : ∃ n', fu = n' + 1 := ⟨fu - 1, by omega⟩
    have e : M = 2 ^ F 0 0 := by omega
    rw [← e] at p32 ⊢
    refine ⟨m, hP, hT, ?_⟩
    rw [lpk_s]
    unfold f_X0_fewestPayments_b25
    dsimp only
    rw [if_pos (nI_lt (by omega) (by omega))]
  | succ k ih =>
    intro M fu m hM hfu h0 hP hT
    obtain ⟨fu, rfl⟩ : ∃ n', fu = n' + 1 := ⟨fu - 1, by omega⟩
    have m32 : M < 32 := by omega
    obtain ⟨c1, c2⟩ := i32 m32
    have g1 : ¬ nI (2 ^ F 0 0 - 1) < nI M := nI_nlt (by omega) (by omega)
    have g2 : ¬ (32 : Int32) ≤ nI M := nI_ge (b := 32) (by omega) (by decide)
    have b1 := mxS_le (z := zD (netD F C)) hn (M := M) (by omega) (F 0 0) (Nat.le_refl _)
    have eb : bC (F 0 0) (zD (netD F C)) M = mxS (bC (F 0 0) (zD (netD F C))) M (F 0 0) + ez (zD (netD F C)) M := tabS_eq (vC_low hn) h0 m32
    have key : ∀ next : Int32 × Mem → Option (Int32 × Mem), ∃ m', PF m0 m' ∧ PyT m' w (F 0 0) (netD F C) (M + 1) ∧ f_X0_fewestPayments_b25 w (nI (2 ^ F 0 0 - 1)) next K (nI M, m) = next (nI (M + 1), m') := fun next => by
      obtain ⟨m', r1, r2, r3, r4, r5⟩ := pays_in (x1 := nI (2 ^ F 0 0 - 1)) (K := fun t48 =>
          if inB (nI M) 32 = true then
            if (t48 16 w (ix (nI M))) = 0 then
              if inB (nI M) 32 = true then
                if inB (nI M) 32 = true then
                  f_X0_fewestPayments_j138 w next K (nI (2 ^ F 0 0 - 1)) (nI M) (mset t48 15 w (ix (nI M)) ((t48 15 w (ix (nI M))) + (1 : Int32)))
                else none
              else none
            else
              f_X0_fewestPayments_j138 w next K (nI (2 ^ F 0 0 - 1)) (nI M) t48
          else none) hX hn h0 (by omega) (F 0 0) 0 fuelN (mset m 15 w M 0) (by omega) (by unfold fuelN; omega) (hP.s (Or.inl rfl)) (fun x hx => by
            have := hT x hx
            have hne : x ≠ M := by omega
            simpa [mset, hne] using this) (by simp [mset, mxS, nI_0]) (fun ⟨j, hj, _⟩ => by omega)
      have ei : f_X0_fewestPayments_b25 w (nI (2 ^ F 0 0 - 1)) next K (nI M, m) = (if (m' 16 w M) = 0 then next (nI (M + 1), mset m' 15 w M (m' 15 w M + 1)) else next (nI (M + 1), m')) := by
        unfold f_X0_fewestPayments_b25
        dsimp only
        rw [if_neg g1, if_neg g2, if_pos c1, c2]
        rw [c2] at r5
        rw [show ((0 : Int32), mset m 15 w M 0) = (nI 0, mset m 15 w M 0) from rfl, r5]
        unfold f_X0_fewestPayments_j138
        rw [if_pos c1, if_pos c1, if_pos c1, nI_1]
      by_cases c : sumM (netD F C) M = 0
      · refine ⟨mset m' 15 w M (m' 15 w M + 1), r1.s (Or.inl rfl), fun x hx => ?_, by rw [ei, if_pos (by rw [r4]; exact c)]⟩
        have e1 : ez (zD (netD F C)) M = 1 := by unfold ez zD; rw [if_pos (by simp [c])]
        by_cases e : x = M
        · subst e
          refine ⟨?_, by simpa [mset] using r4⟩
          rw [eb, e1]
          simp [mset, r3, nI_1]
        · have := r2 x (by omega)
          simpa [mset, e] using this
      · refine ⟨m', r1, fun x hx => ?_, by rw [ei, if_neg (by rw [r4]; exact c)]⟩
        have e1 : ez (zD (netD F C)) M = 0 := by unfold ez zD; rw [if_neg (by simp [c])]
        by_cases e : x = M
        · subst e
          exact ⟨by rw [eb, e1, r3]; rfl, r4⟩
        · exact r2 x (by omega)
    obtain ⟨m1, k1, k2, k3⟩ := key (fun s' => lpk (f_X0_fewestPayments_b25 w (nI (2 ^ F 0 0 - 1))) fu s' K)
    obtain ⟨m2, l1, l2, l3⟩ := ih (M + 1) fu m1 (by omega) (by omega) (by omega) k1 k2
    exact ⟨m2, l1, l2, by rw [lpk_s, k3, l3]⟩
theorem all_ : ∀ n, n < 6 → ((1 : Int32) <<< (nI n &&& 31)) - 1 = nI (2 ^ n - 1) := by decide +kernel
theorem payments_c {m : Mem} {w : Nat} {F C : FdT} (hX : XR m w F C) (hn : F 0 0 ≤ 5) : ∃ m', PF m m' ∧ f_X0_fewestPayments w m = some (nI (F 0 0) - nI (bC (F 0 0) (zD (netD F C)) (2 ^ F 0 0 - 1)), m') := by
  have p32 : 2 ^ F 0 0 ≤ 32 := Nat.pow_le_pow_right (by decide) hn
  have p1 : 1 ≤ 2 ^ F 0 0 := Nat.one_le_two_pow
  obtain ⟨c1, c2⟩ := i32 (M := 2 ^ F 0 0 - 1) (by omega)
  have q0 := hX.1
  obtain ⟨m', r1, r2, r3⟩ := pay_out (K := fun t25 =>
        if inB (nI (2 ^ F 0 0 - 1)) 32 = true then
          some (((t25 7 w 8) - (t25 15 w (ix (nI (2 ^ F 0 0 - 1))))), t25)
        else none) hX hn (2 ^ F 0 0 - 1) 1 fuelN (mset (mset m 15 w 0 0) 16 w 0 0) (by omega) (by unfold fuelN; omega) (by omega) ((PF.s (fun _ _ _ => rfl) (Or.inl rfl)).s (Or.inr rfl)) (fun x hx => by
          have : x = 0 := by omega
          subst this
          refine ⟨?_, ?_⟩
          · simp [mset, bC, tabS, nI_0]
          · simp [mset, sumM])
  refine ⟨m', r1, ?_⟩
  unfold f_X0_fewestPayments
  rw [q0, all_ _ (by omega), if_pos (by decide), if_pos (by decide), show ix (0 : Int32) = 0 from rfl, show ((1 : Int32), mset (mset m 15 w 0 0) 16 w 0 0) = (nI 1, mset (mset m 15 w 0 0) 16 w 0 0) from rfl, r3, if_pos c1, c2, (r2 _ (by omega)).1, r1 7 (by decide) (by decide), q0]
