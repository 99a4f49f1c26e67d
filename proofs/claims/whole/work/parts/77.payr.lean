/-! ===== payments: the reference's array ===== -/
def NF (m m' : Mem) : Prop := ∀ t, t ≠ 45 → t ≠ 46 → m' t = m t
theorem NF.rf {m : Mem} : NF m m := fun _ _ _ => rfl
theorem NF.s {m m' : Mem} {t i j : Nat} {v : Int32} (h : NF m m') (ht : t = 45 ∨ t = 46) : NF m (mset m' t i j v) := fun t' h1 h2 => by
  rw [mset_ne (by omega)]
  exact h t' h1 h2
theorem NF.ri {m m' : Mem} {ft tr : Int32} {Sh : ShT} {F : FdT} {rn : Nat} {rf rs : Nat → Nat} (h : NF m m') (hi : RI m ft tr Sh F rn rf rs) : RI m' ft tr Sh F rn rf rs := by
  have e (t : Nat) (h1 : t ≠ 45) (h2 : t ≠ 46) := h t h1 h2
  refine ⟨by rw [e 30 (by decide) (by decide)]; exact hi.1, by rw [e 30 (by decide) (by decide)]; exact hi.2.1, SR_cong (e 31 (by decide) (by decide)) (e 32 (by decide) (by decide)) (e 33 (by decide) (by decide)) hi.2.2.1, ?_, RR_cong (by rw [e 30 (by decide) (by decide)]) (e 47 (by decide) (by decide)) (e 48 (by decide) (by decide)) hi.2.2.2.2⟩
  exact TR_cong (by rw [e 30 (by decide) (by decide)]) (by rw [e 30 (by decide) (by decide)]) (by rw [e 30 (by decide) (by decide)]) (by rw [e 30 (by decide) (by decide)]) (e 34 (by decide) (by decide)) (e 35 (by decide) (by decide)) (e 36 (by decide) (by decide)) (e 37 (by decide) (by decide)) (e 38 (by decide) (by decide)) hi.2.2.2.1
theorem net_in {m0 : Mem} {f : Nat} {F C : FdT} {K : Mem → Option (Unit × Mem)} (hq : m0 30 0 7 = nI (F 0 0)) (hX : RX m0 F C) (hn : F 0 0 ≤ 5) (hf : f < F 0 0) :
    ∀ k x fu m acc, x + k = F 0 0 → k < fu → NF m0 m → (∀ g, g < f → m 45 0 g = netD F C g) → m 45 0 f = acc →
      ∃ m', NF m0 m' ∧ (∀ g, g < f → m' 45 0 g = netD F C g) ∧ m' 45 0 f = foldS (fun acc g => acc + (nI (C (5 + f) g) - nI (C (5 + g) f))) x k acc ∧ lpk (f_X7_layNets_b19 (nI f)) fu (nI x, m) K = K m' := by
  obtain ⟨b1, b2⟩ := i5 hf hn
  intro k
  induction k with
  | zero =>
    intro x fu m acc hx hfu hP hl ha
    obtain ⟨fu, rfl⟩ : ∃ n', fu = n' + 1 := ⟨fu - 1, by omega⟩
    refine ⟨m, hP, hl, ha, ?_⟩
    rw [lpk_s]
    unfold f_X7_layNets_b19
    dsimp only
    have hle : m 30 0 7 ≤ nI x := by rw [hP 30 (by decide) (by decide), hq]; exact nI_le (by omega) (by omega)
    rw [if_pos hle]
  | succ k ih =>
    intro x fu m acc hx hfu hP hl ha
    obtain ⟨fu, rfl⟩ : ∃ n', fu = n' + 1 := ⟨fu - 1, by omega⟩
    have e1 : (5 : Int32) * nI f + nI x = nI (5 * f + x) := by rw [show (5 : Int32) = nI 5 from rfl, pk_mul, nI_add]
    have e2 : (5 : Int32) * nI x + nI f = nI (5 * x + f) := by rw [show (5 : Int32) = nI 5 from rfl, pk_mul, nI_add]
    have b3 : inB (nI (5 * f + x)) 25 = true := inB_nI (by omega) (by decide)
    have b4 : ix (nI (5 * f + x)) = 5 * f + x := ix_nI (by omega)
    have b5 : inB (nI (5 * x + f)) 25 = true := inB_nI (by omega) (by decide)
    have b6 : ix (nI (5 * x + f)) = 5 * x + f := ix_nI (by omega)
    have hge : ¬ m 30 0 7 ≤ nI x := by rw [hP 30 (by decide) (by decide), hq]; exact nI_ge (by omega) (by omega)
    have b3' : inB ((5 : Int32) * nI f + nI x) 25 = true := by rw [e1]; exact b3
    have b5' : inB ((5 : Int32) * nI x + nI f) 25 = true := by rw [e2]; exact b5
    obtain ⟨m', r1, r2, r3, r4⟩ := ih (x + 1) fu (mset m 45 0 f (acc + (nI (C (5 + f) x) - nI (C (5 + x) f)))) (acc + (nI (C (5 + f) x) - nI (C (5 + x) f))) (by omega) (by omega) (hP.s (Or.inl rfl)) (fun g hg => by
      have := hl g hg
      have hne : g ≠ f := by omega
      simpa [mset, hne] using this) (by simp [mset])
    refine ⟨m', r1, r2, r3, ?_⟩
    rw [← r4, lpk_s]
    have st : ∀ next, f_X7_layNets_b19 (nI f) next K (nI x, m) = next (nI (x + 1), mset m 45 0 f (acc + (nI (C (5 + f) x) - nI (C (5 + x) f)))) := fun next => by
      unfold f_X7_layNets_b19
      dsimp only
      rw [if_neg hge, if_pos b1, if_pos b3', if_pos b5', if_pos b1, e1, e2, b2, b4, b6, hP 41 (by decide) (by decide), ha, (hX.2.2.2.2 f hf).2 x (by omega), (hX.2.2.2.2 x (by omega)).2 f hf, nI_1]
    rw [st]
theorem nets_r {m0 : Mem} {F C : FdT} (hq : m0 30 0 7 = nI (F 0 0)) (hX : RX m0 F C) (hn : F 0 0 ≤ 5) : ∃ m', f_X7_layNets m0 = some ((), m') ∧ NF m0 m' ∧ ∀ g, g < F 0 0 → m' 45 0 g = netD F C g := by
  have key : ∀ k f fu m, f + k = F 0 0 → k < fu → NF m0 m → (∀ g, g < f → m 45 0 g = netD F C g) → ∃ m', NF m0 m' ∧ (∀ g, g < F 0 0 → m' 45 0 g = netD F C g) ∧ lpk f_X7_layNets_b2 fu (nI f, m) (fun t2 => some ((), t2)) = some ((), m') := by
    intro k
    induction k with
    | zero =>
      intro f fu m hf hfu hP hl
      obtain ⟨fu, rfl⟩ : ∃ n', fu = n' + 1 := ⟨fu - 1, by omega⟩
      have e : f = F 0 0 := by omega
      subst e
      refine ⟨m, hP, hl, ?_⟩
      rw [lpk_s]
      unfold f_X7_layNets_b2
      dsimp only
      have hle : m 30 0 7 ≤ nI (F 0 0) := by rw [hP 30 (by decide) (by decide), hq]; exact nI_le (by omega) (by omega)
      rw [if_pos hle]
    | succ k ih =>
      intro f fu m hf hfu hP hl
      obtain ⟨fu, rfl⟩ : ∃ n', fu = n' + 1 := ⟨fu - 1, by omega⟩
      have hf' : f < F 0 0 := by omega
      obtain ⟨b1, b2⟩ := i5 hf' hn
      have hge : ¬ m 30 0 7 ≤ nI f := by rw [hP 30 (by decide) (by decide), hq]; exact nI_ge (by omega) (by omega)
      obtain ⟨m1, r1, r2, r3, r4⟩ := net_in (K := fun t19 => lpk f_X7_layNets_b2 fu (nI f + (1 : Int32), t19) (fun t2 => some ((), t2))) hq hX hn hf' (F 0 0) 0 fuelN (mset m 45 0 f 0) 0 (by omega) (by unfold fuelN; omega) (hP.s (Or.inl rfl)) (fun g hg => by
        have := hl g hg
        have hne : g ≠ f := by omega
        simpa [mset, hne] using this) (by simp [mset])
      obtain ⟨m2, s1, s2, s3⟩ := ih (f + 1) fu m1 (by omega) (by omega) r1 (fun g hg => by
        by_cases e : g = f
        · subst e; exact r3
        · exact r2 g (by omega))
      refine ⟨m2, s1, s2, ?_⟩
      rw [← s3, ← nI_1, lpk_s]
      have st : ∀ next K, f_X7_layNets_b2 next K (nI f, m) = lpk (f_X7_layNets_b19 (nI f)) fuelN (nI 0, mset m 45 0 f 0) (fun t19 => next ((nI f + (1 : Int32)), t19)) := fun next K => by
        unfold f_X7_layNets_b2
        dsimp only
        rw [if_neg hge, if_pos b1, b2, nI_0]
      rw [st]
      exact r4
  obtain ⟨m', r1, r2, r3⟩ := key (F 0 0) 0 fuelN m0 (by omega) (by unfold fuelN; omega) NF.rf (fun g hg => by omega)
  exact ⟨m', r3, r1, r2⟩
theorem ev_sum {d : Nat → Int32} {n S : Nat} (hn : n ≤ 5) (hS : S < 2 ^ n) : foldS (fun acc g => acc + (if S.testBit g = true then d g else 0)) 0 n 0 = sumM d S := by
  have hb : ∀ i, n ≤ i → S.testBit i = false := fun i hi => Nat.testBit_lt_two_pow (Nat.lt_of_lt_of_le hS (Nat.pow_le_pow_right (by decide) hi))
  have hc : n = 0 ∨ n = 1 ∨ n = 2 ∨ n = 3 ∨ n = 4 ∨ n = 5 := by omega
  unfold sumM
  rcases hc with rfl | rfl | rfl | rfl | rfl | rfl
  · rw [hb 0 (by omega), hb 1 (by omega), hb 2 (by omega), hb 3 (by omega), hb 4 (by omega)]; simp [foldS]
  · rw [hb 1 (by omega), hb 2 (by omega), hb 3 (by omega), hb 4 (by omega)]; simp [foldS]
  · rw [hb 2 (by omega), hb 3 (by omega), hb 4 (by omega)]; simp [foldS]
  · rw [hb 3 (by omega), hb 4 (by omega)]; simp [foldS, Int32.add_assoc]
  · rw [hb 4 (by omega)]; simp [foldS, Int32.add_assoc]
  · simp [foldS, Int32.add_assoc]
theorem even_r {m : Mem} {n S : Nat} {d : Nat → Int32} (hq : m 30 0 7 = nI n) (hd : ∀ g, g < n → m 45 0 g = d g) (hn : n ≤ 5) (hS : S < 2 ^ n) : f_X7_isEven (nI S) m = some (if zD d S = true then 1 else 0, m) := by
  have s32 := p2_32 hn hS
  unfold f_X7_isEven
  have key := fold_lp2 (body := f_X7_isEven_b4 (nI S)) (K := fun t4 => if t4.1 = 0 then some ((1 : Int32), t4.2) else some ((0 : Int32), t4.2)) (g := fun acc g => acc + (if S.testBit g = true then d g else 0)) (m := m) (N := n) (fun acc next => by
    unfold f_X7_isEven_b4
    dsimp only
    have hle : m 30 0 7 ≤ nI n := by rw [hq]; exact nI_le (Nat.le_refl _) (by omega)
    rw [if_pos hle]) (fun v acc next hv => by
    obtain ⟨b1, b2⟩ := i5 hv hn
    have hb := (bit_1 (s := S) (k := v) (by omega) (by omega)).1
    unfold f_X7_isEven_b4 f_X7_isEven_j32
    dsimp only
    have hge : ¬ m 30 0 7 ≤ nI v := by rw [hq]; exact nI_ge hv (by omega)
    rw [if_neg hge, if_pos b1, b2, hd v hv, nI_1]
    by_cases c : S.testBit v = true
    · rw [if_pos (hb.mpr c), if_pos c]
    · rw [if_neg (fun q => c (hb.mp q)), if_neg c]) n 0 fuelN 0 (by omega) (by unfold fuelN; omega)
  rw [show ((0 : Int32), (0 : Int32), m) = ((0 : Int32), nI 0, m) from rfl, key, ev_sum hn hS]
  dsimp only
  by_cases c : sumM d S = 0
  · rw [if_pos c, if_pos (by simp [zD, c])]
  · rw [if_neg c, if_neg (by simp [zD, c])]
/-! part by part -/
def mxR (z : Nat → Bool) (t : Nat → Nat) (M : Nat) : Nat → Nat → Nat → Nat
  | 0, _, acc => acc
  | k + 1, S, acc => if S = 0 then acc else mxR z t M k ((S - 1) &&& M) (max acc (if z S = true then t (M ^^^ S) + 1 else 0))
theorem mxR_s {z : Nat → Bool} {t : Nat → Nat} {M k S acc : Nat} : mxR z t M (k + 1) S acc = if S = 0 then acc else mxR z t M k ((S - 1) &&& M) (max acc (if z S = true then t (M ^^^ S) + 1 else 0)) := rfl
theorem mxR_0 {z : Nat → Bool} {t : Nat → Nat} {M acc : Nat} : ∀ k, mxR z t M k 0 acc = acc
  | 0 => rfl
  | k + 1 => by rw [mxR_s, if_pos rfl]
theorem sub_p {S M : Nat} : ((S - 1) &&& M) &&& M = (S - 1) &&& M := by rw [Nat.and_assoc, Nat.and_self]
theorem sub_l {S M : Nat} : (S - 1) &&& M ≤ S - 1 := Nat.and_le_left
def mk5 (M S T : Nat) : Bool := !(S &&& M == S) || !(T &&& M == T) || !(Nat.blt T S) || Nat.ble T ((S - 1) &&& M)
theorem mk5_all : ∀ M, M < 32 → ∀ S, S < 32 → ∀ T, T < 32 → mk5 M S T = true := by decide +kernel
theorem mk5_at {M S T : Nat} (hM : M < 32) (hS : S < 32) (hT : T < 32) (h1 : S &&& M = S) (h2 : T &&& M = T) (h3 : T < S) : T ≤ (S - 1) &&& M := by
  have := mk5_all M hM S hS T hT
  unfold mk5 at this
  rw [h1, h2, Nat.blt_eq.mpr h3] at this
  simp only [beq_self_eq_true, Bool.not_true, Bool.false_or] at this
  exact Nat.ble_eq.mp this
theorem mxR_acc {z : Nat → Bool} {t : Nat → Nat} {M : Nat} : ∀ k S acc, acc ≤ mxR z t M k S acc
  | 0, _, _ => Nat.le_refl _
  | k + 1, S, acc => by
    rw [mxR_s]
    split
    · exact Nat.le_refl _
    · exact Nat.le_trans (Nat.le_max_left _ _) (mxR_acc k _ _)
theorem mxR_ge {z : Nat → Bool} {t : Nat → Nat} {M T : Nat} (hM : M < 32) (hT : T &&& M = T) (h0 : 0 < T) (hz : z T = true) : ∀ k S acc, S ≤ k → S &&& M = S → T ≤ S → t (M ^^^ T) + 1 ≤ mxR z t M k S acc
  | 0, S, acc, h, _, h2 => by omega
  | k + 1, S, acc, h, h1, h2 => by
    have hS : S ≤ M := by rw [← h1]; exact Nat.and_le_right
    rw [mxR_s, if_neg (by omega)]
    by_cases e : T = S
    · subst e
      rw [if_pos hz]
      exact Nat.le_trans (Nat.le_max_right _ _) (mxR_acc k _ _)
    · exact mxR_ge hM hT h0 hz k _ _ (by have := sub_l (S := S) (M := M); omega) sub_p (mk5_at hM (by omega) (by omega) h1 hT (by omega))
theorem mxR_at {z : Nat → Bool} {t : Nat → Nat} {M : Nat} : ∀ k S acc, S &&& M = S → mxR z t M k S acc = acc ∨ mxR z t M k S acc = 0 ∨ ∃ T, 0 < T ∧ T &&& M = T ∧ z T = true ∧ mxR z t M k S acc = t (M ^^^ T) + 1
  | 0, S, acc, _ => Or.inl rfl
  | k + 1, S, acc, h => by
    rw [mxR_s]
    split
    · exact Or.inl rfl
    rename_i h0
    rcases mxR_at k ((S - 1) &&& M) (max acc (if z S = true then t (M ^^^ S) + 1 else 0)) sub_p with q | q
    · rw [q]
      by_cases c : z S = true
      · rw [if_pos c]
        by_cases g : acc ≤ t (M ^^^ S) + 1
        · exact Or.inr (Or.inr ⟨S, by omega, h, c, Nat.max_eq_right g⟩)
        · exact Or.inl (Nat.max_eq_left (by omega))
      · rw [if_neg c]
        exact Or.inl (Nat.max_eq_left (by omega))
    · exact Or.inr q
theorem mxR_cg {z : Nat → Bool} {t t' : Nat → Nat} {M : Nat} (hM : M < 32) (h : ∀ x, x < M → t x = t' x) : ∀ k S acc, S &&& M = S → mxR z t M k S acc = mxR z t' M k S acc
  | 0, _, _, _ => rfl
  | k + 1, S, acc, hs => by
    rw [mxR_s, mxR_s]
    by_cases c : S = 0
    · rw [if_pos c, if_pos c]
    · have hS : S ≤ M := by rw [← hs]; exact Nat.and_le_right
      rw [if_neg c, if_neg c, h (M ^^^ S) ((mk2_at (by omega) hM hs).2.2 (by omega)), mxR_cg hM h k _ _ sub_p]
theorem mxR_le {z : Nat → Bool} {t : Nat → Nat} {M : Nat} (hM : M < 32) (h : ∀ x, x < M → t x ≤ x) : ∀ k S acc, S &&& M = S → acc ≤ M → mxR z t M k S acc ≤ M
  | 0, _, _, _, ha => ha
  | k + 1, S, acc, hs, ha => by
    rw [mxR_s]
    by_cases c : S = 0
    · rw [if_pos c]; exact ha
    · have hS : S ≤ M := by rw [← hs]; exact Nat.and_le_right
      have lt := (mk2_at (by omega) hM hs).2.2 (by omega)
      have := h _ lt
      rw [if_neg c]
      refine mxR_le hM h k _ _ sub_p (Nat.max_le.mpr ⟨ha, ?_⟩)
      split <;> omega
def vR (z : Nat → Bool) (t : Nat → Nat) (M : Nat) : Nat := mxR z t M M M 0
theorem vR_low {z : Nat → Bool} : lowV (vR z) := fun t t' M h0 hM h => mxR_cg hM h M M 0 (Nat.and_self M)
def bR (z : Nat → Bool) (x : Nat) : Nat := tabS (vR z) x x
theorem bR_eq {z : Nat → Bool} {M : Nat} (h0 : 0 < M) (hM : M < 32) : bR z M = mxR z (bR z) M M M 0 := tabS_eq vR_low h0 hM
theorem bR_is {n : Nat} {z : Nat → Bool} (hn : n ≤ 5) : IsR n z (bR z) := by
  refine ⟨rfl, fun M h0 hM => ?_⟩
  have m32 := p2_32 hn hM
  refine ⟨fun S s0 s1 s2 => ?_, ?_⟩
  · have hS : S ≤ M := by rw [← s1]; exact Nat.and_le_right
    rw [bR_eq h0 m32]
    exact mxR_ge m32 s1 s0 s2 M M 0 (Nat.le_refl _) (Nat.and_self M) hS
  · rw [bR_eq h0 m32]
    rcases mxR_at (z := z) (t := bR z) M M 0 (Nat.and_self M) with q | q
    · exact Or.inl q
    · exact q
theorem bR_le {z : Nat → Bool} : ∀ k M, M < k → M < 32 → bR z M ≤ M
  | 0, M, h, _ => by omega
  | k + 1, M, h, hM => by
    by_cases h0 : M = 0
    · subst h0; exact Nat.le_refl _
    · rw [bR_eq (by omega) hM]
      exact mxR_le hM (fun x hx => bR_le k x (by omega) (by omega)) M M 0 (Nat.and_self M) (by omega)
theorem dif_I : ∀ M, M < 32 → ∀ S, S < 32 → S &&& M = S → (nI M &&& (nI S ^^^ (-1))) = nI (M ^^^ S) := by decide +kernel
theorem prv_I : ∀ M, M < 32 → ∀ S, S < 32 → 0 < S → ((nI S - 1) &&& nI M) = nI ((S - 1) &&& M) := by decide +kernel
def RT (m : Mem) (n : Nat) (d : Nat → Int32) (M : Nat) : Prop := m 30 0 7 = nI n ∧ (∀ g, g < n → m 45 0 g = d g) ∧ ∀ x, x < M → m 46 0 x = nI (bR (zD d) x)
def NG (m m' : Mem) : Prop := ∀ t, t ≠ 46 → m' t = m t
theorem NG.s {m m' : Mem} {i j : Nat} {v : Int32} (h : NG m m') : NG m (mset m' 46 i j v) := fun t' h1 => by
  rw [mset_ne (by omega)]
  exact h t' h1
theorem RT.up {m : Mem} {n M : Nat} {d : Nat → Int32} {v : Int32} (h : RT m n d M) : RT (mset m 46 0 M v) n d M := by
  refine ⟨by rw [mset_ne (by decide)]; exact h.1, fun g hg => by rw [mset_ne (by decide)]; exact h.2.1 g hg, fun x hx => ?_⟩
  have := h.2.2 x hx
  have hne : x ≠ M := by omega
  simpa [mset, hne] using this
theorem part_in {m0 : Mem} {n M : Nat} {x1 : Int32} {d : Nat → Int32} {K : Mem → Option (Int32 × Mem)} (hn : n ≤ 5) (hM : M < 2 ^ n) :
    ∀ k S fu m acc, S ≤ k → k < fu → S &&& M = S → NG m0 m → RT m n d M → m 46 0 M = nI acc → acc ≤ 32 →
      ∃ m', NG m0 m' ∧ RT m' n d M ∧ m' 46 0 M = nI (mxR (zD d) (bR (zD d)) M k S acc) ∧ lpk (f_X7_mostParts_b32 x1 (nI M)) fu (nI S, m) K = K m' := by
  have m32 := p2_32 hn hM
  obtain ⟨c1, c2⟩ := i32 m32
  have stop : ∀ k fu m acc, NG m0 m → RT m n d M → m 46 0 M = nI acc → ∃ m', NG m0 m' ∧ RT m' n d M ∧ m' 46 0 M = nI (mxR (zD d) (bR (zD d)) M k 0 acc) ∧ lpk (f_X7_mostParts_b32 x1 (nI M)) (fu + 1) (nI 0, m) K = K m' := by
    intro k fu m acc hP hT ha
    refine ⟨m, hP, hT, by rw [mxR_0]; exact ha, ?_⟩
    rw [lpk_s]
    unfold f_X7_mostParts_b32
    dsimp only
    rw [if_pos (by decide)]
  intro k
  induction k with
  | zero =>
    intro S fu m acc hS hfu hs hP hT ha hb
    obtain ⟨fu, rfl⟩ : ∃ n', fu = n' + 1 := ⟨fu - 1, by omega⟩
    have e : S = 0 := by omega
    subst e
    exact stop 0 fu m acc hP hT ha
  | succ k ih =>
    intro S fu m acc hS hfu hs hP hT ha hb
    obtain ⟨fu, rfl⟩ : ∃ n', fu = n' + 1 := ⟨fu - 1, by omega⟩
    by_cases e : S = 0
    · subst e
      exact stop (k + 1) fu m acc hP hT ha
    have hle : S ≤ M := by rw [← hs]; exact Nat.and_le_right
    have lt := (mk2_at (by omega) m32 hs).2.2 (by omega)
    obtain ⟨c3, c4⟩ := i32 (M := M ^^^ S) (by omega)
    have bl := bR_le (z := zD d) ((M ^^^ S) + 1) (M ^^^ S) (by omega) (by omega)
    have hits : (if zD d S = true then bR (zD d) (M ^^^ S) + 1 else 0) ≤ 32 := by split <;> omega
    have hmx : max acc (if zD d S = true then bR (zD d) (M ^^^ S) + 1 else 0) ≤ 32 := Nat.max_le.mpr ⟨hb, hits⟩
    obtain ⟨m', r1, r2, r3, r4⟩ := ih ((S - 1) &&& M) fu (mset m 46 0 M (nI (max acc (if zD d S = true then bR (zD d) (M ^^^ S) + 1 else 0)))) (max acc (if zD d S = true then bR (zD d) (M ^^^ S) + 1 else 0)) (by have := sub_l (S := S) (M := M); omega) (by omega) sub_p hP.s hT.up (by simp [mset]) hmx
    refine ⟨m', r1, r2, ?_, ?_⟩
    · rw [r3, mxR_s, if_neg e]
    have j : ∀ next (x1 : Int32) (a : Nat), a ≤ 32 → f_X7_mostParts_j60 next K (nI a) x1 (nI M) (nI S) m = next (nI ((S - 1) &&& M), mset m 46 0 M (nI (max acc a))) := fun next x1 a hA => by
      unfold f_X7_mostParts_j60 f_X7_mostParts_j89
      have hx : m 46 0 (ix (nI M)) = nI acc := by rw [c2]; exact ha
      rw [if_pos c1, if_pos c1, if_pos c1, prv_I M m32 S (by omega) (by omega)]
      by_cases g : a ≤ acc
      · have g' : nI a ≤ m 46 0 (ix (nI M)) := by rw [hx]; exact nI_le g (by omega)
        rw [if_pos g', hx, c2, Nat.max_eq_left g]
      · have g' : ¬ nI a ≤ m 46 0 (ix (nI M)) := by rw [hx]; exact nI_ge (by omega) (by omega)
        rw [if_neg g', if_pos c1, c2, Nat.max_eq_right (by omega)]
    have st : ∀ next, f_X7_mostParts_b32 x1 (nI M) next K (nI S, m) = next (nI ((S - 1) &&& M), mset m 46 0 M (nI (max acc (if zD d S = true then bR (zD d) (M ^^^ S) + 1 else 0)))) := fun next => by
      unfold f_X7_mostParts_b32
      dsimp only
      rw [if_neg (nI_nle (by omega) (by omega)), even_r hT.1 hT.2.1 hn (by omega), bnd_some]
      by_cases c : zD d S = true
      · have c3' : inB (nI M &&& (nI S ^^^ (-1))) 32 = true := by rw [dif_I M m32 S (by omega) hs]; exact c3
        rw [if_pos c, if_neg (by decide), if_pos c3', dif_I M m32 S (by omega) hs, c4, hT.2.2 _ lt, nI_1, if_pos c, j next x1 _ (by omega)]
      · rw [if_neg c, if_pos rfl, if_neg c, show (0 : Int32) = nI 0 from rfl, j next x1 0 (by omega)]
    rw [← r4, lpk_s, st]
theorem parts_out {m0 : Mem} {n : Nat} {d : Nat → Int32} {K : Mem → Option (Int32 × Mem)} (hn : n ≤ 5) :
    ∀ k M fu m, M + k = 2 ^ n → k < fu → 0 < M → NG m0 m → RT m n d M →
      ∃ m', NG m0 m' ∧ RT m' n d (2 ^ n) ∧ lpk (f_X7_mostParts_b18 (nI (2 ^ n - 1))) fu (nI M, m) K = K m' := by
  have p32 : 2 ^ n ≤ 32 := Nat.pow_le_pow_right (by decide) hn
  intro k
  induction k with
  | zero =>
    intro M fu m hM hfu h0 hP hT
    obtain ⟨fu, rfl⟩ : ∃ n', fu = n' + 1 := ⟨fu - 1, by omega⟩
    have e : M = 2 ^ n := by omega
    rw [← e] at p32 ⊢
    refine ⟨m, hP, hT, ?_⟩
    rw [lpk_s]
    unfold f_X7_mostParts_b18
    dsimp only
    rw [if_pos (nI_lt (by omega) (by omega))]
  | succ k ih =>
    intro M fu m hM hfu h0 hP hT
    obtain ⟨fu, rfl⟩ : ∃ n', fu = n' + 1 := ⟨fu - 1, by omega⟩
    have m32 : M < 32 := by omega
    obtain ⟨c1, c2⟩ := i32 m32
    have g1 : ¬ nI (2 ^ n - 1) < nI M := nI_nlt (by omega) (by omega)
    obtain ⟨m1, r1, r2, r3, r4⟩ := part_in (m0 := m0) (x1 := nI (2 ^ n - 1)) (d := d) (K := fun t32 => lpk (f_X7_mostParts_b18 (nI (2 ^ n - 1))) fu (nI M + (1 : Int32), t32) K) hn (M := M) (by omega) M M fuelN (mset m 46 0 M 0) 0 (Nat.le_refl _) (by unfold fuelN; omega) (Nat.and_self M) hP.s hT.up (by simp [mset, nI_0]) (by omega)
    obtain ⟨m2, s1, s2, s3⟩ := ih (M + 1) fu m1 (by omega) (by omega) (by omega) r1 ⟨r2.1, r2.2.1, fun x hx => by
      by_cases e : x = M
      · subst e
        rw [r3, bR_eq h0 m32]
      · exact r2.2.2 x (by omega)⟩
    refine ⟨m2, s1, s2, ?_⟩
    have st : ∀ next, f_X7_mostParts_b18 (nI (2 ^ n - 1)) next K (nI M, m) = lpk (f_X7_mostParts_b32 (nI (2 ^ n - 1)) (nI M)) fuelN (nI M, mset m 46 0 M 0) (fun t32 => next ((nI M + (1 : Int32)), t32)) := fun next => by
      unfold f_X7_mostParts_b18
      dsimp only
      rw [if_neg g1, if_pos c1, c2]
    rw [← s3, ← nI_1, lpk_s, st]
    exact r4
theorem parts_r {m : Mem} {n : Nat} {d : Nat → Int32} (hn : n ≤ 5) (hq : m 30 0 7 = nI n) (hd : ∀ g, g < n → m 45 0 g = d g) : ∃ m', NG m m' ∧ f_X7_mostParts m = some (nI (bR (zD d) (2 ^ n - 1)), m') := by
  have p32 : 2 ^ n ≤ 32 := Nat.pow_le_pow_right (by decide) hn
  have p1 : 1 ≤ 2 ^ n := Nat.one_le_two_pow
  obtain ⟨c1, c2⟩ := i32 (M := 2 ^ n - 1) (by omega)
  obtain ⟨m', r1, r2, r3⟩ := parts_out (m0 := m) (d := d) (K := fun t18 =>
      if inB (nI (2 ^ n - 1)) 32 = true then
        some ((t18 46 0 (ix (nI (2 ^ n - 1)))), t18)
      else none) hn (2 ^ n - 1) 1 fuelN (mset m 46 0 0 0) (by omega) (by unfold fuelN; omega) (by omega) (NG.s (fun _ _ => rfl)) ⟨by rw [mset_ne (by decide)]; exact hq, fun g hg => by rw [mset_ne (by decide)]; exact hd g hg, fun x hx => by
        have : x = 0 := by omega
        subst this
        simp [mset, bR, tabS, nI_0]⟩
  refine ⟨m', r1, ?_⟩
  unfold f_X7_mostParts
  rw [hq, all_ _ (by omega), if_pos (by decide), show ix (0 : Int32) = 0 from rfl, show ((1 : Int32), mset m 46 0 0 0) = (nI 1, mset m 46 0 0 0) from rfl, r3, if_pos c1, c2, r2.2.2 _ (by omega)]
