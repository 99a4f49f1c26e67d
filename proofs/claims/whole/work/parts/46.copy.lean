theorem clampI {x : Int32} {n : Nat} (h : x = nI n) (hn : n ≤ 60) : (if (60 : Int32) < (if x < (0 : Int32) then (0 : Int32) else x) then (60 : Int32) else (if x < (0 : Int32) then (0 : Int32) else x)) = nI n := by
  subst h
  rw [if_neg (nI_pos (by omega))]
  have : ¬ (60 : Int32) < nI n := nI_nlt (a := 60) hn (by decide)
  rw [if_neg this]
theorem a_sheet (x y z : Int32) : Agree (f_X6_sheet x y z) (f_X7_sheet x y z) := agree_of (fun ft tr Sh F rn rf rs hv => by
  rcases sheet_cases x with ⟨h1, h2⟩ | ⟨k, hk, rfl, h1, h2⟩
  · exact ⟨-1, 0, tr, Sh, F, rn, rf, rs, hv, fun m h => ⟨_, by simp [f_X6_sheet, h1, bnd], CI_ft h, fun t ht => mset_t ht (by decide)⟩, fun m h => ⟨_, by simp [f_X7_sheet, h2, bnd], RI_ft h, fun t ht => mset_l ht (by decide)⟩⟩
  obtain ⟨b1, b2⟩ := i4 hk
  rcases lane_cases y with ⟨l1, l2⟩ | ⟨la, hla, rfl, l1, l2⟩
  · exact ⟨-2, 0, tr, Sh, F, rn, rf, rs, hv, fun m h => ⟨_, by simp [f_X6_sheet, h1, l1, bnd], CI_ft h, fun t ht => mset_t ht (by decide)⟩, fun m h => ⟨_, by simp [f_X7_sheet, h2, l2, bnd], RI_ft h, fun t ht => mset_l ht (by decide)⟩⟩
  by_cases hz : z ≤ 60
  case neg => exact ⟨-2, 0, tr, Sh, F, rn, rf, rs, hv, fun m h => ⟨_, by simp [f_X6_sheet, h1, l1, bnd, hz], CI_ft h, fun t ht => mset_t ht (by decide)⟩, fun m h => ⟨_, by simp [f_X7_sheet, h2, l2, bnd, hz], RI_ft h, fun t ht => mset_l ht (by decide)⟩⟩
  by_cases h0 : 0 ≤ z
  case neg => exact ⟨-14, 4, tr, Sh, F, rn, rf, rs, hv, fun m h => ⟨mset m 0 0 6 4, by simp [f_X6_sheet, h1, l1, bnd, hz, h0, f_X6_faulty, mset_mset], CI_ft h, fun t ht => mset_t ht (by decide)⟩, fun m h => ⟨mset m 30 0 0 4, by simp [f_X7_sheet, h2, l2, bnd, hz, h0, f_X7_fails, mset_mset], RI_ft h, fun t ht => mset_l ht (by decide)⟩⟩
  obtain ⟨n, hn, rfl⟩ := nI_of2 (x := z) (M := 60) (n := 60) (by decide) (nn_of h0) hz
  refine ⟨1, 0, tr, upS_ Sh k (some (la, n, fun _ => 0)), F, rn, rf, rs, ⟨fun i hi => ?_, hv.2⟩, fun m h => ⟨mset (mset (mset (mfill (mset m 0 0 6 0) 3 k 0 60 0) 2 k 1 1) 2 k 2 (nI la)) 2 k 3 (nI n), ?_, ?_, ?_⟩, fun m h => ⟨mfill (mset (mset (mset m 30 0 0 0) 31 0 k (nI la)) 32 0 k (nI n)) 33 0 (60 * k) 60 0, ?_, ?_, ?_⟩⟩
  · by_cases e : i = k
    · subst e; simp [upS_, SV]; omega
    · simpa [upS_, e] using hv.1 i hi
  · simp [f_X6_sheet, h1, l1, bnd, hz, h0, b1, b2, f_X4_begin, fill3, clampI (x := nI n) rfl hn]
  · refine ⟨by simp [mset, mfill], by simpa [mset, mfill] using h.2.1, fun i hi => ?_, TC_cong (by simp [mset_ne, mfill_ne]) (by simp [mset_ne, mfill_ne]) h.2.2.2.1, RC_cong (by simp [mset, mfill]) (by simp [mset_ne, mfill_ne]) (by simp [mset_ne, mfill_ne]) h.2.2.2.2.1, Cache_cong (by simp [mset_ne, mfill_ne]) (by simp [mset_ne, mfill_ne]) h.2.2.2.2.2⟩
    by_cases e : i = k
    · subst e
      simp only [upS_, if_true]
      refine ⟨by simp [mset], by simp [mset], by simp [mset], fun j hj => by simp [mset, mfill, hj]⟩
    · have g := h.2.2.1 i hi
      simp only [upS_, if_neg e]
      unfold SC at g ⊢
      cases hs : Sh i <;> rw [hs] at g <;> simpa [mset, mfill, e] using g
  · intro t ht; rw [mset_t ht (by decide), mset_t ht (by decide), mset_t ht (by decide), mfill_ne (by omega), mset_t ht (by decide)]
  · have hlp : lpk (f_X7_sheet_b57 (nI k)) fuelN ((0 : Int32), mset (mset (mset m 30 0 0 0) 31 0 k (nI la)) 32 0 k (nI n)) (fun t57 => some ((1 : Int32), t57)) = some (1, mfill (mset (mset (mset m 30 0 0 0) 31 0 k (nI la)) 32 0 k (nI n)) 33 0 (60 * k) 60 0) := by
      generalize mset (mset (mset m 30 0 0 0) 31 0 k (nI la)) 32 0 k (nI n) = m0
      refine lpk_ind (fun q s => ∃ i, i + q = 60 ∧ s = (nI i, mfill m0 33 0 (60 * k) i 0)) ?_ 60 fuelN _ (by decide) ⟨0, rfl, by rw [mfill_0]; rfl⟩
      rintro q s ⟨i, hi, rfl⟩
      unfold f_X7_sheet_b57
      cases q with
      | zero =>
        refine Or.inr fun next => ?_
        have e : i = 60 := by omega
        subst e
        dsimp only
        rw [if_pos (show (60 : Int32) ≤ nI 60 from by decide)]
      | succ q =>
        refine Or.inl ⟨q, (nI (i + 1), mfill m0 33 0 (60 * k) (i + 1) 0), rfl, ⟨i + 1, by omega, rfl⟩, fun next => ?_⟩
        dsimp only
        have hge : ¬ (60 : Int32) ≤ nI i := nI_ge (b := 60) (by omega) (by decide)
        rw [if_neg hge, nI_cell, if_pos (inB_nI (by omega) (by decide)), ix_nI (by omega), nI_1, mfill_s]
    simp [f_X7_sheet, h2, l2, bnd, hz, h0, b1, b2, hlp]
  · refine ⟨by simp [mset, mfill], by simpa [mset, mfill] using h.2.1, fun i hi => ?_, TR_cong (by simp [mset, mfill]) (by simp [mset, mfill]) (by simp [mset, mfill]) (by simp [mset, mfill]) (by simp [mset_ne, mfill_ne]) (by simp [mset_ne, mfill_ne]) (by simp [mset_ne, mfill_ne]) (by simp [mset_ne, mfill_ne]) (by simp [mset_ne, mfill_ne]) h.2.2.2.1, RR_cong (by simp [mset, mfill]) (by simp [mset_ne, mfill_ne]) (by simp [mset_ne, mfill_ne]) h.2.2.2.2⟩
    by_cases e : i = k
    · subst e
      simp only [upS_, if_true]
      refine ⟨by simp [mset, mfill], by simp [mset, mfill], fun j hj => by simp [mfill]; omega⟩
    · have g := h.2.2.1 i hi
      simp only [upS_, if_neg e]
      unfold SR at g ⊢
      cases hs : Sh i with
      | none => rw [hs] at g; simpa [mset, mfill, e] using g
      | some z =>
        rw [hs] at g
        refine ⟨by simpa [mset, mfill, e] using g.1, by simpa [mset, mfill, e] using g.2.1, fun a ha => ?_⟩
        have hne : ¬ (60 * k ≤ 60 * i + a ∧ 60 * i + a < 60 * k + 60) := by omega
        simpa [mset, mfill, hne] using g.2.2 a ha
  · intro t ht; rw [mfill_ne (by omega), mset_l ht (by decide), mset_l ht (by decide), mset_l ht (by decide)])
theorem sub_toInt {a b : Nat} (ha : a < 2 ^ 31) (hb : b < 2 ^ 31) : (nI a - nI b).toInt = (a : Int) - b := by
  rw [Int32.toInt_sub, nI_toInt ha, nI_toInt hb]
  exact Int.bmod_eq_of_le (by omega) (by omega)
theorem sub_lt {a b c : Nat} (ha : a < 2 ^ 31) (hb : b < 2 ^ 31) (hc : c < 2 ^ 31) : (nI a - nI b < nI c ↔ a < b + c) ∧ (nI c ≤ nI a - nI b ↔ b + c ≤ a) := by
  rw [Int32.lt_iff_toInt_lt, Int32.le_iff_toInt_le, sub_toInt ha hb, nI_toInt hc]
  omega
/-- cells of a sheet from i on, n of them: there, or not -/
theorem holds_n {len a n : Nat} (hl : len ≤ 60) (ha : a < 2 ^ 31) (hn : n < 2 ^ 31) {m : Mem} {w : Nat} (hm : m 2 w 3 = nI len) : f_X4_holds w (nI a) (nI n) m = some (if a + n ≤ len then 1 else 0, m) := by
  unfold f_X4_holds
  rw [if_neg (nI_pos ha), if_neg (nI_pos hn), hm]
  have h := (sub_lt (a := len) (b := n) (c := a) (by omega) hn ha).1
  by_cases c : a + n ≤ len
  · rw [if_neg (fun q => by have := h.mp q; omega), if_pos c]
  · rw [if_pos (h.mpr (by omega)), if_neg c]
theorem holds_neg {i n : Int32} (h : i < 0 ∨ n < 0) (w : Nat) (m : Mem) : f_X4_holds w i n m = some (0, m) := by
  unfold f_X4_holds
  by_cases h1 : i < 0
  · rw [if_pos h1]
  · rw [if_neg h1]
    rcases h with h | h
    · exact absurd h h1
    · rw [if_pos h]
/-- cells of one row: those of d+lo .. d+hi are what s+lo .. s+hi were -/
def mcpR (m : Mem) (s d lo hi : Nat) : Mem := fun t i j => if t = 33 ∧ i = 0 ∧ d + lo ≤ j ∧ j < d + hi then m 33 0 (s + (j - d)) else m t i j
theorem mcpR_all {m : Mem} {s d n : Nat} : mcpR m s d 0 n = mcopy m 33 0 33 0 s d n := by
  funext t i j
  unfold mcpR mcopy
  simp
theorem mcpR_up {m : Mem} {s d q : Nat} : mset (mcpR m s d 0 q) 33 0 (d + q) (m 33 0 (s + q)) = mcpR m s d 0 (q + 1) := by
  funext t i j
  unfold mcpR mset
  dsimp only
  by_cases h : t = 33 ∧ i = 0 ∧ j = d + q
  · rw [if_pos h, if_pos ⟨h.1, h.2.1, by omega, by omega⟩, h.2.2]
    congr 1
    omega
  · rw [if_neg h]
    by_cases h2 : t = 33 ∧ i = 0 ∧ d + 0 ≤ j ∧ j < d + q
    · rw [if_pos h2, if_pos ⟨h2.1, h2.2.1, h2.2.2.1, by omega⟩]
    · rw [if_neg h2, if_neg]
      rintro ⟨q1, q2, q3, q4⟩
      exact h2 ⟨q1, q2, q3, by have : j ≠ d + q := fun e => h ⟨q1, q2, e⟩; omega⟩
theorem mcpR_dn {m : Mem} {s d lo n : Nat} (hlo : lo < n) : mset (mcpR m s d (lo + 1) n) 33 0 (d + lo) (m 33 0 (s + lo)) = mcpR m s d lo n := by
  funext t i j
  unfold mcpR mset
  dsimp only
  by_cases h : t = 33 ∧ i = 0 ∧ j = d + lo
  · rw [if_pos h, if_pos ⟨h.1, h.2.1, by omega, by omega⟩, h.2.2]
    congr 1
    omega
  · rw [if_neg h]
    by_cases h2 : t = 33 ∧ i = 0 ∧ d + (lo + 1) ≤ j ∧ j < d + n
    · rw [if_pos h2, if_pos ⟨h2.1, h2.2.1, by omega, h2.2.2.2⟩]
    · rw [if_neg h2, if_neg]
      rintro ⟨q1, q2, q3, q4⟩
      exact h2 ⟨q1, q2, by have : j ≠ d + lo := fun e => h ⟨q1, q2, e⟩; omega, q4⟩
theorem mcpR_0 {m : Mem} {s d : Nat} {n : Nat} : mcpR m s d n n = m := by
  funext t i j
  unfold mcpR
  rw [if_neg]
  omega
/-- the reference's loop, either way, does what arraycopy does -/
theorem copy_loop {k1 k2 a b n : Nat} (h1 : k1 < 4) (h2 : k2 < 4) (ha : a + n ≤ 60) (hb : b + n ≤ 60) (m : Mem) : f_X7_copy_j161 (if b ≤ a then 0 else 1) (nI k1) (nI a) (nI k2) (nI b) (nI n) m = some (nI n, mcopy m 33 0 33 0 (60 * k1 + a) (60 * k2 + b) n) := by
  unfold f_X7_copy_j161
  by_cases hba : b ≤ a
  · rw [if_pos hba]
    refine lpk_ind (fun k s => ∃ i, i + k = n ∧ s = (nI i, mcpR m (60 * k1 + a) (60 * k2 + b) 0 i)) ?_ n fuelN _ (by unfold fuelN; omega) ⟨0, by omega, by rw [mcpR_0]; rfl⟩
    rintro k s ⟨i, hi, rfl⟩
    unfold f_X7_copy_b166
    cases k with
    | zero =>
      refine Or.inr fun next => ?_
      have e : i = n := by omega
      subst e
      dsimp only
      rw [if_pos (nI_le (Nat.le_refl _) (by omega)), mcpR_all]
    | succ k =>
      refine Or.inl ⟨k, (nI (i + 1), mcpR m (60 * k1 + a) (60 * k2 + b) 0 (i + 1)), rfl, ⟨i + 1, by omega, rfl⟩, fun next => ?_⟩
      dsimp only
      rw [if_neg (nI_ge (by omega) (by omega)), if_pos rfl]
      unfold f_X7_copy_j190
      rw [nI_cell, nI_cell, nI_add, nI_add, if_pos (inB_nI (by omega) (by decide)), if_pos (inB_nI (by omega) (by decide)), ix_nI (by omega), ix_nI (by omega), nI_1, ← mcpR_up]
      congr 3
      unfold mcpR
      rw [if_neg]
      rintro ⟨-, -, q3, q4⟩
      by_cases e : k1 = k2
      · subst e; omega
      · omega
  · rw [if_neg hba]
    refine lpk_ind (fun k s => ∃ i, i + k = n ∧ s = (nI i, mcpR m (60 * k1 + a) (60 * k2 + b) (n - i) n)) ?_ n fuelN _ (by unfold fuelN; omega) ⟨0, by omega, by rw [Nat.sub_zero, mcpR_0]; rfl⟩
    rintro k s ⟨i, hi, rfl⟩
    unfold f_X7_copy_b166
    cases k with
    | zero =>
      refine Or.inr fun next => ?_
      have e : i = n := by omega
      subst e
      dsimp only
      rw [if_pos (nI_le (Nat.le_refl _) (by omega)), Nat.sub_self, mcpR_all]
    | succ k =>
      refine Or.inl ⟨k, (nI (i + 1), mcpR m (60 * k1 + a) (60 * k2 + b) (n - (i + 1)) n), rfl, ⟨i + 1, by omega, rfl⟩, fun next => ?_⟩
      dsimp only
      have e1 : nI n - 1 - nI i = nI (n - (i + 1)) := by
        rw [show nI n - 1 = nI (n - 1) from pk_sub (b := 1) (by omega), pk_sub (by omega)]
        congr 1
        omega
      rw [if_neg (nI_ge (by omega) (by omega)), if_neg (by decide), e1]
      unfold f_X7_copy_j190
      rw [nI_cell, nI_cell, nI_add, nI_add, if_pos (inB_nI (by omega) (by decide)), if_pos (inB_nI (by omega) (by decide)), ix_nI (by omega), ix_nI (by omega), nI_1, ← mcpR_dn (lo := n - (i + 1)) (by omega)]
      rw [show n - (i + 1) + 1 = n - i by omega]
      congr 3
      unfold mcpR
      rw [if_neg]
      rintro ⟨-, -, q3, q4⟩
      by_cases e : k1 = k2
      · subst e; omega
      · omega
/-- cells from i and from j on, n of them, in two sheets: there, or the index is wrong -/
theorem copy_cases (i j n : Int32) {l1 l2 : Nat} (h1 : l1 ≤ 60) (h2 : l2 ≤ 60) : (∃ a b q, i = nI a ∧ j = nI b ∧ n = nI q ∧ a + q ≤ l1 ∧ b + q ≤ l2) ∨
    ((∀ (m : Mem) (w1 w2 : Nat), m 2 w1 3 = nI l1 → m 2 w2 3 = nI l2 → (f_X4_holds w1 i n m = some (0, m) ∨ (f_X4_holds w1 i n m = some (1, m) ∧ f_X4_holds w2 j n m = some (0, m)))) ∧
      (i < 0 ∨ j < 0 ∨ n < 0 ∨ ∃ a b q, a < 2 ^ 31 ∧ b < 2 ^ 31 ∧ q < 2 ^ 31 ∧ i = nI a ∧ j = nI b ∧ n = nI q ∧ (l1 < a + q ∨ l2 < b + q))) := by
  by_cases hi : i < 0
  · exact Or.inr ⟨fun m w1 w2 _ _ => Or.inl (holds_neg (Or.inl hi) w1 m), Or.inl hi⟩
  by_cases hn : n < 0
  · exact Or.inr ⟨fun m w1 w2 _ _ => Or.inl (holds_neg (Or.inr hn) w1 m), Or.inr (Or.inr (Or.inl hn))⟩
  obtain ⟨a, ha, rfl⟩ := nI_of hi
  obtain ⟨q, hq, rfl⟩ := nI_of hn
  by_cases hj : j < 0
  · refine Or.inr ⟨fun m w1 w2 e1 _ => ?_, Or.inr (Or.inl hj)⟩
    rw [holds_n h1 ha hq e1]
    by_cases c : a + q ≤ l1
    · exact Or.inr ⟨by rw [if_pos c], holds_neg (Or.inl hj) w2 m⟩
    · exact Or.inl (by rw [if_neg c])
  obtain ⟨b, hb, rfl⟩ := nI_of hj
  by_cases c : a + q ≤ l1
  · by_cases c2 : b + q ≤ l2
    · exact Or.inl ⟨a, b, q, rfl, rfl, rfl, c, c2⟩
    · refine Or.inr ⟨fun m w1 w2 e1 e2 => Or.inr ?_, Or.inr (Or.inr (Or.inr ⟨a, b, q, ha, hb, hq, rfl, rfl, rfl, Or.inr (by omega)⟩))⟩
      rw [holds_n h1 ha hq e1, holds_n h2 hb hq e2, if_pos c, if_neg c2]
      exact ⟨rfl, rfl⟩
  · refine Or.inr ⟨fun m w1 w2 e1 e2 => Or.inl ?_, Or.inr (Or.inr (Or.inr ⟨a, b, q, ha, hb, hq, rfl, rfl, rfl, Or.inl (by omega)⟩))⟩
    rw [holds_n h1 ha hq e1, if_neg c]
theorem a_copy (x i y j n : Int32) : Agree (f_X6_copy x i y j n) (f_X7_copy x i y j n) := agree_of (fun ft tr Sh F rn rf rs hv => by
  rcases sheet_cases x with ⟨h1, h2⟩ | ⟨k, hk, rfl, h1, h2⟩
  · exact ⟨-1, 0, tr, Sh, F, rn, rf, rs, hv, fun m h => ⟨_, by simp [f_X6_copy, h1, bnd], CI_ft h, fun t ht => mset_t ht (by decide)⟩, fun m h => ⟨_, by simp [f_X7_copy, h2, bnd], RI_ft h, fun t ht => mset_l ht (by decide)⟩⟩
  rcases sheet_cases y with ⟨g1, g2⟩ | ⟨k2, hk2, rfl, g1, g2⟩
  · exact ⟨-1, 0, tr, Sh, F, rn, rf, rs, hv, fun m h => ⟨_, by simp [f_X6_copy, h1, g1, bnd], CI_ft h, fun t ht => mset_t ht (by decide)⟩, fun m h => ⟨_, by simp [f_X7_copy, h2, g2, bnd], RI_ft h, fun t ht => mset_l ht (by decide)⟩⟩
  obtain ⟨b1, b2⟩ := i4 hk
  obtain ⟨c1, c2⟩ := i4 hk2
  cases hs : Sh k with
  | none =>
    refine ⟨-11, 1, tr, Sh, F, rn, rf, rs, hv, fun m h => ⟨mset m 0 0 6 1, ?_, CI_ft h, fun t ht => mset_t ht (by decide)⟩, fun m h => ⟨mset m 30 0 0 1, ?_, RI_ft h, fun t ht => mset_l ht (by decide)⟩⟩
    · have g := (CI_ft (ft' := 0) h).2.2.1 k hk
      rw [hs] at g
      simp [f_X6_copy, h1, g1, bnd, b1, b2, c1, show mset m 0 0 6 0 2 k 1 = 0 from g, f_X6_copy_j53, f_X6_faulty, mset_mset]
    · have g := (RI_ft (ft' := 0) h).2.2.1 k hk
      rw [hs] at g
      simp [f_X7_copy, h2, g2, bnd, b1, b2, show mset m 30 0 0 0 31 0 k = -9 from g, f_X7_copy_j43, f_X7_fails, mset_mset]
  | some q1 =>
  obtain ⟨ln1, l1, d1⟩ := q1
  have hq1 : ln1 < 3 ∧ l1 ≤ 60 := by have := hv.1 k hk; rw [hs] at this; exact this
  cases hs2 : Sh k2 with
  | none =>
    refine ⟨-11, 1, tr, Sh, F, rn, rf, rs, hv, fun m h => ⟨mset m 0 0 6 1, ?_, CI_ft h, fun t ht => mset_t ht (by decide)⟩, fun m h => ⟨mset m 30 0 0 1, ?_, RI_ft h, fun t ht => mset_l ht (by decide)⟩⟩
    · have g := (CI_ft (ft' := 0) h).2.2.1 k hk
      have e := (CI_ft (ft' := 0) h).2.2.1 k2 hk2
      rw [hs] at g
      rw [hs2] at e
      simp [f_X6_copy, h1, g1, bnd, b1, b2, c1, c2, g.1, show mset m 0 0 6 0 2 k2 1 = 0 from e, f_X6_copy_j53, f_X6_faulty, mset_mset]
    · have g := (RI_ft (ft' := 0) h).2.2.1 k hk
      have e := (RI_ft (ft' := 0) h).2.2.1 k2 hk2
      rw [hs] at g
      rw [hs2] at e
      simp [f_X7_copy, h2, g2, bnd, b1, b2, c1, c2, g.1, m9 (k := ln1) (by omega), show mset m 30 0 0 0 31 0 k2 = -9 from e, f_X7_copy_j43, f_X7_fails, mset_mset]
  | some q2 =>
  obtain ⟨ln2, l2, d2⟩ := q2
  have hq2 : ln2 < 3 ∧ l2 ≤ 60 := by have := hv.1 k2 hk2; rw [hs2] at this; exact this
  by_cases hl : ¬ ln1 = ln2
  · have hl' : ¬ nI ln1 = nI ln2 := fun q => hl ((lane_ne hq1.1 hq2.1).mp q)
    refine ⟨-12, 2, tr, Sh, F, rn, rf, rs, hv, fun m h => ⟨mset m 0 0 6 2, ?_, CI_ft h, fun t ht => mset_t ht (by decide)⟩, fun m h => ⟨mset m 30 0 0 2, ?_, RI_ft h, fun t ht => mset_l ht (by decide)⟩⟩
    · have g := (CI_ft (ft' := 0) h).2.2.1 k hk
      have e := (CI_ft (ft' := 0) h).2.2.1 k2 hk2
      rw [hs] at g
      rw [hs2] at e
      simp [f_X6_copy, h1, g1, bnd, b1, b2, c1, c2, g.1, g.2.1, e.1, e.2.1, hl', f_X6_faulty, mset_mset]
    · have g := (RI_ft (ft' := 0) h).2.2.1 k hk
      have e := (RI_ft (ft' := 0) h).2.2.1 k2 hk2
      rw [hs] at g
      rw [hs2] at e
      simp [f_X7_copy, h2, g2, bnd, b1, b2, c1, c2, g.1, e.1, m9 (k := ln1) (by omega), m9 (k := ln2) (by omega), hl', f_X7_fails, mset_mset]
  have hl : ln1 = ln2 := by omega
  subst hl
  rcases copy_cases i j n hq1.2 hq2.2 with ⟨a, b, q, rfl, rfl, rfl, k1, k2'⟩ | ⟨w1, w2⟩
  · have hcp : cpOk (nI a) (nI b) (nI q) 60 60 = true := by
      unfold cpOk
      rw [ix_nI (show a < 2 ^ 31 by omega), ix_nI (show b < 2 ^ 31 by omega), ix_nI (show q < 2 ^ 31 by omega)]
      simp [nI_pos' (show a < 2 ^ 31 by omega), nI_pos' (show b < 2 ^ 31 by omega), nI_pos' (show q < 2 ^ 31 by omega)]
      omega
    refine ⟨nI q, 0, tr, upS_ Sh k2 (some (ln1, l2, fun i => if b ≤ i ∧ i < b + q then d1 (a + (i - b)) else d2 i)), F, rn, rf, rs, ⟨fun i hi => ?_, hv.2⟩, fun m h => ⟨mcopy (mset m 0 0 6 0) 3 k 3 k2 a b q, ?_, ?_, ?_⟩, fun m h => ⟨mcopy (mset m 30 0 0 0) 33 0 33 0 (60 * k + a) (60 * k2 + b) q, ?_, ?_, ?_⟩⟩
    · by_cases e : i = k2
      · subst e; simpa [upS_, SV] using hq2
      · simpa [upS_, e] using hv.1 i hi
    · have g := (CI_ft (ft' := 0) h).2.2.1 k hk
      have e := (CI_ft (ft' := 0) h).2.2.1 k2 hk2
      rw [hs] at g
      rw [hs2] at e
      have o1 := holds_n hq1.2 (show a < 2 ^ 31 by omega) (show q < 2 ^ 31 by omega) g.2.2.1
      have o2 := holds_n hq2.2 (show b < 2 ^ 31 by omega) (show q < 2 ^ 31 by omega) e.2.2.1
      rw [if_pos k1] at o1
      rw [if_pos k2'] at o2
      simp [f_X6_copy, h1, g1, bnd, b1, b2, c1, c2, g.1, g.2.1, e.1, e.2.1, o1, o2, hcp, ix_nI (show a < 2 ^ 31 by omega), ix_nI (show b < 2 ^ 31 by omega), ix_nI (show q < 2 ^ 31 by omega)]
    · have h' := CI_ft (ft' := 0) h
      generalize mset m 0 0 6 0 = m0 at h'
      have ne : ∀ t, t ≠ 3 → mcopy m0 3 k 3 k2 a b q t = m0 t := fun t ht => by funext i j; unfold mcopy; rw [if_neg (fun z => ht z.1)]
      refine ⟨by rw [ne 0 (by decide)]; exact h'.1, by rw [ne 0 (by decide)]; exact h'.2.1, fun i hi => ?_, TC_cong (ne _ (by decide)) (ne _ (by decide)) h'.2.2.2.1, RC_cong (by rw [ne 20 (by decide)]) (ne _ (by decide)) (ne _ (by decide)) h'.2.2.2.2.1, Cache_cong (ne _ (by decide)) (ne _ (by decide)) h'.2.2.2.2.2⟩
      have g := h'.2.2.1 i hi
      by_cases e : i = k2
      · subst e
        have g0 := h'.2.2.1 k hk
        rw [hs2] at g
        rw [hs] at g0
        simp only [upS_, if_true]
        refine ⟨by rw [ne 2 (by decide)]; exact g.1, by rw [ne 2 (by decide)]; exact g.2.1, by rw [ne 2 (by decide)]; exact g.2.2.1, fun c hc => ?_⟩
        by_cases ec : b ≤ c ∧ c < b + q
        · simp [mcopy, ec]
          exact g0.2.2.2 _ (by omega)
        · simp [mcopy, ec]
          exact g.2.2.2 c hc
      · simp only [upS_, if_neg e]
        unfold SC at g ⊢
        rw [ne 2 (by decide)]
        cases hi2 : Sh i <;> rw [hi2] at g
        · exact g
        · exact ⟨g.1, g.2.1, g.2.2.1, fun c hc => by simpa [mcopy, e] using g.2.2.2 c hc⟩
    · intro t ht
      have : mcopy (mset m 0 0 6 0) 3 k 3 k2 a b q t = mset m 0 0 6 0 t := by funext i j; unfold mcopy; rw [if_neg]; omega
      rw [this, mset_t ht (by decide)]
    · have g := (RI_ft (ft' := 0) h).2.2.1 k hk
      have e := (RI_ft (ft' := 0) h).2.2.1 k2 hk2
      rw [hs] at g
      rw [hs2] at e
      have t1 : ¬ nI l1 < nI a := nI_nlt (by omega) (by omega)
      have t2 : ¬ nI l2 < nI b := nI_nlt (by omega) (by omega)
      have t3 : ¬ nI l1 - nI a < nI q := fun z => by have := (sub_lt (a := l1) (b := a) (c := q) (by omega) (by omega) (by omega)).1.mp z; omega
      have t4 : nI q ≤ nI l2 - nI b := (sub_lt (a := l2) (b := b) (c := q) (by omega) (by omega) (by omega)).2.mpr (by omega)
      have t5 : (nI b ≤ nI a) ↔ b ≤ a := nI_leI (by omega) (by omega)
      have hlp := copy_loop hk hk2 (show a + q ≤ 60 by omega) (show b + q ≤ 60 by omega) (mset m 30 0 0 0)
      by_cases hba : b ≤ a
      · rw [if_pos hba] at hlp
        have t5' := t5.mpr hba
        simp [f_X7_copy, f_X7_copy_j110, h2, g2, bnd, b1, b2, c1, c2, g.1, g.2.1, e.1, e.2.1, m9 (k := ln1) (by omega), nI_pos (show a < 2 ^ 31 by omega), nI_pos (show b < 2 ^ 31 by omega), nI_pos (show q < 2 ^ 31 by omega), t1, t2, t3, t4, t5', hlp]
      · rw [if_neg hba] at hlp
        have t5' : ¬ nI b ≤ nI a := fun z => hba (t5.mp z)
        simp [f_X7_copy, f_X7_copy_j110, h2, g2, bnd, b1, b2, c1, c2, g.1, g.2.1, e.1, e.2.1, m9 (k := ln1) (by omega), nI_pos (show a < 2 ^ 31 by omega), nI_pos (show b < 2 ^ 31 by omega), nI_pos (show q < 2 ^ 31 by omega), t1, t2, t3, t4, t5', hlp]
    · have h' := RI_ft (ft' := 0) h
      generalize mset m 30 0 0 0 = m0 at h'
      have ne : ∀ t, t ≠ 33 → mcopy m0 33 0 33 0 (60 * k + a) (60 * k2 + b) q t = m0 t := fun t ht => by funext i j; unfold mcopy; rw [if_neg (fun z => ht z.1)]
      refine ⟨by rw [ne 30 (by decide)]; exact h'.1, by rw [ne 30 (by decide)]; exact h'.2.1, fun i hi => ?_, TR_cong (by rw [ne 30 (by decide)]) (by rw [ne 30 (by decide)]) (by rw [ne 30 (by decide)]) (by rw [ne 30 (by decide)]) (ne _ (by decide)) (ne _ (by decide)) (ne _ (by decide)) (ne _ (by decide)) (ne _ (by decide)) h'.2.2.2.1, RR_cong (by rw [ne 30 (by decide)]) (ne _ (by decide)) (ne _ (by decide)) h'.2.2.2.2⟩
      have g := h'.2.2.1 i hi
      by_cases e : i = k2
      · subst e
        have g0 := h'.2.2.1 k hk
        rw [hs2] at g
        rw [hs] at g0
        simp only [upS_, if_true]
        refine ⟨by rw [ne 31 (by decide)]; exact g.1, by rw [ne 32 (by decide)]; exact g.2.1, fun c hc => ?_⟩
        by_cases ec : b ≤ c ∧ c < b + q
        · have ec2 : 60 * i + b ≤ 60 * i + c ∧ 60 * i + c < 60 * i + b + q := by omega
          simp only [mcopy]
          rw [if_pos ⟨trivial, trivial, ec2.1, ec2.2⟩, if_pos ec]
          rw [show 60 * k + a + (60 * i + c - (60 * i + b)) = 60 * k + (a + (c - b)) by omega]
          exact g0.2.2 _ (by omega)
        · have ec2 : ¬ (60 * i + b ≤ 60 * i + c ∧ 60 * i + c < 60 * i + b + q) := by omega
          simp only [mcopy]
          rw [if_neg (fun z => ec2 ⟨z.2.2.1, z.2.2.2⟩), if_neg ec]
          exact g.2.2 c hc
      · simp only [upS_, if_neg e]
        unfold SR at g ⊢
        rw [ne 31 (by decide), ne 32 (by decide)]
        cases hi2 : Sh i <;> rw [hi2] at g
        · exact g
        · refine ⟨g.1, g.2.1, fun c hc => ?_⟩
          have ec2 : ¬ (60 * k2 + b ≤ 60 * i + c ∧ 60 * i + c < 60 * k2 + b + q) := by omega
          simp only [mcopy]
          rw [if_neg (fun z => ec2 ⟨z.2.2.1, z.2.2.2⟩)]
          exact g.2.2 c hc
    · intro t ht
      have : mcopy (mset m 30 0 0 0) 33 0 33 0 (60 * k + a) (60 * k2 + b) q t = mset m 30 0 0 0 t := by funext i j; unfold mcopy; rw [if_neg]; omega
      rw [this, mset_l ht (by decide)]
  · refine ⟨-13, 3, tr, Sh, F, rn, rf, rs, hv, fun m h => ⟨mset m 0 0 6 3, ?_, CI_ft h, fun t ht => mset_t ht (by decide)⟩, fun m h => ⟨mset m 30 0 0 3, ?_, RI_ft h, fun t ht => mset_l ht (by decide)⟩⟩
    · have g := (CI_ft (ft' := 0) h).2.2.1 k hk
      have e := (CI_ft (ft' := 0) h).2.2.1 k2 hk2
      rw [hs] at g
      rw [hs2] at e
      rcases w1 _ k k2 g.2.2.1 e.2.2.1 with o | ⟨o1, o2⟩
      · simp [f_X6_copy, h1, g1, bnd, b1, b2, c1, c2, g.1, g.2.1, e.1, e.2.1, o, f_X6_copy_j101, f_X6_faulty, mset_mset]
      · simp [f_X6_copy, h1, g1, bnd, b1, b2, c1, c2, g.1, g.2.1, e.1, e.2.1, o1, o2, f_X6_copy_j101, f_X6_faulty, mset_mset]
    · have g := (RI_ft (ft' := 0) h).2.2.1 k hk
      have e := (RI_ft (ft' := 0) h).2.2.1 k2 hk2
      rw [hs] at g
      rw [hs2] at e
      have j109 : ∀ m' : Mem, f_X7_copy_j109 (nI k) i (nI k2) j n (mset m' 30 0 0 0) = some (-13, mset m' 30 0 0 3) := fun m' => by
        simp [f_X7_copy_j109, f_X7_copy_j110, f_X7_copy_j144, f_X7_fails, bnd, mset_mset]
      rcases w2 with w2 | w2 | w2 | ⟨a, b, q, ha, hb, hq, rfl, rfl, rfl, w2⟩
      · simp [f_X7_copy, h2, g2, bnd, b1, b2, c1, c2, g.1, e.1, m9 (k := ln1) (by omega), w2, j109]
      · by_cases hi : i < 0
        · simp [f_X7_copy, h2, g2, bnd, b1, b2, c1, c2, g.1, e.1, m9 (k := ln1) (by omega), hi, j109]
        · simp [f_X7_copy, h2, g2, bnd, b1, b2, c1, c2, g.1, e.1, m9 (k := ln1) (by omega), hi, w2, j109]
      · by_cases hi : i < 0
        · simp [f_X7_copy, h2, g2, bnd, b1, b2, c1, c2, g.1, e.1, m9 (k := ln1) (by omega), hi, j109]
        · by_cases hj : j < 0
          · simp [f_X7_copy, h2, g2, bnd, b1, b2, c1, c2, g.1, e.1, m9 (k := ln1) (by omega), hi, hj, j109]
          · simp [f_X7_copy, h2, g2, bnd, b1, b2, c1, c2, g.1, e.1, m9 (k := ln1) (by omega), hi, hj, w2, j109]
      · have j144 : ∀ m' : Mem, f_X7_copy_j144 (mset m' 30 0 0 0) = some (-13, mset m' 30 0 0 3) := fun m' => by
          simp [f_X7_copy_j144, f_X7_fails, bnd, mset_mset]
        by_cases t1 : nI l1 < nI a
        · simp [f_X7_copy, h2, g2, bnd, b1, b2, c1, c2, g.1, g.2.1, e.1, m9 (k := ln1) (by omega), nI_pos ha, nI_pos hb, nI_pos hq, t1, j109]
        by_cases t2 : nI l2 < nI b
        · simp [f_X7_copy, h2, g2, bnd, b1, b2, c1, c2, g.1, g.2.1, e.1, e.2.1, m9 (k := ln1) (by omega), nI_pos ha, nI_pos hb, nI_pos hq, t1, t2, j109]
        by_cases t3 : nI l1 - nI a < nI q
        · simp [f_X7_copy, f_X7_copy_j110, h2, g2, bnd, b1, b2, c1, c2, g.1, g.2.1, e.1, e.2.1, m9 (k := ln1) (by omega), nI_pos ha, nI_pos hb, nI_pos hq, t1, t2, t3, j144]
        · have t4 : ¬ nI q ≤ nI l2 - nI b := fun z => by
            have z1 := (sub_lt (a := l2) (b := b) (c := q) (by omega) hb hq).2.mp z
            have z2 : ¬ l1 < a + q := fun z => t3 ((sub_lt (a := l1) (b := a) (c := q) (by omega) ha hq).1.mpr z)
            omega
          simp [f_X7_copy, f_X7_copy_j110, h2, g2, bnd, b1, b2, c1, c2, g.1, g.2.1, e.1, e.2.1, m9 (k := ln1) (by omega), nI_pos ha, nI_pos hb, nI_pos hq, t1, t2, t3, t4, j144])
