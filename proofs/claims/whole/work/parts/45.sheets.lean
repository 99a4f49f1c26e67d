theorem cell_cases (x : Int32) {len : Nat} (hl : len ≤ 60) : ((∀ m, f_X7_within x 0 (nI len - 1) m = some (0, m)) ∧ (∀ m w, m 2 w 3 = nI len → f_X4_holds w x 1 m = some (0, m))) ∨
    (∃ j, j < len ∧ x = nI j ∧ (∀ m, f_X7_within x 0 (nI len - 1) m = some (1, m)) ∧ ∀ m w, m 2 w 3 = nI len → f_X4_holds w x 1 m = some (1, m)) := by
  by_cases h0 : x < 0
  · exact Or.inl ⟨fun m => by simp [f_X7_within, h0], fun m w _ => by simp [f_X4_holds, h0]⟩
  by_cases h1 : nI len - 1 < x
  · exact Or.inl ⟨fun m => by simp [f_X7_within, h0, h1], fun m w hm => by simp [f_X4_holds, h0, hm, h1]⟩
  · obtain ⟨j, hj, rfl⟩ := nI_of h0
    refine Or.inr ⟨j, ?_, rfl, fun m => by simp [f_X7_within, h0, h1], fun m w hm => by simp [f_X4_holds, h0, hm, h1]⟩
    cases len with
    | zero =>
      exfalso
      apply h1
      rw [Int32.lt_iff_toInt_lt, nI_toInt hj]
      have : (nI 0 - 1).toInt = -1 := by decide
      omega
    | succ n =>
      rw [nI_pred, nI_ltI (by omega) hj] at h1
      omega
def cutS (ln : Nat) (v : Int32) : Int32 := if ln = 0 then v.toInt8.toInt32 else if ln = 1 then v.toInt16.toInt32 else v
theorem lane_z {ln : Nat} (h : ln < 3) : (nI ln = 0 ↔ ln = 0) ∧ (nI ln = 1 ↔ ln = 1) := ⟨nI_z (by omega), nI_eq (b := 1) (by omega) (by decide)⟩
theorem nI_cell (k j : Nat) : (60 : Int32) * nI k + nI j = nI (60 * k + j) := by
  rw [show (60 : Int32) = nI 60 from rfl, pk_mul, nI_add]
theorem a_put (x y v : Int32) : Agree (f_X6_put x y v) (f_X7_put x y v) := agree_of (fun ft tr Sh F rn rf rs hv => by
  rcases sheet_cases x with ⟨h1, h2⟩ | ⟨k, hk, rfl, h1, h2⟩
  · exact ⟨-1, 0, tr, Sh, F, rn, rf, rs, hv, fun m h => ⟨_, by simp [f_X6_put, h1, bnd], CI_ft h, fun t ht => mset_t ht (by decide)⟩, fun m h => ⟨_, by simp [f_X7_put, h2, bnd], RI_ft h, fun t ht => mset_l ht (by decide)⟩⟩
  obtain ⟨b1, b2⟩ := i4 hk
  cases hs : Sh k with
  | none =>
    refine ⟨-11, 1, tr, Sh, F, rn, rf, rs, hv, fun m h => ⟨mset m 0 0 6 1, ?_, CI_ft h, fun t ht => mset_t ht (by decide)⟩, fun m h => ⟨mset m 30 0 0 1, ?_, RI_ft h, fun t ht => mset_l ht (by decide)⟩⟩
    · have g := (CI_ft (ft' := 0) h).2.2.1 k hk
      rw [hs] at g
      simp [f_X6_put, h1, bnd, b1, b2, show mset m 0 0 6 0 2 k 1 = 0 from g, f_X6_faulty, mset_mset]
    · have g := (RI_ft (ft' := 0) h).2.2.1 k hk
      rw [hs] at g
      simp [f_X7_put, h2, bnd, b1, b2, show mset m 30 0 0 0 31 0 k = -9 from g, f_X7_fails, mset_mset]
  | some q =>
    obtain ⟨ln, len, c⟩ := q
    have hq : ln < 3 ∧ len ≤ 60 := by have := hv.1 k hk; rw [hs] at this; exact this
    rcases cell_cases y hq.2 with ⟨c1, c2⟩ | ⟨j, hj, rfl, c1, c2⟩
    · refine ⟨-13, 3, tr, Sh, F, rn, rf, rs, hv, fun m h => ⟨mset m 0 0 6 3, ?_, CI_ft h, fun t ht => mset_t ht (by decide)⟩, fun m h => ⟨mset m 30 0 0 3, ?_, RI_ft h, fun t ht => mset_l ht (by decide)⟩⟩
      · have g := (CI_ft (ft' := 0) h).2.2.1 k hk
        rw [hs] at g
        simp [f_X6_put, h1, bnd, b1, b2, g.1, c2 _ k g.2.2.1, f_X6_faulty, mset_mset]
      · have g := (RI_ft (ft' := 0) h).2.2.1 k hk
        rw [hs] at g
        simp [f_X7_put, h2, bnd, b1, b2, g.1, m9 (k := ln) (by omega), g.2.1, c1, f_X7_fails, mset_mset]
    · obtain ⟨z0, z1⟩ := lane_z hq.1
      have bj : inB (nI j) 60 = true ∧ ix (nI j) = j := ⟨inB_nI (by omega) (by decide), ix_nI (by omega)⟩
      have bc : inB (nI (60 * k + j)) 240 = true ∧ ix (nI (60 * k + j)) = 60 * k + j := ⟨inB_nI (by omega) (by decide), ix_nI (by omega)⟩
      refine ⟨1, 0, tr, upS_ Sh k (some (ln, len, fun i => if i = j then cutS ln v else c i)), F, rn, rf, rs, ⟨fun i hi => ?_, hv.2⟩, fun m h => ⟨mset (mset m 0 0 6 0) 3 k j (cutS ln v), ?_, ?_, ?_⟩, fun m h => ⟨mset (mset m 30 0 0 0) 33 0 (60 * k + j) (cutS ln v), ?_, ?_, ?_⟩⟩
      · by_cases e : i = k
        · subst e; simpa [upS_, SV] using hq
        · simpa [upS_, e] using hv.1 i hi
      · have g := (CI_ft (ft' := 0) h).2.2.1 k hk
        rw [hs] at g
        have hcut : f_X4_cut k v (mset m 0 0 6 0) = some (cutS ln v, mset m 0 0 6 0) := by
          unfold f_X4_cut cutS
          rw [g.2.1]
          by_cases l0 : ln = 0
          · rw [if_pos (z0.mpr l0), if_pos l0]
          · rw [if_neg (fun q => l0 (z0.mp q)), if_neg l0]
            by_cases l1 : ln = 1
            · rw [if_pos (z1.mpr l1), if_pos l1]
            · rw [if_neg (fun q => l1 (z1.mp q)), if_neg l1]
        simp [f_X6_put, h1, bnd, b1, b2, g.1, c2 _ k g.2.2.1, f_X4_set, hcut, bj]
      · have h' := CI_ft (ft' := 0) h
        refine ⟨by simpa [mset] using h'.1, by simpa [mset] using h.2.1, fun i hi => ?_, TC_cong (by simp [mset_ne]) (by simp [mset_ne]) h.2.2.2.1, RC_cong (by simp [mset]) (by simp [mset_ne]) (by simp [mset_ne]) h.2.2.2.2.1, Cache_cong (by simp [mset_ne]) (by simp [mset_ne]) h.2.2.2.2.2⟩
        have g := h.2.2.1 i hi
        by_cases e : i = k
        · subst e
          rw [hs] at g
          simp only [upS_, if_true]
          refine ⟨by simpa [mset] using g.1, by simpa [mset] using g.2.1, by simpa [mset] using g.2.2.1, fun a ha => ?_⟩
          by_cases ea : a = j
          · subst ea; simp [mset]
          · simpa [mset, ea] using g.2.2.2 a ha
        · simp only [upS_, if_neg e]
          unfold SC at g ⊢
          cases hi2 : Sh i <;> rw [hi2] at g <;> simpa [mset, e] using g
      · intro t ht; rw [mset_t ht (by decide), mset_t ht (by decide)]
      · have g := (RI_ft (ft' := 0) h).2.2.1 k hk
        rw [hs] at g
        simp only [f_X7_put, h2, bnd, b1, b2, g.1, g.2.1, c1, f_X7_put_j93, if_true, nI_cell, bc, if_neg (m9 (k := ln) (by omega)), show ¬ (1 : Int32) = 0 from by decide, if_false]
        unfold cutS
        by_cases l0 : ln = 0
        · simp [l0, nI_0]
        · have l0' : ¬ nI ln = 0 := fun q => l0 (z0.mp q)
          by_cases l1 : ln = 1
          · have l1' := z1.mpr l1
            rw [if_neg l0', if_pos l1', if_neg l0, if_pos l1]
          · have l1' : ¬ nI ln = 1 := fun q => l1 (z1.mp q)
            simp [l0, l1, l0', l1']
      · have h' := RI_ft (ft' := 0) h
        refine ⟨by simpa [mset] using h'.1, by simpa [mset] using h.2.1, fun i hi => ?_, TR_cong (by simp [mset]) (by simp [mset]) (by simp [mset]) (by simp [mset]) (by simp [mset_ne]) (by simp [mset_ne]) (by simp [mset_ne]) (by simp [mset_ne]) (by simp [mset_ne]) h.2.2.2.1, RR_cong (by simp [mset]) (by simp [mset_ne]) (by simp [mset_ne]) h.2.2.2.2⟩
        have g := h.2.2.1 i hi
        by_cases e : i = k
        · subst e
          rw [hs] at g
          simp only [upS_, if_true]
          refine ⟨by simpa [mset] using g.1, by simpa [mset] using g.2.1, fun a ha => ?_⟩
          by_cases ea : a = j
          · subst ea; simp [mset]
          · simpa [mset, ea] using g.2.2 a ha
        · simp only [upS_, if_neg e]
          unfold SR at g ⊢
          cases hi2 : Sh i with
          | none => rw [hi2] at g; simpa [mset] using g
          | some z =>
            rw [hi2] at g
            refine ⟨by simpa [mset] using g.1, by simpa [mset] using g.2.1, fun a ha => ?_⟩
            have hne : ¬ 60 * i + a = 60 * k + j := by omega
            simpa [mset, hne] using g.2.2 a ha
      · intro t ht; rw [mset_l ht (by decide), mset_l ht (by decide)])

theorem lane_ne {a b : Nat} (ha : a < 3) (hb : b < 3) : (nI a = nI b ↔ a = b) := nI_eq (by omega) (by omega)
/-- the fault that cells of a sheet come to, in both -/
theorem a_cell (x y z : Int32) : Agree (f_X6_cell x y z) (f_X7_cell x y z) := agree_of (fun ft tr Sh F rn rf rs hv => by
  rcases sheet_cases x with ⟨h1, h2⟩ | ⟨k, hk, rfl, h1, h2⟩
  · exact ⟨-9223372036854775808, 0, tr, Sh, F, rn, rf, rs, hv, fun m h => ⟨_, by simp [f_X6_cell, h1, bnd], CI_ft h, fun t ht => mset_t ht (by decide)⟩, fun m h => ⟨_, by simp [f_X7_cell, h2, bnd], RI_ft h, fun t ht => mset_l ht (by decide)⟩⟩
  obtain ⟨b1, b2⟩ := i4 hk
  rcases lane_cases z with ⟨l1, l2⟩ | ⟨la, hla, rfl, l1, l2⟩
  · exact ⟨-9223372036854775808, 0, tr, Sh, F, rn, rf, rs, hv, fun m h => ⟨_, by simp [f_X6_cell, h1, l1, bnd], CI_ft h, fun t ht => mset_t ht (by decide)⟩, fun m h => ⟨_, by simp [f_X7_cell, h2, l2, bnd], RI_ft h, fun t ht => mset_l ht (by decide)⟩⟩
  cases hs : Sh k with
  | none =>
    refine ⟨-9223372036854775808, 1, tr, Sh, F, rn, rf, rs, hv, fun m h => ⟨mset m 0 0 6 1, ?_, CI_ft h, fun t ht => mset_t ht (by decide)⟩, fun m h => ⟨mset m 30 0 0 1, ?_, RI_ft h, fun t ht => mset_l ht (by decide)⟩⟩
    · have g := (CI_ft (ft' := 0) h).2.2.1 k hk
      rw [hs] at g
      have hf : f_X4_faultAt k (nI la) y 1 (mset m 0 0 6 0) = some (1, mset m 0 0 6 0) := by simp [f_X4_faultAt, show mset m 0 0 6 0 2 k 1 = 0 from g]
      simp [f_X6_cell, h1, l1, bnd, b1, b2, hf, mset_mset]
      simp [mset]
    · have g := (RI_ft (ft' := 0) h).2.2.1 k hk
      rw [hs] at g
      simp [f_X7_cell, f_X7_cell_j50, h2, l2, bnd, b1, b2, show mset m 30 0 0 0 31 0 k = -9 from g, f_X7_lost, mset_mset]
  | some q =>
    obtain ⟨ln, len, c⟩ := q
    have hq : ln < 3 ∧ len ≤ 60 := by have := hv.1 k hk; rw [hs] at this; exact this
    by_cases hl : ¬ ln = la
    · have hl' : ¬ nI ln = nI la := fun q => hl ((lane_ne hq.1 hla).mp q)
      refine ⟨-9223372036854775808, 2, tr, Sh, F, rn, rf, rs, hv, fun m h => ⟨mset m 0 0 6 2, ?_, CI_ft h, fun t ht => mset_t ht (by decide)⟩, fun m h => ⟨mset m 30 0 0 2, ?_, RI_ft h, fun t ht => mset_l ht (by decide)⟩⟩
      · have g := (CI_ft (ft' := 0) h).2.2.1 k hk
        rw [hs] at g
        have hf : f_X4_faultAt k (nI la) y 1 (mset m 0 0 6 0) = some (2, mset m 0 0 6 0) := by simp [f_X4_faultAt, g.1, g.2.1, hl']
        simp [f_X6_cell, h1, l1, bnd, b1, b2, hf, mset_mset]
        simp [mset]
      · have g := (RI_ft (ft' := 0) h).2.2.1 k hk
        rw [hs] at g
        simp [f_X7_cell, f_X7_cell_j50, h2, l2, bnd, b1, b2, g.1, hl', m9 (k := ln) (by omega), f_X7_lost, mset_mset]
    have hl : ln = la := by omega
    subst hl
    rcases cell_cases y hq.2 with ⟨c1, c2⟩ | ⟨j, hj, rfl, c1, c2⟩
    · refine ⟨-9223372036854775808, 3, tr, Sh, F, rn, rf, rs, hv, fun m h => ⟨mset m 0 0 6 3, ?_, CI_ft h, fun t ht => mset_t ht (by decide)⟩, fun m h => ⟨mset m 30 0 0 3, ?_, RI_ft h, fun t ht => mset_l ht (by decide)⟩⟩
      · have g := (CI_ft (ft' := 0) h).2.2.1 k hk
        rw [hs] at g
        have hf : f_X4_faultAt k (nI ln) y 1 (mset m 0 0 6 0) = some (3, mset m 0 0 6 0) := by
          simp [f_X4_faultAt, g.1, g.2.1, c2 _ k g.2.2.1, bnd, show (0 : Int32) ≤ 1 from by decide]
        simp [f_X6_cell, h1, l1, bnd, b1, b2, hf, mset_mset]
        simp [mset]
      · have g := (RI_ft (ft' := 0) h).2.2.1 k hk
        rw [hs] at g
        simp [f_X7_cell, f_X7_cell_j50, h2, l2, bnd, b1, b2, g.1, g.2.1, m9 (k := ln) (by omega), c1, f_X7_lost, mset_mset]
    · have bj : inB (nI j) 60 = true ∧ ix (nI j) = j := ⟨inB_nI (by omega) (by decide), ix_nI (by omega)⟩
      have bc : inB (nI (60 * k + j)) 240 = true ∧ ix (nI (60 * k + j)) = 60 * k + j := ⟨inB_nI (by omega) (by decide), ix_nI (by omega)⟩
      refine ⟨(c j).toInt64, 0, tr, Sh, F, rn, rf, rs, hv, fun m h => ⟨mset m 0 0 6 0, ?_, CI_ft h, fun t ht => mset_t ht (by decide)⟩, fun m h => ⟨mset m 30 0 0 0, ?_, RI_ft h, fun t ht => mset_l ht (by decide)⟩⟩
      · have g := (CI_ft (ft' := 0) h).2.2.1 k hk
        rw [hs] at g
        have hf : f_X4_faultAt k (nI ln) (nI j) 1 (mset m 0 0 6 0) = some (0, mset m 0 0 6 0) := by
          simp [f_X4_faultAt, g.1, g.2.1, c2 _ k g.2.2.1, bnd, show (0 : Int32) ≤ 1 from by decide]
        have hat : f_X4_at k (nI j) (mset m 0 0 6 0) = some (c j, mset m 0 0 6 0) := by
          simp [f_X4_at, c2 _ k g.2.2.1, bnd, bj, g.2.2.2 j (by omega)]
        simp [f_X6_cell, h1, l1, bnd, b1, b2, hf, mset_mset, hat]
        simp [mset]
      · have g := (RI_ft (ft' := 0) h).2.2.1 k hk
        rw [hs] at g
        simp [f_X7_cell, f_X7_cell_j50, h2, l2, bnd, b1, b2, g.1, g.2.1, m9 (k := ln) (by omega), c1, nI_cell, bc, g.2.2 j (by omega)])
/-! ===== loops in numbers ===== -/
/-- a loop with a measure: from every state of the invariant with k turns left it goes on, or leaves, or answers -/
theorem lpk_ind {σ τ ω : Type} {body : (σ → Option ω) → (τ → Option ω) → σ → Option ω} {K : τ → Option ω} {o : Option ω} (P : Nat → σ → Prop)
    (hs : ∀ k s, P k s → (∃ k' s', k = k' + 1 ∧ P k' s' ∧ ∀ next, body next K s = next s') ∨ (∀ next, body next K s = o)) :
    ∀ k n s, k < n → P k s → lpk body n s K = o := by
  intro k
  induction k with
  | zero =>
    intro n s hn hp
    obtain ⟨n, rfl⟩ : ∃ n', n = n' + 1 := ⟨n - 1, by omega⟩
    rw [lpk_s]
    rcases hs 0 s hp with ⟨k', s', h, -⟩ | h
    · omega
    · exact h _
  | succ k ih =>
    intro n s hn hp
    obtain ⟨n, rfl⟩ : ∃ n', n = n' + 1 := ⟨n - 1, by omega⟩
    rw [lpk_s]
    rcases hs (k + 1) s hp with ⟨k', s', h, hp', he⟩ | h
    · have : k' = k := by omega
      subst this
      rw [he]
      exact ih n s' (by omega) hp'
    · exact h _
/-- the row of n cells from a of one cell-row set to v -/
def mfill (m : Mem) (t i a n : Nat) (v : Int32) : Mem := fun t' i' j' => if t' = t ∧ i' = i ∧ a ≤ j' ∧ j' < a + n then v else m t' i' j'
theorem mfill_s {m : Mem} {t i a n : Nat} {v : Int32} : mset (mfill m t i a n v) t i (a + n) v = mfill m t i a (n + 1) v := by
  funext t' i' j'
  unfold mset mfill
  by_cases h : t' = t ∧ i' = i ∧ j' = a + n
  · rw [if_pos h, if_pos ⟨h.1, h.2.1, by omega, by omega⟩]
  · rw [if_neg h]
    by_cases h2 : t' = t ∧ i' = i ∧ a ≤ j' ∧ j' < a + n
    · rw [if_pos h2, if_pos ⟨h2.1, h2.2.1, h2.2.2.1, by omega⟩]
    · rw [if_neg h2, if_neg]
      rintro ⟨q1, q2, q3, q4⟩
      exact h2 ⟨q1, q2, q3, by have : j' ≠ a + n := fun e => h ⟨q1, q2, e⟩; omega⟩
theorem mfill_0 {m : Mem} {t i a : Nat} {v : Int32} : mfill m t i a 0 v = m := by
  funext t' i' j'
  unfold mfill
  rw [if_neg]
  omega
theorem mfill_ne {m : Mem} {t i a n t' : Nat} {v : Int32} (h : t' ≠ t) : mfill m t i a n v t' = m t' := by
  funext i' j'
  unfold mfill
  rw [if_neg (fun q => h q.1)]
theorem fill3 (w : Nat) (v : Int32) (m : Mem) : f_J7_fill_53178_t3 w v m = some ((), mfill m 3 w 0 60 v) := by
  unfold f_J7_fill_53178_t3
  refine lpk_ind (fun k s => ∃ i, i + k = 60 ∧ s = (nI i, mfill m 3 w 0 i v)) ?_ 60 fuelN _ (by decide) ⟨0, rfl, by rw [mfill_0]; rfl⟩
  rintro k s ⟨i, hi, rfl⟩
  unfold f_J7_fill_53178_t3_b5
  cases k with
  | zero =>
    refine Or.inr fun next => ?_
    have e : i = 60 := by omega
    subst e
    dsimp only
    rw [if_pos (show (60 : Int32) ≤ nI 60 from by decide)]
  | succ k =>
    refine Or.inl ⟨k, (nI (i + 1), mfill m 3 w 0 (i + 1) v), rfl, ⟨i + 1, by omega, rfl⟩, fun next => ?_⟩
    dsimp only
    have hge : ¬ (60 : Int32) ≤ nI i := nI_ge (b := 60) (by omega) (by decide)
    rw [if_neg hge, if_pos (inB_nI (by omega) (by decide)), ix_nI (by omega), nI_1]
    rw [← mfill_s, Nat.zero_add]
theorem fill14 (w : Nat) (v : Int32) (m : Mem) : f_J7_fill_53178_t14 w v m = some ((), mfill m 14 w 0 5 v) := by
  unfold f_J7_fill_53178_t14
  refine lpk_ind (fun k s => ∃ i, i + k = 5 ∧ s = (nI i, mfill m 14 w 0 i v)) ?_ 5 fuelN _ (by decide) ⟨0, rfl, by rw [mfill_0]; rfl⟩
  rintro k s ⟨i, hi, rfl⟩
  unfold f_J7_fill_53178_t14_b5
  cases k with
  | zero =>
    refine Or.inr fun next => ?_
    have e : i = 5 := by omega
    subst e
    dsimp only
    rw [if_pos (show (5 : Int32) ≤ nI 5 from by decide)]
  | succ k =>
    refine Or.inl ⟨k, (nI (i + 1), mfill m 14 w 0 (i + 1) v), rfl, ⟨i + 1, by omega, rfl⟩, fun next => ?_⟩
    dsimp only
    have hge : ¬ (5 : Int32) ≤ nI i := nI_ge (b := 5) (by omega) (by decide)
    rw [if_neg hge, if_pos (inB_nI (by omega) (by decide)), ix_nI (by omega), nI_1]
    rw [← mfill_s, Nat.zero_add]
