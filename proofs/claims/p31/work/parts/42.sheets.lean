def cutS (ln : Nat) (v : Int32) : Int32 := if ln = 0 then v.toInt8.toInt32 else if ln = 1 then v.toInt16.toInt32 else v
theorem lane_z {ln : Nat} (h : ln < 3) : (nI ln = 0 ↔ ln = 0) ∧ (nI ln = 1 ↔ ln = 1) := ⟨nI_z (by omega), nI_eq (b := 1) (by omega) (by decide)⟩
theorem lane_ne {a b : Nat} (ha : a < 3) (hb : b < 3) : (nI a = nI b ↔ a = b) := nI_eq (by omega) (by omega)
/-! ===== loops in numbers ===== -/
/-- a loop with a measure: from every state of the invariant with k turns left it goes on, or leaves, or answers -/
theorem lpk_ind {σ τ ω : Type} {body : (σ → Option ω) → (τ → Option ω) → σ → Option ω} {K : τ → Option ω} {o : Option ω} (P : Nat → σ → Prop)
    (hs : ∀ k s, P k s → (∃ k' s', k = k' + 1 ∧ P k' s' ∧ ∀ next, body next K s = next s') ∨ (∀ next, body next K s = o)) :
    ∀ k n s, k < n → P k s → lpk body n s K = o := by
  intro k
  induction k with
  | zero =>
    intro n s hn hp
    obtain ⟨n, rfl⟩ : ∃ n', n = n' + 1 := ⟨n - 1, by omega⟩
    rw [lpk_s]
    rcases hs 0 s hp with ⟨k', s', h, -⟩ | h
    · omega
    · exact h _
  | succ k ih =>
    intro n s hn hp
    obtain ⟨n, rfl⟩ : ∃ n', n = n' + 1 := ⟨n - 1, by omega⟩
    rw [lpk_s]
    rcases hs (k + 1) s hp with ⟨k', s', h, hp', he⟩ | h
    · have : k' = k := by omega
      subst this
      rw [he]
      exact ih n s' (by omega) hp'
    · exact h _
/-- the row of n cells from a of one cell-row set to v -/
def mfill (m : Mem) (t i a n : Nat) (v : Int32) : Mem := fun t' i' j' => if t' = t ∧ i' = i ∧ a ≤ j' ∧ j' < a + n then v else m t' i' j'
theorem mfill_s {m : Mem} {t i a n : Nat} {v : Int32} : mset (mfill m t i a n v) t i (a + n) v = mfill m t i a (n + 1) v := by
  funext t' i' j'
  unfold mset mfill
  by_cases h : t' = t ∧ i' = i ∧ j' = a + n
  · rw [if_pos h, if_pos ⟨h.1, h.2.1, by omega, by omega⟩]
  · rw [if_neg h]
    by_cases h2 : t' = t ∧ i' = i ∧ a ≤ j' ∧ j' < a + n
    · rw [if_pos h2, if_pos ⟨h2.1, h2.2.1, h2.2.2.1, by omega⟩]
    · rw [if_neg h2, if_neg]
      rintro ⟨q1, q2, q3, q4⟩
      exact h2 ⟨q1, q2, q3, by have : j' ≠ a + n := fun e => h ⟨q1, q2, e⟩; omega⟩
theorem mfill_0 {m : Mem} {t i a : Nat} {v : Int32} : mfill m t i a 0 v = m := by
  funext t' i' j'
  unfold mfill
  rw [if_neg]
  omega
theorem mfill_ne {m : Mem} {t i a n t' : Nat} {v : Int32} (h : t' ≠ t) : mfill m t i a n v t' = m t' := by
  funext i' j'
  unfold mfill
  rw [if_neg (fun q => h q.1)]
theorem fill3 (w : Nat) (v : Int32) (m : Mem) : f_J7_fill_53178_t3 w v m = some ((), mfill m 3 w 0 60 v) := by
  unfold f_J7_fill_53178_t3
  refine lpk_ind (fun k s => ∃ i, i + k = 60 ∧ s = (nI i, mfill m 3 w 0 i v)) ?_ 60 fuelN _ (by decide) ⟨0, rfl, by rw [mfill_0]; rfl⟩
  rintro k s ⟨i, hi, rfl⟩
  unfold f_J7_fill_53178_t3_b5
  cases k with
  | zero =>
    refine Or.inr fun next => ?_
    have e : i = 60 := by omega
    subst e
    dsimp only
    rw [if_pos (show (60 : Int32) ≤ nI 60 from by decide)]
  | succ k =>
    refine Or.inl ⟨k, (nI (i + 1), mfill m 3 w 0 (i + 1) v), rfl, ⟨i + 1, by omega, rfl⟩, fun next => ?_⟩
    dsimp only
    have hge : ¬ (60 : Int32) ≤ nI i := nI_ge (b := 60) (by omega) (by decide)
    rw [if_neg hge, if_pos (inB_nI (by omega) (by decide)), ix_nI (by omega), nI_1]
    rw [← mfill_s, Nat.zero_add]
theorem fill14 (w : Nat) (v : Int32) (m : Mem) : f_J7_fill_53178_t14 w v m = some ((), mfill m 14 w 0 5 v) := by
  unfold f_J7_fill_53178_t14
  refine lpk_ind (fun k s => ∃ i, i + k = 5 ∧ s = (nI i, mfill m 14 w 0 i v)) ?_ 5 fuelN _ (by decide) ⟨0, rfl, by rw [mfill_0]; rfl⟩
  rintro k s ⟨i, hi, rfl⟩
  unfold f_J7_fill_53178_t14_b5
  cases k with
  | zero =>
    refine Or.inr fun next => ?_
    have e : i = 5 := by omega
    subst e
    dsimp only
    rw [if_pos (show (5 : Int32) ≤ nI 5 from by decide)]
  | succ k =>
    refine Or.inl ⟨k, (nI (i + 1), mfill m 14 w 0 (i + 1) v), rfl, ⟨i + 1, by omega, rfl⟩, fun next => ?_⟩
    dsimp only
    have hge : ¬ (5 : Int32) ≤ nI i := nI_ge (b := 5) (by omega) (by decide)
    rw [if_neg hge, if_pos (inB_nI (by omega) (by decide)), ix_nI (by omega), nI_1]
    rw [← mfill_s, Nat.zero_add]
theorem clampI {x : Int32} {n : Nat} (h : x = nI n) (hn : n ≤ 60) : (if (60 : Int32) < (if x < (0 : Int32) then (0 : Int32) else x) then (60 : Int32) else (if x < (0 : Int32) then (0 : Int32) else x)) = nI n := by
  subst h
  rw [if_neg (nI_pos (by omega))]
  have : ¬ (60 : Int32) < nI n := nI_nlt (a := 60) hn (by decide)
  rw [if_neg this]
theorem sub_toInt {a b : Nat} (ha : a < 2 ^ 31) (hb : b < 2 ^ 31) : (nI a - nI b).toInt = (a : Int) - b := by
  rw [Int32.toInt_sub, nI_toInt ha, nI_toInt hb]
  exact Int.bmod_eq_of_le (by omega) (by omega)
theorem sub_lt {a b c : Nat} (ha : a < 2 ^ 31) (hb : b < 2 ^ 31) (hc : c < 2 ^ 31) : (nI a - nI b < nI c ↔ a < b + c) ∧ (nI c ≤ nI a - nI b ↔ b + c ≤ a) := by
  rw [Int32.lt_iff_toInt_lt, Int32.le_iff_toInt_le, sub_toInt ha hb, nI_toInt hc]
  omega
/-- cells of a sheet from i on, n of them: there, or not -/
theorem holds_n {len a n : Nat} (hl : len ≤ 60) (ha : a < 2 ^ 31) (hn : n < 2 ^ 31) {m : Mem} {w : Nat} (hm : m 2 w 3 = nI len) : f_X4_holds w (nI a) (nI n) m = some (if a + n ≤ len then 1 else 0, m) := by
  unfold f_X4_holds
  rw [if_neg (nI_pos ha), if_neg (nI_pos hn), hm]
  have h := (sub_lt (a := len) (b := n) (c := a) (by omega) hn ha).1
  by_cases c : a + n ≤ len
  · rw [if_neg (fun q => by have := h.mp q; omega), if_pos c]
  · rw [if_pos (h.mpr (by omega)), if_neg c]
theorem holds_neg {i n : Int32} (h : i < 0 ∨ n < 0) (w : Nat) (m : Mem) : f_X4_holds w i n m = some (0, m) := by
  unfold f_X4_holds
  by_cases h1 : i < 0
  · rw [if_pos h1]
  · rw [if_neg h1]
    rcases h with h | h
    · exact absurd h h1
    · rw [if_pos h]
