def up1 (f : Nat → Nat) (k v : Nat) : Nat → Nat := fun j => if j = k then v else f j
theorem a_reading (x y : Int32) : Agree (f_X6_reading x y) (f_X7_reading x y) := agree_of (fun ft tr Sh F rn rf rs hv => by
  have hn := hv.2.1.1
  have hr := hv.2.2.1
  rcases fish_cases x (n := F 0 0) (by omega) with ⟨h1, h2, -⟩ | ⟨f, hf, rfl, h1, h2⟩
  · exact ⟨-1, ft, tr, Sh, F, rn, rf, rs, hv, fun m h => ⟨m, by simp [f_X6_reading, h1 m h.2.2.2.1.1, bnd], h, fun _ _ => rfl⟩, fun m h => ⟨m, by simp [f_X7_reading, h2 m h.2.2.2.1.1, bnd], h, fun _ _ => rfl⟩⟩
  rcases rng_cases y (b := 99) (n := 99) rfl (by decide) with ⟨k1, k2, -⟩ | ⟨v, hk, rfl, k1, k2⟩
  · exact ⟨-2, ft, tr, Sh, F, rn, rf, rs, hv, fun m h => ⟨m, by simp [f_X6_reading, h1 m h.2.2.2.1.1, k1, bnd], h, fun _ _ => rfl⟩, fun m h => ⟨m, by simp [f_X7_reading, h2 m h.2.2.2.1.1, k2, bnd], h, fun _ _ => rfl⟩⟩
  by_cases h8 : rn = 8
  · subst h8
    refine ⟨-4, ft, tr, Sh, F, 8, rf, rs, hv, fun m h => ⟨m, ?_, h, fun _ _ => rfl⟩, fun m h => ⟨m, ?_, h, fun _ _ => rfl⟩⟩
    · have e : ¬ nI 8 < 8 := by decide
      simp [f_X6_reading, h1 m h.2.2.2.1.1, k1, bnd, f_X2_add, h.2.2.2.2.1.1, e]
    · have e : nI 8 = 8 := by decide
      simp [f_X7_reading, h2 m h.2.2.2.1.1, k2, bnd, h.2.2.2.2.1, e]
  · have hlt : rn < 8 := by omega
    have e1 : nI rn < 8 := nI_lt (b := 8) hlt (by decide)
    have e2 : ¬ nI rn = 8 := fun q => h8 ((nI_eq (b := 8) (by omega) (by decide)).mp q)
    have e3 : inB (nI rn) 8 = true := inB_nI hlt (by decide)
    have e4 : ix (nI rn) = rn := ix_nI (by omega)
    have e5 : nI rn + 1 - 1 = nI rn := by rw [← nI_succ, nI_pred]
    refine ⟨nI rn, ft, tr, Sh, F, rn + 1, up1 rf rn f, up1 rs rn v, ⟨hv.1, hv.2.1, hlt, fun q hq => ?_⟩, fun m h => ⟨mset (mset (mset m 21 0 rn (nI f)) 22 0 rn (nI v)) 20 0 2 (nI rn + 1), ?_, ?_, ?_⟩, fun m h => ⟨mset (mset (mset m 47 0 rn (nI f)) 48 0 rn (nI v)) 30 0 32 (nI rn + 1), ?_, ?_, ?_⟩⟩
    · unfold up1
      by_cases e : q = rn
      · simp only [if_pos e]; omega
      · simp only [if_neg e]; exact hv.2.2.2 q (by omega)
    · simp [f_X6_reading, h1 m h.2.2.2.1.1, k1, bnd, f_X2_add, h.2.2.2.2.1.1, e1, e3, e4]
      simp [mset, e5]
    · refine ⟨by simpa [mset] using h.1, by simpa [mset] using h.2.1, SC_cong (by simp [mset_ne]) (by simp [mset_ne]) h.2.2.1, TC_cong (by simp [mset_ne]) (by simp [mset_ne]) h.2.2.2.1, ⟨by simp [mset, nI_succ], fun q hq => ?_⟩, Cache_cong (by simp [mset_ne]) (by simp [mset_ne]) h.2.2.2.2.2⟩
      by_cases e : q = rn
      · subst e; simp [mset, up1]
      · have := h.2.2.2.2.1.2 q (by omega)
        simpa [mset, up1, e] using this
    · intro t ht; rw [mset_t ht (by decide), mset_t ht (by decide), mset_t ht (by decide)]
    · simp [f_X7_reading, h2 m h.2.2.2.1.1, k2, bnd, h.2.2.2.2.1, e2, e3, e4]
      simp [mset, e5]
    · refine ⟨by simpa [mset] using h.1, by simpa [mset] using h.2.1, SR_cong (by simp [mset_ne]) (by simp [mset_ne]) (by simp [mset_ne]) h.2.2.1, TR_cong (by simp [mset]) (by simp [mset]) (by simp [mset]) (by simp [mset]) (by simp [mset_ne]) (by simp [mset_ne]) (by simp [mset_ne]) (by simp [mset_ne]) (by simp [mset_ne]) h.2.2.2.1, ⟨by simp [mset, nI_succ], fun q hq => ?_⟩⟩
      by_cases e : q = rn
      · subst e; simp [mset, up1]
      · have := h.2.2.2.2.2 q (by omega)
        simpa [mset, up1, e] using this
    · intro t ht; rw [mset_l ht (by decide), mset_l ht (by decide), mset_l ht (by decide)])
theorem a_back (x : Int32) : Agree (f_X6_back x) (f_X7_back x) := agree_of (fun ft tr Sh F rn rf rs hv => by
  have hr := hv.2.2.1
  rcases rng_cases x (b := nI rn) (n := rn) rfl (by omega) with ⟨h1, h2, -⟩ | ⟨v, hk, rfl, h1, h2⟩
  · exact ⟨-2, ft, tr, Sh, F, rn, rf, rs, hv, fun m h => ⟨m, by simp [f_X6_back, h.2.2.2.2.1.1, h1, bnd], h, fun _ _ => rfl⟩, fun m h => ⟨m, by simp [f_X7_back, h.2.2.2.2.1, h2, bnd], h, fun _ _ => rfl⟩⟩
  · have es : nI rn - nI v = nI (rn - v) := pk_sub hk
    refine ⟨nI (rn - v), ft, tr, Sh, F, rn - v, rf, rs, ⟨hv.1, hv.2.1, by omega, fun q hq => hv.2.2.2 q (by omega)⟩, fun m h => ⟨mset m 20 0 2 (nI (rn - v)), ?_, ?_, fun t ht => mset_t ht (by decide)⟩, fun m h => ⟨mset m 30 0 32 (nI (rn - v)), ?_, ?_, fun t ht => mset_l ht (by decide)⟩⟩
    · simp [f_X6_back, h.2.2.2.2.1.1, h1, bnd, es]
      simp [mset]
    · exact ⟨by simpa [mset] using h.1, by simpa [mset] using h.2.1, SC_cong (by simp [mset_ne]) (by simp [mset_ne]) h.2.2.1, TC_cong (by simp [mset_ne]) (by simp [mset_ne]) h.2.2.2.1, ⟨by simp [mset], fun q hq => by simpa [mset] using h.2.2.2.2.1.2 q (by omega)⟩, Cache_cong (by simp [mset_ne]) (by simp [mset_ne]) h.2.2.2.2.2⟩
    · simp [f_X7_back, h.2.2.2.2.1, h2, bnd, es]
      simp [mset]
    · exact ⟨by simpa [mset] using h.1, by simpa [mset] using h.2.1, SR_cong (by simp [mset_ne]) (by simp [mset_ne]) (by simp [mset_ne]) h.2.2.1, TR_f (by decide) h.2.2.2.1, ⟨by simp [mset], fun q hq => by simpa [mset] using h.2.2.2.2.2 q (by omega)⟩⟩)
theorem a_as (x y : Int32) : Agree (f_X6_as x y) (f_X7_as x y) := agree_of (fun ft tr Sh F rn rf rs hv => by
  have hn := hv.2.1.1
  rcases fish_cases x (n := F 0 0) (by omega) with ⟨h1, h2, -⟩ | ⟨f, hf, rfl, h1, h2⟩
  · exact ⟨-1, 0, tr, Sh, F, rn, rf, rs, hv, fun m h => ⟨_, by simp [f_X6_as, h1 _ (CI_ft h).2.2.2.1.1, bnd], CI_ft h, fun t ht => mset_t ht (by decide)⟩, fun m h => ⟨_, by simp [f_X7_as, h2 _ (RI_ft h).2.2.2.1.1, bnd], RI_ft h, fun t ht => mset_l ht (by decide)⟩⟩
  rcases rng_cases y (b := 2) (n := 2) rfl (by decide) with ⟨k1, k2, -⟩ | ⟨v, hk, rfl, k1, k2⟩
  · exact ⟨-2, 0, tr, Sh, F, rn, rf, rs, hv, fun m h => ⟨_, by simp [f_X6_as, h1 _ (CI_ft h).2.2.2.1.1, k1, bnd], CI_ft h, fun t ht => mset_t ht (by decide)⟩, fun m h => ⟨_, by simp [f_X7_as, h2 _ (RI_ft h).2.2.2.1.1, k2, bnd], RI_ft h, fun t ht => mset_l ht (by decide)⟩⟩
  obtain ⟨b1, b2⟩ := i5 hf hn
  have hk3 := (hv.2.1.2.2.2 f hf).1
  have e : (nI (F 3 f) < nI v) ↔ F 3 f < v := nI_ltI (by omega) (by omega)
  by_cases a : F 3 f < v
  · have a' := e.mpr a
    refine ⟨-12, 2, tr, Sh, F, rn, rf, rs, hv, fun m h => ⟨mset m 0 0 6 2, ?_, CI_ft h, fun t ht => mset_t ht (by decide)⟩, fun m h => ⟨mset m 30 0 0 2, ?_, RI_ft h, fun t ht => mset_l ht (by decide)⟩⟩
    · have g := ((CI_ft (ft' := 0) h).2.2.2.1.2.2.2 f hf).1
      simp [f_X6_as, h1 _ (CI_ft h).2.2.2.1.1, k1, bnd, b1, b2, g, a', f_X6_faulty, mset_mset]
    · have g := ((RI_ft (ft' := 0) h).2.2.2.1.2.2.2.2 f hf).1
      simp [f_X7_as, h2 _ (RI_ft h).2.2.2.1.1, k2, bnd, b1, b2, g, a', f_X7_fails, mset_mset]
  · have a' : ¬ nI (F 3 f) < nI v := fun q => a (e.mp q)
    refine ⟨1, 0, tr, Sh, F, rn, rf, rs, hv, fun m h => ⟨_, ?_, CI_ft h, fun t ht => mset_t ht (by decide)⟩, fun m h => ⟨_, ?_, RI_ft h, fun t ht => mset_l ht (by decide)⟩⟩
    · have g := ((CI_ft (ft' := 0) h).2.2.2.1.2.2.2 f hf).1
      simp [f_X6_as, h1 _ (CI_ft h).2.2.2.1.1, k1, bnd, b1, b2, g, a']
    · have g := ((RI_ft (ft' := 0) h).2.2.2.1.2.2.2.2 f hf).1
      simp [f_X7_as, h2 _ (RI_ft h).2.2.2.1.1, k2, bnd, b1, b2, g, a'])
/-! ===== sheets ===== -/
def upS_ (Sh : ShT) (k : Nat) (v : Option (Nat × Nat × (Nat → Int32))) : ShT := fun j => if j = k then v else Sh j
theorem i4 {k : Nat} (hk : k < 4) : inB (nI k) 4 = true ∧ ix (nI k) = k := ⟨inB_nI hk (by decide), ix_nI (by omega)⟩
theorem m9 {k : Nat} (hk : k < 2 ^ 31) : ¬ nI k = -9 := fun q => by
  have h := nI_toInt hk
  rw [q] at h
  have : (-9 : Int32).toInt = -9 := by decide
  omega
theorem a_lose (x : Int32) : Agree (f_X6_lose x) (f_X7_lose x) := agree_of (fun ft tr Sh F rn rf rs hv => by
  rcases sheet_cases x with ⟨h1, h2⟩ | ⟨k, hk, rfl, h1, h2⟩
  · exact ⟨-1, ft, tr, Sh, F, rn, rf, rs, hv, fun m h => ⟨m, by simp [f_X6_lose, h1, bnd], h, fun _ _ => rfl⟩, fun m h => ⟨m, by simp [f_X7_lose, h2, bnd], h, fun _ _ => rfl⟩⟩
  obtain ⟨b1, b2⟩ := i4 hk
  have hCI : ∀ m, CI m ft tr Sh F rn rf rs → CI (mset m 2 k 1 0) ft tr (upS_ Sh k none) F rn rf rs := fun m h => by
    refine ⟨by simpa [mset] using h.1, by simpa [mset] using h.2.1, fun j hj => ?_, TC_cong (by simp [mset_ne]) (by simp [mset_ne]) h.2.2.2.1, RC_cong (by simp [mset]) (by simp [mset_ne]) (by simp [mset_ne]) h.2.2.2.2.1, Cache_cong (by simp [mset_ne]) (by simp [mset_ne]) h.2.2.2.2.2⟩
    by_cases e : j = k
    · subst e; simp [upS_, SC, mset]
    · have := h.2.2.1 j hj
      simp only [upS_, if_neg e]
      unfold SC at this ⊢
      cases hs : Sh j <;> rw [hs] at this <;> simpa [mset, e] using this
  have hRI : ∀ m, RI m ft tr Sh F rn rf rs → RI (mset m 31 0 k (-9)) ft tr (upS_ Sh k none) F rn rf rs := fun m h => by
    refine ⟨by simpa [mset] using h.1, by simpa [mset] using h.2.1, fun j hj => ?_, TR_cong (by simp [mset]) (by simp [mset]) (by simp [mset]) (by simp [mset]) (by simp [mset_ne]) (by simp [mset_ne]) (by simp [mset_ne]) (by simp [mset_ne]) (by simp [mset_ne]) h.2.2.2.1, RR_cong (by simp [mset]) (by simp [mset_ne]) (by simp [mset_ne]) h.2.2.2.2⟩
    by_cases e : j = k
    · subst e; simp [upS_, SR, mset]
    · have := h.2.2.1 j hj
      simp only [upS_, if_neg e]
      unfold SR at this ⊢
      cases hs : Sh j <;> rw [hs] at this <;> simpa [mset, e] using this
  have hV : VI (upS_ Sh k none) F rn rf rs := ⟨fun j hj => by
    by_cases e : j = k
    · simp [upS_, e, SV]
    · simpa [upS_, e] using hv.1 j hj, hv.2⟩
  cases hs : Sh k with
  | none =>
    refine ⟨0, ft, tr, _, F, rn, rf, rs, hV, fun m h => ⟨_, ?_, hCI m h, fun t ht => mset_t ht (by decide)⟩, fun m h => ⟨_, ?_, hRI m h, fun t ht => mset_l ht (by decide)⟩⟩
    · have := h.2.2.1 k hk
      rw [hs] at this
      simp [f_X6_lose, f_X6_lose_j26, h1, bnd, b1, b2, show m 2 k 1 = 0 from this]
    · have := h.2.2.1 k hk
      rw [hs] at this
      simp [f_X7_lose, f_X7_lose_j25, h2, bnd, b1, b2, show m 31 0 k = -9 from this]
  | some q =>
    refine ⟨1, ft, tr, _, F, rn, rf, rs, hV, fun m h => ⟨_, ?_, hCI m h, fun t ht => mset_t ht (by decide)⟩, fun m h => ⟨_, ?_, hRI m h, fun t ht => mset_l ht (by decide)⟩⟩
    · have := h.2.2.1 k hk
      rw [hs] at this
      simp [f_X6_lose, f_X6_lose_j26, h1, bnd, b1, b2, this.1]
    · have := h.2.2.1 k hk
      rw [hs] at this
      have hq : SV (some q) := by rw [← hs]; exact hv.1 k hk
      simp [f_X7_lose, f_X7_lose_j25, h2, bnd, b1, b2, this.1, m9 (k := q.1) (by have := hq.1; omega)])
