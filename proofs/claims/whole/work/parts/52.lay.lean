/-! ===== a row is laid ===== -/
def Good (F : FdT) (c : Nat → Int32) (a p : Nat) : Prop := ∃ f how, f < F 0 0 ∧ how < 4 ∧ c (a + 2 * p) = nI f ∧ c (a + 2 * p + 1) = nI how
def LF (m m' : Mem) : Prop := ∀ t, t ≠ 42 → t ≠ 43 → m' t = m t
theorem pairs_row {F : FdT} {c : Nat → Int32} {a q k la len : Nat} (hn : F 0 0 ≤ 5) (hl : len ≤ 60) (ha : a + 2 * q ≤ len) (hk : k < 4) (hq : q ≤ 20) : ∀ t p, p + t = q → ∃ r : Int32, (r = 0 ∨ r = -1 ∨ r = -2) ∧ (r = 0 → ∀ p', p ≤ p' → p' < q → Good F c a p') ∧
    (∀ m n K, t < n → SC m k (some (la, len, c)) → m 4 0 1 = nI (F 0 0) → lpk (f_X6_refusalOf_b85 (nI k) (nI a) (nI q)) n (nI p, m) K = if r = 0 then K m else some (r, m)) ∧
    (∀ m n K, t < n → (∀ j, j < 60 → m 33 0 (60 * k + j) = c j) → m 30 0 7 = nI (F 0 0) → ∃ m', lpk (f_X7_layPasses_b46 (nI q) ((60 : Int32) * nI k + nI a)) n (nI p, m) K = (if r = 0 then K m' else some (r, m')) ∧ LF m m' ∧ (r = 0 → ∀ p', p ≤ p' → p' < q → m' 42 0 p' = c (a + 2 * p') ∧ m' 43 0 p' = c (a + 2 * p' + 1)) ∧ ∀ p', p' < p → m' 42 0 p' = m 42 0 p' ∧ m' 43 0 p' = m 43 0 p') := by
  have b1 : inB (nI k) 4 = true := inB_nI hk (by decide)
  have b2 : ix (nI k) = k := ix_nI (by omega)
  intro t
  induction t with
  | zero =>
    intro p hp
    have e : p = q := by omega
    subst e
    have hle : nI p ≤ nI p := nI_le (Nat.le_refl _) (by omega)
    refine ⟨0, Or.inl rfl, fun _ p' h1 h2 => by omega, fun m n K hn' _ _ => ?_, fun m n K hn' _ _ => ⟨m, ?_, fun _ _ _ => rfl, fun _ p' h1 h2 => by omega, fun _ _ => ⟨rfl, rfl⟩⟩⟩
    · obtain ⟨n, rfl⟩ : ∃ n', n = n' + 1 := ⟨n - 1, by omega⟩
      rw [lpk_s]
      unfold f_X6_refusalOf_b85
      dsimp only
      rw [if_pos hle, if_pos rfl]
    · obtain ⟨n, rfl⟩ : ∃ n', n = n' + 1 := ⟨n - 1, by omega⟩
      rw [lpk_s]
      unfold f_X7_layPasses_b46
      dsimp only
      rw [if_pos hle, if_pos rfl]
  | succ t ih =>
    intro p hp
    have hge : ¬ nI q ≤ nI p := nI_ge (by omega) (by omega)
    have c1 : ∀ m, SC m k (some (la, len, c)) → f_X4_at k (nI (a + 2 * p)) m = some (c (a + 2 * p), m) := fun m h => at_c h hl (by omega)
    have c2 : ∀ m, SC m k (some (la, len, c)) → f_X4_at k (nI (a + 2 * p + 1)) m = some (c (a + 2 * p + 1), m) := fun m h => at_c h hl (by omega)
    have ei : (60 : Int32) * nI k + nI a + (2 : Int32) * nI p = nI (60 * k + (a + 2 * p)) := by rw [nI_cell, nI_2, Nat.add_assoc]
    have d1 : inB (nI (60 * k + (a + 2 * p))) 240 = true := inB_nI (by omega) (by decide)
    have d2 : ix (nI (60 * k + (a + 2 * p))) = 60 * k + (a + 2 * p) := ix_nI (by omega)
    have d3 : inB (nI (60 * k + (a + 2 * p) + 1)) 240 = true := inB_nI (by omega) (by decide)
    have d4 : ix (nI (60 * k + (a + 2 * p) + 1)) = 60 * k + (a + 2 * p) + 1 := ix_nI (by omega)
    have d5 : inB (nI p) 20 = true := inB_nI (by omega) (by decide)
    have d6 : ix (nI p) = p := ix_nI (by omega)
    have v1 : ∀ m : Mem, (∀ j, j < 60 → m 33 0 (60 * k + j) = c j) → m 33 0 (60 * k + (a + 2 * p)) = c (a + 2 * p) := fun m h => h _ (by omega)
    have v2 : ∀ m : Mem, (∀ j, j < 60 → m 33 0 (60 * k + j) = c j) → m 33 0 (60 * k + (a + 2 * p) + 1) = c (a + 2 * p + 1) := fun m h => h (a + 2 * p + 1) (by omega)
    rcases fish_cases (c (a + 2 * p)) (n := F 0 0) (by omega) with ⟨h1, h2, -⟩ | ⟨f, hf, hfe, h1, h2⟩
    · refine ⟨-1, Or.inr (Or.inl rfl), fun e => absurd e (by decide), fun m n K hn' hS h4 => ?_, fun m n K hn' hS h7 => ⟨m, ?_, fun _ _ _ => rfl, fun e => absurd e (by decide), fun _ _ => ⟨rfl, rfl⟩⟩⟩
      · obtain ⟨n, rfl⟩ : ∃ n', n = n' + 1 := ⟨n - 1, by omega⟩
        rw [lpk_s]
        unfold f_X6_refusalOf_b85
        dsimp only
        rw [if_neg hge, if_pos b1, b2, nI_2, c1 m hS, bnd_some, h1 m h4, bnd_some, if_pos rfl, if_neg (by decide)]
      · obtain ⟨n, rfl⟩ : ∃ n', n = n' + 1 := ⟨n - 1, by omega⟩
        rw [lpk_s]
        unfold f_X7_layPasses_b46
        dsimp only
        rw [if_neg hge, ei, if_pos d1, d2, v1 m hS, h2 m h7, bnd_some, if_pos rfl, if_neg (by decide)]
    rcases rng_cases (c (a + 2 * p + 1)) (b := 3) (n := 3) rfl (by decide) with ⟨k1, k2, -⟩ | ⟨how, hw, hwe, k1, k2⟩
    · refine ⟨-2, Or.inr (Or.inr rfl), fun e => absurd e (by decide), fun m n K hn' hS h4 => ?_, fun m n K hn' hS h7 => ⟨m, ?_, fun _ _ _ => rfl, fun e => absurd e (by decide), fun _ _ => ⟨rfl, rfl⟩⟩⟩
      · obtain ⟨n, rfl⟩ : ∃ n', n = n' + 1 := ⟨n - 1, by omega⟩
        rw [lpk_s]
        unfold f_X6_refusalOf_b85
        dsimp only
        rw [if_neg hge, if_pos b1, b2, nI_2, c1 m hS, bnd_some, h1 m h4, bnd_some, if_neg (by decide), if_pos b1, nI_1, c2 m hS, bnd_some, k1, bnd_some, if_pos rfl, if_neg (by decide)]
      · obtain ⟨n, rfl⟩ : ∃ n', n = n' + 1 := ⟨n - 1, by omega⟩
        rw [lpk_s]
        unfold f_X7_layPasses_b46
        dsimp only
        rw [if_neg hge, ei, if_pos d1, d2, v1 m hS, h2 m h7, bnd_some, if_neg (by decide), nI_1, if_pos d3, d4, v2 m hS, k2, bnd_some, if_pos rfl, if_neg (by decide)]
    · obtain ⟨r, r1, r2, r3, r4⟩ := ih (p + 1) (by omega)
      refine ⟨r, r1, fun e p' q1 q2 => ?_, fun m n K hn' hS h4 => ?_, fun m n K hn' hS h7 => ?_⟩
      · by_cases e' : p' = p
        · subst e'; exact ⟨f, how, hf, by omega, hfe, hwe⟩
        · exact r2 e p' (by omega) q2
      · obtain ⟨n, rfl⟩ : ∃ n', n = n' + 1 := ⟨n - 1, by omega⟩
        have st : ∀ nx, f_X6_refusalOf_b85 (nI k) (nI a) (nI q) nx K (nI p, m) = nx (nI (p + 1), m) := fun nx => by
          unfold f_X6_refusalOf_b85
          dsimp only
          rw [if_neg hge, if_pos b1, b2, nI_2, c1 m hS, bnd_some, h1 m h4, bnd_some, if_neg (by decide), if_pos b1, nI_1, c2 m hS, bnd_some, k1, bnd_some, if_neg (by decide), nI_1]
        rw [lpk_s, st]
        exact r3 m n K (by omega) hS h4
      · obtain ⟨n, rfl⟩ : ∃ n', n = n' + 1 := ⟨n - 1, by omega⟩
        obtain ⟨m', g1, g2, g3, g4⟩ := r4 (mset (mset m 42 0 p (c (a + 2 * p))) 43 0 p (c (a + 2 * p + 1))) n K (by omega) (by simpa [mset] using hS) (by simpa [mset] using h7)
        refine ⟨m', ?_, fun t h1 h2 => ?_, fun e p' q1 q2 => ?_, fun p' q1 => ?_⟩
        · have st : ∀ nx, f_X7_layPasses_b46 (nI q) ((60 : Int32) * nI k + nI a) nx K (nI p, m) = nx (nI (p + 1), mset (mset m 42 0 p (c (a + 2 * p))) 43 0 p (c (a + 2 * p + 1))) := fun nx => by
            unfold f_X7_layPasses_b46
            dsimp only
            rw [if_neg hge, ei, if_pos d1, d2, v1 m hS, h2 m h7, bnd_some, if_neg (by decide), nI_1, if_pos d3, d4, v2 m hS, k2, bnd_some, if_neg (by decide), if_pos d1, if_pos d5, if_pos d3, if_pos d5, d6, nI_1, v1 m hS, v2 m hS]
          rw [lpk_s, st]
          exact g1
        · rw [g2 t h1 h2, mset_ne h2, mset_ne h1]
        · by_cases e' : p' = p
          · subst e'
            have := g4 p' (by omega)
            rw [this.1, this.2]
            simp [mset]
          · exact g3 e p' (by omega) q2
        · have := g4 p' (by omega)
          rw [this.1, this.2]
          have e' : ¬ p' = p := by omega
          simp [mset, e']
theorem LF.ri {m m' : Mem} {ft tr : Int32} {Sh : ShT} {F : FdT} {rn : Nat} {rf rs : Nat → Nat} (h : LF m m') (hi : RI m ft tr Sh F rn rf rs) : RI m' ft tr Sh F rn rf rs := by
  obtain ⟨h1, h2, h3, h4, h5⟩ := hi
  have e30 := h 30 (by decide) (by decide)
  exact ⟨by rw [e30]; exact h1, by rw [e30]; exact h2, SR_cong (h 31 (by decide) (by decide)) (h 32 (by decide) (by decide)) (h 33 (by decide) (by decide)) h3, TR_cong (by rw [e30]) (by rw [e30]) (by rw [e30]) (by rw [e30]) (h 34 (by decide) (by decide)) (h 35 (by decide) (by decide)) (h 36 (by decide) (by decide)) (h 37 (by decide) (by decide)) (h 38 (by decide) (by decide)) h4, RR_cong (by rw [e30]) (h 47 (by decide) (by decide)) (h 48 (by decide) (by decide)) h5⟩
theorem RI_24 {m : Mem} {ft tr v : Int32} {Sh : ShT} {F : FdT} {rn : Nat} {rf rs : Nat → Nat} (h : RI m ft tr Sh F rn rf rs) : RI (mset m 30 0 24 v) ft tr Sh F rn rf rs :=
  ⟨by have := h.1; simpa [mset] using this, by have := h.2.1; simpa [mset] using this, SR_cong (mset_ne (by decide)) (mset_ne (by decide)) (mset_ne (by decide)) h.2.2.1, TR_f (by decide) h.2.2.2.1, RR_cong (by simp [mset]) (mset_ne (by decide)) (mset_ne (by decide)) h.2.2.2.2⟩
/-- a row told with a valid sheet, lane and number: refused alike, or laid -/
theorem lay_cases {ft tr : Int32} {Sh : ShT} {F : FdT} {rn : Nat} {rf rs : Nat → Nat} (hv : VI Sh F rn rf rs) {k la q : Nat} (x : Int32) (hk : k < 4) (hla : la < 3) (hq : q ≤ 20) :
    (∃ r ft', r ≠ 0 ∧ CStep (f_X6_refusalOf (nI k) (nI la) x (nI q) 1) r (fun m => CI m ft tr Sh F rn rf rs) (fun m => CI m ft' tr Sh F rn rf rs) ∧ RStep (f_X7_layPasses (nI k) (nI la) x (nI q)) r (fun m => RI m 0 tr Sh F rn rf rs) (fun m => RI m ft' tr Sh F rn rf rs)) ∨
    (∃ len c a fs hs, Sh k = some (la, len, c) ∧ x = nI a ∧ a + 2 * q ≤ len ∧ len ≤ 60 ∧ 1 ≤ F 0 0 ∧ Row F c a q fs hs ∧
      (∀ m, CI m ft tr Sh F rn rf rs → f_X6_refusalOf (nI k) (nI la) x (nI q) 1 m = some (0, mset m 0 0 6 0)) ∧
      ∀ m, RI m 0 tr Sh F rn rf rs → ∃ m', f_X7_layPasses (nI k) (nI la) x (nI q) m = some (0, m') ∧ RI m' 0 tr Sh F rn rf rs ∧ Laid m' q fs hs ∧ ∀ t, t < 30 → m' t = m t) := by
  have b1 : inB (nI k) 4 = true := inB_nI hk (by decide)
  have b2 : ix (nI k) = k := ix_nI (by omega)
  have hn := hv.2.1.1
  have s1 : ∀ m, f_X6_isSheet (nI k) m = some (1, m) := fun m => by
    rcases sheet_cases (nI k) with ⟨h, -⟩ | ⟨k', _, _, h, -⟩
    · exact absurd (h m) (by simp [f_X6_isSheet, f_X6_isWithin, bnd, nI_pos (show k < 2 ^ 31 by omega), show ¬ (3 : Int32) < nI k from fun q => by have := (nI_ltI (a := 3) (by decide) (by omega)).mp q; omega])
    · exact h m
  have s2 : ∀ m, f_X6_isLane (nI la) m = some (1, m) := fun m => by
    rcases lane_cases (nI la) with ⟨h, -⟩ | ⟨k', _, _, h, -⟩
    · exact absurd (h m) (by simp [f_X6_isLane, f_X6_isWithin, bnd, nI_pos (show la < 2 ^ 31 by omega), show ¬ (2 : Int32) < nI la from fun q => by have := (nI_ltI (a := 2) (by decide) (by omega)).mp q; omega])
    · exact h m
  have s3 : ∀ m, f_X6_isWithin (nI q) 0 20 m = some (1, m) := fun m => by
    simp [f_X6_isWithin, nI_pos (show q < 2 ^ 31 by omega), show ¬ (20 : Int32) < nI q from fun z => by have := (nI_ltI (a := 20) (by decide) (by omega)).mp z; omega]
  have e2 : (2 : Int32) * nI q = nI (2 * q) := pk_mul 2 q
  have z7 : (nI (F 0 0) = 0) ↔ F 0 0 = 0 := nI_z (by omega)
  rcases sheet_row (Sh := Sh) (k := k) (la := la) (n := 2 * q) x hk hla (by omega) (hv.1 k hk) with ⟨v, hv3, h1, h2⟩ | ⟨len, c, a, e, rfl, hal, hl, h1, h2⟩
  · have hv0 : ¬ nI v = 0 := fun z => by have := (nI_z (by omega)).mp z; omega
    refine Or.inl ⟨-10 - nI v, nI v, ?_, fun m h => ⟨mset (mset m 0 0 6 0) 0 0 6 (nI v), ?_, CI_ft (CI_ft h), fun t ht => by rw [mset_t ht (by decide), mset_t ht (by decide)]⟩, fun m h => ⟨mset m 30 0 0 (nI v), ?_, RI_ft h, fun t ht => mset_l ht (by decide)⟩⟩
    · rcases hv3 with rfl | rfl | rfl <;> decide
    · have := h1 (mset m 0 0 6 0) ((CI_ft h).2.2.1 k hk)
      unfold f_X6_refusalOf
      rw [s1, bnd_some, if_neg (by decide), s2, bnd_some, if_neg (by decide), s3, bnd_some, if_neg (by decide), if_neg (by decide), if_pos b1, b2, e2, this, bnd_some, if_neg hv0]
      rfl
    · unfold f_X7_layPasses
      rw [e2, h2 m (h.2.2.1 k hk), bnd_some, if_neg hv0]
      rfl
  by_cases h0 : F 0 0 = 0
  · refine Or.inl ⟨-3, 0, by decide, fun m h => ⟨mset m 0 0 6 0, ?_, CI_ft h, fun t ht => mset_t ht (by decide)⟩, fun m h => ⟨m, ?_, h, fun t ht => rfl⟩⟩
    · have := h1 (mset m 0 0 6 0) ((CI_ft h).2.2.1 k hk)
      have h4 : mset m 0 0 6 0 4 0 1 = 0 := by rw [(CI_ft h).2.2.2.1.1]; exact z7.mpr h0
      unfold f_X6_refusalOf
      rw [s1, bnd_some, if_neg (by decide), s2, bnd_some, if_neg (by decide), s3, bnd_some, if_neg (by decide), if_neg (by decide), if_pos b1, b2, e2, this, bnd_some, if_pos rfl, if_pos h4]
    · have h5 : m 30 0 5 = 0 := by rw [h.2.2.2.1.2.2.2.1, if_pos h0]
      unfold f_X7_layPasses
      rw [e2, h2 m (h.2.2.1 k hk), bnd_some, if_pos rfl, if_pos h5]
  obtain ⟨r, r1, r2, r3, r4⟩ := pairs_row (F := F) (c := c) (a := a) (q := q) (k := k) (la := la) (len := len) hn hl hal hk hq q 0 (by omega)
  have cl : ∀ m, CI m ft tr Sh F rn rf rs → f_X6_refusalOf (nI k) (nI la) (nI a) (nI q) 1 m = some (r, mset m 0 0 6 0) := fun m h => by
    have := h1 (mset m 0 0 6 0) ((CI_ft h).2.2.1 k hk)
    have h4 : ¬ mset m 0 0 6 0 4 0 1 = 0 := by rw [(CI_ft (ft' := 0) h).2.2.2.1.1]; exact fun z => h0 (z7.mp z)
    have hS := (CI_ft (ft' := 0) h).2.2.1 k hk
    rw [e] at hS
    unfold f_X6_refusalOf
    rw [s1, bnd_some, if_neg (by decide), s2, bnd_some, if_neg (by decide), s3, bnd_some, if_neg (by decide), if_neg (by decide), if_pos b1, b2, e2, this, bnd_some, if_pos rfl, if_neg h4]
    rw [show ((0 : Int32), mset m 0 0 6 0) = (nI 0, mset m 0 0 6 0) from rfl, r3 _ fuelN _ (by unfold fuelN; omega) hS (CI_ft h).2.2.2.1.1]
    by_cases hr : r = 0
    · rw [if_pos hr, hr]
    · rw [if_neg hr]
  have rl : ∀ m, RI m 0 tr Sh F rn rf rs → ∃ m', f_X7_layPasses (nI k) (nI la) (nI a) (nI q) m = some (r, if r = 0 then mset m' 30 0 24 (nI q) else m') ∧ LF m m' ∧ (r = 0 → ∀ p', p' < q → m' 42 0 p' = c (a + 2 * p') ∧ m' 43 0 p' = c (a + 2 * p' + 1)) := fun m h => by
    have hS := h.2.2.1 k hk
    rw [e] at hS
    have h5 : ¬ m 30 0 5 = 0 := by rw [h.2.2.2.1.2.2.2.1, if_neg h0]; decide
    obtain ⟨m', g1, g2, g3, -⟩ := r4 m fuelN (fun t46 => some ((0 : Int32), (mset t46 30 0 24 (nI q)))) (by unfold fuelN; omega) hS.2.2 h.2.2.2.1.1
    refine ⟨m', ?_, g2, fun z p' hp => g3 z p' (by omega) hp⟩
    unfold f_X7_layPasses
    rw [e2, h2 m (h.2.2.1 k hk), bnd_some, if_pos rfl, if_neg h5, show ((0 : Int32), m) = (nI 0, m) from rfl, g1]
    by_cases hr : r = 0
    · rw [if_pos hr, if_pos hr, hr]
    · rw [if_neg hr, if_neg hr]
  by_cases hr : r = 0
  · subst hr
    refine Or.inr ⟨len, c, a, fun p => ix (c (a + 2 * p)), fun p => ix (c (a + 2 * p + 1)), e, rfl, hal, hl, by omega, fun p hp => ?_, cl, fun m h => ?_⟩
    · obtain ⟨f, how, g1, g2, g3, g4⟩ := r2 rfl p (by omega) hp
      dsimp only
      rw [g3, g4, ix_nI (by omega), ix_nI (by omega)]
      exact ⟨g1, g2, rfl, rfl⟩
    · obtain ⟨m', g1, g2, g3⟩ := rl m h
      rw [if_pos rfl] at g1
      refine ⟨_, g1, RI_24 (g2.ri h), ⟨by simp [mset], fun p hp => ?_⟩, fun t ht => by rw [mset_l ht (by decide), g2 t (by omega) (by omega)]⟩
      obtain ⟨f, how, q1, q2, q3, q4⟩ := r2 rfl p (by omega) hp
      have := g3 rfl p hp
      dsimp only
      rw [mset_ne (by decide), mset_ne (by decide), this.1, this.2, q3, q4, ix_nI (by omega), ix_nI (by omega)]
      exact ⟨rfl, rfl⟩
  · refine Or.inl ⟨r, 0, hr, fun m h => ⟨_, cl m h, CI_ft h, fun t ht => mset_t ht (by decide)⟩, fun m h => ?_⟩
    obtain ⟨m', g1, g2, -⟩ := rl m h
    rw [if_neg hr] at g1
    exact ⟨m', g1, g2.ri h, fun t ht => g2 t (by omega) (by omega)⟩
