/-! ===== a row told: refused, stuck, or walked ===== -/
def wv : FdT ⊕ Nat → Int32
  | .inl _ => -9
  | .inr p => nI p
def Wok (F : FdT) : FdT ⊕ Nat → Prop
  | .inl C => CB C 720
  | .inr p => p < 20
theorem told_cases {ft tr : Int32} {Sh : ShT} {F : FdT} {rn : Nat} {rf rs : Nat → Nat} (hv : VI Sh F rn rf rs) {k la q : Nat} (x : Int32) (hk : k < 4) (hla : la < 3) (hq : q ≤ 20) :
    (∃ r ft', r ≠ 0 ∧ CStep (f_X6_refusalOf (nI k) (nI la) x (nI q) 1) r (fun m => CI m ft tr Sh F rn rf rs) (fun m => CI m ft' tr Sh F rn rf rs) ∧ RStep (f_X7_layPasses (nI k) (nI la) x (nI q)) r (fun m => RI m 0 tr Sh F rn rf rs) (fun m => RI m ft' tr Sh F rn rf rs)) ∨
    (∃ W, Wok F W ∧ 1 ≤ F 0 0 ∧
      (∀ m, CI m ft tr Sh F rn rf rs → ∃ m1 m', f_X6_refusalOf (nI k) (nI la) x (nI q) 1 m = some (0, m1) ∧ f_X6_walkAsTold (nI k) x (nI q) m1 = some (wv W, m') ∧ CI m' 0 tr Sh F rn rf rs ∧ (∀ t, 30 ≤ t → m' t = m t) ∧ ∀ C, W = .inl C → XR m' 0 F C) ∧
      ∀ m, RI m 0 tr Sh F rn rf rs → ∃ m1 m', f_X7_layPasses (nI k) (nI la) x (nI q) m = some (0, m1) ∧ f_X7_go m1 = some (wv W, m') ∧ RI m' 0 tr Sh F rn rf rs ∧ (∀ t, t < 30 → m' t = m t) ∧ ∀ C, W = .inl C → RX m' F C) := by
  rcases lay_cases (ft := ft) (tr := tr) hv x hk hla hq with h | ⟨len, c, a, fs, hs, e, rfl, hal, hl, h1, hR, hc, hr⟩
  · exact Or.inl h
  have hW := hv.2.1.wc
  have b1 : inB (nI k) 4 = true := inB_nI hk (by decide)
  have b2 : ix (nI k) = k := ix_nI (by omega)
  refine Or.inr ⟨walkS F fs hs q 0 (startS F), ?_, h1, fun m h => ?_, fun m h => ?_⟩
  · cases hw : walkS F fs hs q 0 (startS F) with
    | inl C => exact (walkS_CB hW q 0 0 (startS F) C (fun z hz => (hR z (by omega)).1) (CB_start hW) hw).mono (by omega)
    | inr p => have := walkS_lt q 0 (startS F) p hw; show p < 20; omega
  · obtain ⟨m2, s1, s2, s3⟩ := start_c 0 (CI_ft (ft' := 0) h).2.2.2.1 hW
    have hS := (s2.ci (CI_ft (ft' := 0) h)).2.2.1 k hk
    rw [e] at hS
    have hwk := walk_c s3 hW (CB_start hW (g := 0)) hS hl hal hR
    cases hw : walkS F fs hs q 0 (startS F) with
    | inl C =>
      rw [hw] at hwk
      obtain ⟨m3, w1, w2, w3⟩ := hwk
      refine ⟨_, m3, hc m h, ?_, w2.ci (s2.ci (CI_ft h)), fun t ht => by rw [w2 t (by omega), s2 t (by omega), mset_t ht (by decide)], fun C' hC => by cases hC; exact w3⟩
      unfold f_X6_walkAsTold
      rw [s1, bnd_some, if_pos b1, b2, w1]
      rfl
    | inr p =>
      rw [hw] at hwk
      obtain ⟨m3, w1, w2⟩ := hwk
      refine ⟨_, m3, hc m h, ?_, w2.ci (s2.ci (CI_ft h)), fun t ht => by rw [w2 t (by omega), s2 t (by omega), mset_t ht (by decide)], fun C' hC => by cases hC⟩
      unfold f_X6_walkAsTold
      rw [s1, bnd_some, if_pos b1, b2, w1]
      rfl
  · obtain ⟨m1, g1, g2, g3, g4⟩ := hr m h
    have hg := go_r g2.2.2.2.1 hW g3 hq (fun p hp => ⟨(hR p hp).1, (hR p hp).2.1⟩)
    cases hw : walkS F fs hs q 0 (startS F) with
    | inl C =>
      rw [hw] at hg
      obtain ⟨m3, w1, w2, w3⟩ := hg
      exact ⟨m1, m3, g1, w1, w2.ri g2, fun t ht => by rw [w2.lo ht, g4 t ht], fun C' hC => by cases hC; exact w3⟩
    | inr p =>
      rw [hw] at hg
      obtain ⟨m3, w1, w2⟩ := hg
      exact ⟨m1, m3, g1, w1, w2.ri g2, fun t ht => by rw [w2.lo ht, g4 t ht], fun C' hC => by cases hC⟩
theorem rng_any (x a b : Int32) : ∃ r : Int32, (r = 0 ∨ r = 1) ∧ (∀ m, f_X6_isWithin x a b m = some (r, m)) ∧ ∀ m, f_X7_within x a b m = some (r, m) := by
  by_cases h1 : x < a
  · have h1' : ¬ a ≤ x := by
      rw [Int32.le_iff_toInt_le]
      rw [Int32.lt_iff_toInt_lt] at h1
      omega
    exact ⟨0, Or.inl rfl, fun m => by simp [f_X6_isWithin, h1], fun m => by simp [f_X7_within, h1, h1']⟩
  · have h1' : a ≤ x := by
      rw [Int32.le_iff_toInt_le]
      rw [Int32.lt_iff_toInt_lt] at h1
      omega
    by_cases h2 : b < x
    · have h2' : ¬ x ≤ b := by
        rw [Int32.le_iff_toInt_le]
        rw [Int32.lt_iff_toInt_lt] at h2
        omega
      exact ⟨0, Or.inl rfl, fun m => by simp [f_X6_isWithin, h1, h2], fun m => by simp [f_X7_within, h1, h1', h2, h2']⟩
    · have h2' : x ≤ b := by
        rw [Int32.le_iff_toInt_le]
        rw [Int32.lt_iff_toInt_lt] at h2
        omega
      exact ⟨1, Or.inr rfl, fun m => by simp [f_X6_isWithin, h1, h2], fun m => by simp [f_X7_within, h1, h1', h2, h2']⟩
theorem refuse_head (x1 x2 x4 : Int32) :
    ((∀ x3 b m, f_X6_refusalOf x1 x2 x3 x4 b m = some (-1, mset m 0 0 6 0)) ∧ ∀ m, f_X7_isSheet x1 m = some (0, m)) ∨
    ((∀ x3 b m, f_X6_refusalOf x1 x2 x3 x4 b m = some (-2, mset m 0 0 6 0)) ∧ (∀ m, f_X7_isSheet x1 m = some (1, m)) ∧ ∀ m, f_X7_arePairs x2 x4 m = some (0, m)) ∨
    (∃ k la q, k < 4 ∧ la < 3 ∧ q ≤ 20 ∧ x1 = nI k ∧ x2 = nI la ∧ x4 = nI q ∧ (∀ x3 m, f_X6_refusalOf x1 x2 x3 x4 0 m = some (-2, mset m 0 0 6 0)) ∧ (∀ m, f_X7_isSheet x1 m = some (1, m)) ∧ ∀ m, f_X7_arePairs x2 x4 m = some (1, m)) := by
  rcases sheet_cases x1 with ⟨h1, h2⟩ | ⟨k, hk, e1, h1, h2⟩
  · exact Or.inl ⟨fun x3 b m => by simp [f_X6_refusalOf, h1, bnd], h2⟩
  rcases lane_cases x2 with ⟨l1, l2⟩ | ⟨la, hla, e2, l1, l2⟩
  · exact Or.inr (Or.inl ⟨fun x3 b m => by simp [f_X6_refusalOf, h1, l1, bnd], h2, fun m => by simp [f_X7_arePairs, l2, bnd]⟩)
  rcases rng_cases x4 (b := 20) (n := 20) rfl (by decide) with ⟨q1, q2, -⟩ | ⟨q, hq, e4, q1, q2⟩
  · exact Or.inr (Or.inl ⟨fun x3 b m => by simp [f_X6_refusalOf, h1, l1, q1, bnd], h2, fun m => by simp [f_X7_arePairs, l2, q2, bnd]⟩)
  · exact Or.inr (Or.inr ⟨k, la, q, hk, hla, hq, e1, e2, e4, fun x3 m => by simp [f_X6_refusalOf, h1, l1, q1, bnd], h2, fun m => by simp [f_X7_arePairs, l2, q2, bnd]⟩)
