/-! ===== a crossing begins ===== -/
theorem nI_1' : nI 1 = 1 := rfl
theorem nI_2' : nI 2 = 2 := rfl
theorem nI_3' : nI 3 = 3 := rfl
def StA (m : Mem) (w : Nat) (F : FdT) : Prop := m 7 w 8 = nI (F 0 0) ∧ m 7 w 9 = nI (F 1 0) ∧ m 7 w 10 = nI (F 2 0) ∧ m 7 w 11 = 0 ∧ m 7 w 12 = 0 ∧ m 7 w 13 = 0
def StF (m : Mem) (w : Nat) (F : FdT) (f : Nat) : Prop := m 8 w f = nI (F 3 f) ∧ m 9 w f = nI (F 4 f) ∧ m 10 w f = nI (F 5 f) ∧ m 11 w f = nI (F 6 f) ∧ m 12 w f = nI (F 7 f) ∧ ∀ g, g < F 0 0 → m 14 (5 * w + f) g = 0
theorem XF.fill {m m' : Mem} {t i a n : Nat} {v : Int32} (h : XF m m') (h1 : 7 ≤ t) (h2 : t ≤ 16) : XF m (mfill m' t i a n v) := fun t' ht => (mfill_ne (by omega)).trans (h t' ht)
theorem start_c {m : Mem} {F : FdT} (w : Nat) (hT : TC m F) (hW : WC F) : ∃ m', f_X0_start w m = some ((), m') ∧ XF m m' ∧ XR m' w F (startS F) := by
  have hn := hW.1
  have key : ∀ (t x n : Nat) (m0 : Mem), x + t = F 0 0 → t < n → XF m m0 → StA m0 w F → (∀ f, f < x → StF m0 w F f) → ∃ m1, lpk (f_X0_start_b41 w) n (nI x, m0) (fun t41 => some ((), t41)) = some ((), m1) ∧ XF m m1 ∧ StA m1 w F ∧ ∀ f, f < F 0 0 → StF m1 w F f := by
    intro t
    induction t with
    | zero =>
      intro x n m0 hx hn2 hF hA h
      obtain ⟨n, rfl⟩ : ∃ n', n = n' + 1 := ⟨n - 1, by omega⟩
      have e : x = F 0 0 := by omega
      subst e
      refine ⟨m0, ?_, hF, hA, h⟩
      have hle : nI (F 0 0) ≤ nI (F 0 0) := nI_le (Nat.le_refl _) (by omega)
      simp [lpk_s, f_X0_start_b41, hA.1, hle]
    | succ t ih =>
      intro x n m0 hx hn2 hF hA h
      obtain ⟨n, rfl⟩ : ∃ n', n = n' + 1 := ⟨n - 1, by omega⟩
      have hge : ¬ nI (F 0 0) ≤ nI x := nI_ge (by omega) (by omega)
      obtain ⟨b1, b2⟩ := i5 (f := x) (n := F 0 0) (by omega) hn
      obtain ⟨t0, t1, t2, t3, t4⟩ := hT.2.2.2 x (by omega)
      rw [← hF 6 (by decide)] at t0 t1 t2 t3 t4
      obtain ⟨m1, e1, e2, e3, e4⟩ := ih (x + 1) n (mfill (mset (mset (mset (mset (mset m0 8 w x (m0 6 x 0)) 9 w x (m0 6 x 1)) 10 w x (m0 6 x 2)) 11 w x (m0 6 x 3)) 12 w x (m0 6 x 4)) 14 (5 * w + x) 0 5 0) (by omega) (by omega)
        ((((((hF.set (by decide) (by decide)).set (by decide) (by decide)).set (by decide) (by decide)).set (by decide) (by decide)).set (by decide) (by decide)).fill (by decide) (by decide))
        (by unfold StA at hA ⊢; simpa [mset, mfill] using hA)
        (fun f hf => by
          by_cases e : f = x
          · subst e
            refine ⟨by simp [mset, mfill, t0], by simp [mset, mfill, t1], by simp [mset, mfill, t2], by simp [mset, mfill, t3], by simp [mset, mfill, t4], fun g hg => by simp [mfill]; omega⟩
          · have := h f (by omega)
            unfold StF at this ⊢
            simpa [mset, mfill, e] using this)
      refine ⟨m1, ?_, e2, e3, e4⟩
      rw [← e1]
      simp [lpk_s, f_X0_start_b41, hA.1, hge, b1, b2, fill14, bnd, nI_succ]
  obtain ⟨m1, e1, e2, e3, e4⟩ := key (F 0 0) 0 fuelN (mset (mset (mset (mset (mset (mset m 7 w 8 (m 4 0 1)) 7 w 9 (m 4 0 2)) 7 w 10 (m 4 0 3)) 7 w 11 (0 : Int32)) 7 w 12 (0 : Int32)) 7 w 13 (0 : Int32)) (by omega) (by unfold fuelN; omega)
    ((((((XF.rf.set (by decide) (by decide)).set (by decide) (by decide)).set (by decide) (by decide)).set (by decide) (by decide)).set (by decide) (by decide)).set (by decide) (by decide))
    (by
      obtain ⟨u0, u1, u2, -⟩ := hT
      refine ⟨by simp [mset, u0], by simp [mset, u1], by simp [mset, u2], by simp [mset], by simp [mset], by simp [mset]⟩) (fun f hf => by omega)
  refine ⟨m1, e1, e2, ?_⟩
  obtain ⟨a0, a1, a2, a3, a4, a5⟩ := e3
  refine ⟨a0, a1, by rw [a2]; simp [startS], by rw [a3]; simp [startS, nI_0], by rw [a4]; simp [startS, nI_0], by rw [a5]; simp [startS, nI_0], fun f hf => ?_⟩
  obtain ⟨f0, f1, f2, f3, f4, f5⟩ := e4 f hf
  exact ⟨f0, f1, by rw [f2]; simp [startS, hf], f3, f4, fun g hg => by rw [f5 g hg]; simp [startS, o5, nI_0]⟩
/-! ===== a row is looked at ===== -/
theorem sheet_row {Sh : ShT} {k la n : Nat} (x : Int32) (hk : k < 4) (hla : la < 3) (hn : n < 2 ^ 31) (hv : SV (Sh k)) :
    (∃ v, (v = 1 ∨ v = 2 ∨ v = 3) ∧ (∀ m, SC m k (Sh k) → f_X4_faultAt k (nI la) x (nI n) m = some (nI v, m)) ∧ ∀ m, SR m k (Sh k) → f_X7_against (nI k) (nI la) x (nI n) m = some (nI v, m)) ∨
    (∃ len c a, Sh k = some (la, len, c) ∧ x = nI a ∧ a + n ≤ len ∧ len ≤ 60 ∧ (∀ m, SC m k (Sh k) → f_X4_faultAt k (nI la) x (nI n) m = some (0, m)) ∧ ∀ m, SR m k (Sh k) → f_X7_against (nI k) (nI la) x (nI n) m = some (0, m)) := by
  have b1 : inB (nI k) 4 = true := inB_nI hk (by decide)
  have b2 : ix (nI k) = k := ix_nI (by omega)
  have hn0 : (0 : Int32) ≤ nI n := by rw [← nI_0]; exact nI_le (by omega) (by omega)
  cases hs : Sh k with
  | none =>
    refine Or.inl ⟨1, Or.inl rfl, fun m h => ?_, fun m h => ?_⟩
    · simp [f_X4_faultAt, show m 2 k 1 = 0 from h, nI_1']
    · simp [f_X7_against, f_X7_against_j23, b1, b2, show m 31 0 k = -9 from h, nI_1']
  | some z =>
    obtain ⟨ln, len, c⟩ := z
    rw [hs] at hv
    obtain ⟨v1, v2⟩ := hv
    dsimp only at v1 v2
    have h9 : ¬ nI ln = -9 := m9 (k := ln) (by omega)
    by_cases hl : ln = la
    · subst hl
      by_cases hx : x < 0
      · refine Or.inl ⟨3, Or.inr (Or.inr rfl), fun m h => ?_, fun m h => ?_⟩
        · obtain ⟨s1, s2, s3, -⟩ := h
          dsimp only at s2 s3
          simp [f_X4_faultAt, s1, s2, hn0, holds_neg (Or.inl hx), bnd, nI_3']
        · obtain ⟨s1, s2, -⟩ := h
          dsimp only at s1 s2
          simp [f_X7_against, f_X7_against_j23, b1, b2, s1, s2, h9, hn0, hx, nI_3']
      · obtain ⟨a, ha, rfl⟩ := nI_of hx
        by_cases hal : a + n ≤ len
        · refine Or.inr ⟨len, c, a, rfl, rfl, hal, v2, fun m h => ?_, fun m h => ?_⟩
          · obtain ⟨s1, s2, s3, -⟩ := h
            dsimp only at s2 s3
            have hh := holds_n (n := n) v2 ha (by omega) s3
            rw [if_pos hal] at hh
            simp [f_X4_faultAt, s1, s2, hn0, hh, bnd]
          · obtain ⟨s1, s2, -⟩ := h
            dsimp only at s1 s2
            have e1 : ¬ nI len < nI a := fun q => by have := (nI_ltI (by omega) ha).mp q; omega
            have e2 : nI n ≤ nI len - nI a := by rw [pk_sub (by omega)]; exact nI_le (by omega) (by omega)
            simp [f_X7_against, f_X7_against_j23, b1, b2, s1, s2, h9, hn0, hx, e1, e2]
        · refine Or.inl ⟨3, Or.inr (Or.inr rfl), fun m h => ?_, fun m h => ?_⟩
          · obtain ⟨s1, s2, s3, -⟩ := h
            dsimp only at s2 s3
            have hh := holds_n (n := n) v2 ha (by omega) s3
            rw [if_neg hal] at hh
            simp [f_X4_faultAt, s1, s2, hn0, hh, bnd, nI_3']
          · obtain ⟨s1, s2, -⟩ := h
            dsimp only at s1 s2
            by_cases e1 : nI len < nI a
            · simp [f_X7_against, f_X7_against_j23, b1, b2, s1, s2, h9, hn0, hx, e1, nI_3']
            · have hal' : a ≤ len := by
                by_cases q : a ≤ len
                · exact q
                · exact absurd ((nI_ltI (by omega) ha).mpr (by omega)) e1
              have e2 : ¬ nI n ≤ nI len - nI a := by
                rw [pk_sub hal']
                exact nI_ge (by omega) (by omega)
              simp [f_X7_against, f_X7_against_j23, b1, b2, s1, s2, h9, hn0, hx, e1, e2, nI_3']
    · have hl' : ¬ nI ln = nI la := fun q => hl ((nI_eq (by omega) (by omega)).mp q)
      refine Or.inl ⟨2, Or.inr (Or.inl rfl), fun m h => ?_, fun m h => ?_⟩
      · obtain ⟨s1, s2, s3, -⟩ := h
        dsimp only at s2 s3
        simp [f_X4_faultAt, s1, s2, hl', nI_2']
      · obtain ⟨s1, s2, -⟩ := h
        dsimp only at s1 s2
        simp [f_X7_against, b1, b2, s1, h9, hl', nI_2']
