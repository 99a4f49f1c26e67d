/-! ===== payments ===== -/
theorem a_payments (x1 x2 x3 x4 : Int32) : Agree (f_X6_payments x1 x2 x3 x4) (f_X7_payments x1 x2 x3 x4) := agree_of (fun ft tr Sh F rn rf rs hv => by
  have hn := hv.2.1.1
  have rl : ∀ m, f_X7_payments x1 x2 x3 x4 m = bnd (bnd (f_X7_isSheet x1 (mset m 30 0 0 0)) (fun r m => if r = 0 then some (-1, m) else f_X7_goRow x1 x2 x3 x4 m)) (fun r20 m20 => if r20 = 0 then bnd (f_X7_layNets m20) (fun _ m34 => bnd (f_X7_mostParts m34) (fun r42 m42 => some (((m34 30 0 7) - r42), m42))) else some (r20, m20)) := fun m => by
    rcases sheet_cases x1 with ⟨-, s⟩ | ⟨_, _, _, -, s⟩
    · simp [f_X7_payments, s, bnd]
    · simp [f_X7_payments, s, bnd]
  rcases row_all (ft := ft) (tr := tr) hv x1 x2 x3 x4 with ⟨r, ft', hr, c1, c2⟩ | ⟨W, hW, hF, c1, c2⟩
  · refine ⟨r, ft', tr, Sh, F, rn, rf, rs, hv, fun m h => ?_, fun m h => ?_⟩
    · obtain ⟨m1, e1, e2, e3⟩ := c1 m h
      refine ⟨m1, ?_, e2, e3⟩
      unfold f_X6_payments
      rw [e1, bnd_some, if_neg hr]
    · obtain ⟨m1, e1, e2, e3⟩ := c2 _ (RI_ft h)
      refine ⟨m1, ?_, e2, fun t ht => by rw [e3 t ht, mset_l ht (by decide)]⟩
      dsimp only at e1
      rw [rl m, e1, bnd_some, if_neg hr]
  have cc : ∀ m, CI m ft tr Sh F rn rf rs → ∃ m', f_X6_payments x1 x2 x3 x4 m = (if wv W = -9 then bnd (f_X0_fewestPayments 0 m') (fun r49 m49 => some (r49, m49)) else some (-100 - wv W, m')) ∧ CI m' 0 tr Sh F rn rf rs ∧ (∀ t, 30 ≤ t → m' t = m t) ∧ ∀ C, W = .inl C → XR m' 0 F C := fun m h => by
    obtain ⟨m1, m', e1, e2, e3, e4, e5⟩ := c1 m h
    refine ⟨m', ?_, e3, e4, e5⟩
    unfold f_X6_payments
    rw [e1, bnd_some, if_pos rfl, e2, bnd_some]
  cases W with
  | inl C =>
    refine ⟨nI (F 0 0) - nI (bC (F 0 0) (zD (netD F C)) (2 ^ F 0 0 - 1)), 0, tr, Sh, F, rn, rf, rs, hv, fun m h => ?_, fun m h => ?_⟩
    · obtain ⟨m', e1, e2, e3, e4⟩ := cc m h
      obtain ⟨m2, g1, g2⟩ := payments_c (e4 C rfl) hn
      exact ⟨m2, by rw [e1, if_pos wv_l, g2]; rfl, g1.xf.ci e2, fun t ht => by rw [g1 t (by omega) (by omega), e3 t ht]⟩
    · obtain ⟨m', e1, e2, e3, e4⟩ := c2 _ (RI_ft h)
      have q7 := e2.2.2.2.1.1
      obtain ⟨m2, g1, g2, g3⟩ := nets_r q7 (e4 C rfl) hn
      obtain ⟨m3, k1, k2⟩ := parts_r (m := m2) (d := netD F C) hn (by rw [g2 30 (by decide) (by decide)]; exact q7) g3
      have p1 : 1 ≤ 2 ^ F 0 0 := Nat.one_le_two_pow
      have eq := c_eq_r hn (bC_is (z := zD (netD F C)) hn) (bR_is hn) (sum_IsZ (netD F C)) (M := 2 ^ F 0 0 - 1) (by omega)
      have nf : NF m' m3 := fun t h1 h2 => by rw [k1 t h2, g2 t h1 h2]
      refine ⟨m3, ?_, nf.ri e2, fun t ht => by rw [nf t (by omega) (by omega), e3 t ht, mset_l ht (by decide)]⟩
      rw [rl m, e1, if_pos wv_l, bnd_some, if_pos rfl, g1, bnd_some, k2, bnd_some, g2 30 (by decide) (by decide), q7, eq]
  | inr p =>
    have hp : ¬ wv (.inr p) = -9 := m9' hW
    refine ⟨-100 - wv (.inr p), 0, tr, Sh, F, rn, rf, rs, hv, fun m h => ?_, fun m h => ?_⟩
    · obtain ⟨m', e1, e2, e3, e4⟩ := cc m h
      exact ⟨m', by rw [e1, if_neg hp], e2, e3⟩
    · obtain ⟨m', e1, e2, e3, e4⟩ := c2 _ (RI_ft h)
      refine ⟨m', ?_, e2, fun t ht => by rw [e3 t ht, mset_l ht (by decide)]⟩
      rw [rl m, e1, if_neg hp, bnd_some, if_neg (m100 hW)])
