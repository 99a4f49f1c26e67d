theorem a_owes (x1 x2 x3 x4 x5 x6 : Int32) : Agree (f_X6_owes x1 x2 x3 x4 x5 x6) (f_X7_owes x1 x2 x3 x4 x5 x6) := agree_of (fun ft tr Sh F rn rf rs hv => by
  have hn := hv.2.1.1
  rcases fish_cases x2 (n := F 0 0) (by omega) with ⟨h1, h2, -⟩ | ⟨g, hg, rfl, h1, h2⟩
  · refine ⟨-1, 0, tr, Sh, F, rn, rf, rs, hv, fun m h => ⟨mset m 0 0 6 0, by simp [f_X6_owes, f_X6_owes_j30, f_X6_unknownFish, h1 m h.2.2.2.1.1, bnd], CI_ft h, fun t ht => mset_t ht (by decide)⟩, fun m h => ⟨mset m 30 0 0 0, ?_, RI_ft h, fun t ht => mset_l ht (by decide)⟩⟩
    rcases fish_cases x1 (n := F 0 0) (by omega) with ⟨-, h3, -⟩ | ⟨_, _, _, -, h3⟩
    · simp [f_X7_owes, h3 _ (RI_ft (ft' := 0) h).2.2.2.1.1, bnd]
    · simp [f_X7_owes, h3 _ (RI_ft (ft' := 0) h).2.2.2.1.1, h2 _ (RI_ft (ft' := 0) h).2.2.2.1.1, bnd]
  rcases fish_cases x1 (n := F 0 0) (by omega) with ⟨h3, h4, -⟩ | ⟨f, hf, rfl, h3, h4⟩
  · exact ⟨-1, 0, tr, Sh, F, rn, rf, rs, hv, fun m h => ⟨mset m 0 0 6 0, by simp [f_X6_owes, f_X6_owes_j30, f_X6_refusalWithFish, f_X6_unknownFish, h1 m h.2.2.2.1.1, h3 m h.2.2.2.1.1, bnd], CI_ft h, fun t ht => mset_t ht (by decide)⟩, fun m h => ⟨mset m 30 0 0 0, by simp [f_X7_owes, h4 _ (RI_ft (ft' := 0) h).2.2.2.1.1, bnd], RI_ft h, fun t ht => mset_l ht (by decide)⟩⟩
  obtain ⟨b1, b2⟩ := i5 hf hn
  obtain ⟨b3, b4⟩ := i5 hg hn
  have ei : (5 : Int32) * nI f + nI g = nI (5 * f + g) := by rw [show (5 : Int32) = nI 5 from rfl, pk_mul, nI_add]
  have b5 : inB (nI (5 * f + g)) 25 = true := inB_nI (by omega) (by decide)
  have b6 : ix (nI (5 * f + g)) = 5 * f + g := ix_nI (by omega)
  have rl : ∀ m, RI m ft tr Sh F rn rf rs → f_X7_owes (nI f) (nI g) x3 x4 x5 x6 m = bnd (bnd (f_X7_isSheet x3 (mset m 30 0 0 0)) (fun r m => if r = 0 then some (-1, m) else f_X7_goRow x3 x4 x5 x6 m)) (fun r38 m38 => if r38 = 0 then some ((m38 41 0 (5 * f + g)), m38) else some (r38, m38)) := fun m h => by
    have hh := (RI_ft (ft' := 0) h).2.2.2.1.1
    unfold f_X7_owes
    rw [h4 _ hh, bnd_some, if_neg (by decide), h2 _ hh, bnd_some, if_neg (by decide), ei]
    simp only [b5, b6, if_true]
    rcases sheet_cases x3 with ⟨-, s⟩ | ⟨_, _, _, -, s⟩
    · simp [s, bnd]
    · simp [s, bnd]
  have cl : ∀ m, CI m ft tr Sh F rn rf rs → f_X6_owes (nI f) (nI g) x3 x4 x5 x6 m = bnd (f_X6_refusalOf x3 x4 x5 x6 1 m) (fun r20 m20 => f_X6_owes_j30 r20 (nI f) (nI g) x3 x5 x6 m20) := fun m h => by
    have hh := h.2.2.2.1.1
    unfold f_X6_owes f_X6_refusalWithFish
    rw [h1 _ hh, bnd_some, if_neg (by decide), h3 _ hh, bnd_some, if_neg (by decide)]
    cases f_X6_refusalOf x3 x4 x5 x6 1 m <;> rfl
  rcases row_all (ft := ft) (tr := tr) hv x3 x4 x5 x6 with ⟨r, ft', hr, c1, c2⟩ | ⟨W, hW, hF, c1, c2⟩
  · refine ⟨r, ft', tr, Sh, F, rn, rf, rs, hv, fun m h => ?_, fun m h => ?_⟩
    · obtain ⟨m1, e1, e2, e3⟩ := c1 m h
      refine ⟨m1, ?_, e2, e3⟩
      rw [cl m h, e1, bnd_some]
      unfold f_X6_owes_j30
      rw [if_neg hr]
    · obtain ⟨m1, e1, e2, e3⟩ := c2 _ (RI_ft h)
      refine ⟨m1, ?_, e2, fun t ht => by rw [e3 t ht, mset_l ht (by decide)]⟩
      dsimp only at e1
      rw [rl m h, e1, bnd_some, if_neg hr]
  have cc : ∀ m, CI m ft tr Sh F rn rf rs → ∃ m', f_X6_owes (nI f) (nI g) x3 x4 x5 x6 m = (if wv W = -9 then some (m' 14 (5 * 0 + f) g, m') else some (-100 - wv W, m')) ∧ CI m' 0 tr Sh F rn rf rs ∧ (∀ t, 30 ≤ t → m' t = m t) ∧ ∀ C, W = .inl C → XR m' 0 F C := fun m h => by
    obtain ⟨m1, m', e1, e2, e3, e4, e5⟩ := c1 m h
    refine ⟨m', ?_, e3, e4, e5⟩
    rw [cl m h, e1, bnd_some]
    unfold f_X6_owes_j30
    rw [if_pos rfl, e2, bnd_some, if_pos b1, if_pos b3, b2, b4]
  cases W with
  | inl C =>
    refine ⟨nI (C (5 + f) g), 0, tr, Sh, F, rn, rf, rs, hv, fun m h => ?_, fun m h => ?_⟩
    · obtain ⟨m', e1, e2, e3, e4⟩ := cc m h
      exact ⟨m', by rw [e1, if_pos wv_l, ((e4 C rfl).2.2.2.2.2.2 f hf).2.2.2.2.2 g hg], e2, e3⟩
    · obtain ⟨m', e1, e2, e3, e4⟩ := c2 _ (RI_ft h)
      refine ⟨m', ?_, e2, fun t ht => by rw [e3 t ht, mset_l ht (by decide)]⟩
      rw [rl m h, e1, if_pos wv_l, bnd_some, if_pos rfl, ((e4 C rfl).2.2.2.2 f hf).2 g hg]
  | inr p =>
    have hp : ¬ wv (.inr p) = -9 := m9' hW
    refine ⟨-100 - wv (.inr p), 0, tr, Sh, F, rn, rf, rs, hv, fun m h => ?_, fun m h => ?_⟩
    · obtain ⟨m', e1, e2, e3, e4⟩ := cc m h
      exact ⟨m', by rw [e1, if_neg hp], e2, e3⟩
    · obtain ⟨m', e1, e2, e3, e4⟩ := c2 _ (RI_ft h)
      refine ⟨m', ?_, e2, fun t ht => by rw [e3 t ht, mset_l ht (by decide)]⟩
      rw [rl m h, e1, if_neg hp, bnd_some, if_neg (m100 hW)])
