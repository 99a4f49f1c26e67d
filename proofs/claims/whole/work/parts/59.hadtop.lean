/-! ===== had, kinds, dears: alike ===== -/
theorem a_had (x1 x2 x3 x4 x5 : Int32) : Agree (f_X6_had x1 x2 x3 x4 x5) (f_X7_had x1 x2 x3 x4 x5) := agree_of (fun ft tr Sh F rn rf rs hv => by
  have hn := hv.2.1.1
  have hW := hv.2.1.wc
  rcases fish_cases x1 (n := F 0 0) (by omega) with ⟨h1, h2, -⟩ | ⟨f, hf, rfl, h1, h2⟩
  · exact ⟨-1, 0, tr, Sh, F, rn, rf, rs, hv, fun m h => ⟨mset m 0 0 6 0, by simp [f_X6_had, f_X6_refusalWithFish, f_X6_unknownFish, h1 m h.2.2.2.1.1, bnd], CI_ft h, fun t ht => mset_t ht (by decide)⟩, fun m h => ⟨mset m 30 0 0 0, by simp [f_X7_had, h2 _ (RI_ft (ft' := 0) h).2.2.2.1.1, bnd], RI_ft h, fun t ht => mset_l ht (by decide)⟩⟩
  obtain ⟨b1, b2⟩ := i5 hf hn
  rcases lay_all (ft := ft) (tr := tr) hv x2 x3 x4 x5 with ⟨r, ft', hr, c1, c2⟩ | ⟨k, la, q, len, c, a, fs, hs, hk, hq, rfl, rfl, rfl, e, hal, hl, hF, hR, c1, c2⟩
  · refine ⟨r, ft', tr, Sh, F, rn, rf, rs, hv, fun m h => ?_, fun m h => ?_⟩
    · obtain ⟨m1, e1, e2, e3⟩ := c1 m h
      refine ⟨m1, ?_, e2, e3⟩
      unfold f_X6_had f_X6_refusalWithFish
      rw [h1 m h.2.2.2.1.1, bnd_some, if_neg (by decide), e1, bnd_some, bnd_some, if_neg hr]
    · obtain ⟨m1, e1, e2, e3⟩ := c2 _ (RI_ft h)
      refine ⟨m1, ?_, e2, fun t ht => by rw [e3 t ht, mset_l ht (by decide)]⟩
      unfold f_X7_had
      rw [h2 _ (RI_ft (ft' := 0) h).2.2.2.1.1, bnd_some, if_neg (by decide), e1, bnd_some, if_neg hr]
  refine ⟨foldS (fun acc v => bitS (fitB (fset F 5 f v) fs hs q rn rf rs) acc v) 0 10 0, 0, tr, Sh, F, rn, rf, rs, hv, fun m h => ?_, fun m h => ?_⟩
  · have h0 := CI_ft (ft' := 0) h
    have hS := h0.2.2.1 k hk
    rw [e] at hS
    obtain ⟨m', w1, w2⟩ := had_c hf hk hq hW h0.2.2.2.1 hS hl hal hR h0.2.2.2.2.1 hv.2.2.1 (fun q hq => ⟨(hv.2.2.2 q hq).1, (hv.2.2.2 q hq).2⟩) (fun t27 => some (t27.1, t27.2))
    refine ⟨m', ?_, w1.ci h0, fun t ht => by rw [w1 t (by omega), mset_t ht (by decide)]⟩
    unfold f_X6_had f_X6_refusalWithFish
    rw [h1 m h.2.2.2.1.1, bnd_some, if_neg (by decide), c1 m h, bnd_some, bnd_some, if_pos rfl, w2]
  · obtain ⟨m1, e1, e2, e3, e4⟩ := c2 _ (RI_ft h)
    obtain ⟨m', w1, w2⟩ := had_r hf e2.2.2.2.1 hW e3 hq (fun p hp => ⟨(hR p hp).1, (hR p hp).2.1⟩) e2.2.2.2.2 hv.2.2.1 (fun q hq => ⟨(hv.2.2.2 q hq).1, (hv.2.2.2 q hq).2⟩) (fun t49 => if inB (nI f) 5 = true then some (t49.1, (mset t49.2 36 0 (ix (nI f)) (m1 36 0 f))) else none)
    refine ⟨_, ?_, w1.ri e2, fun t ht => by rw [w1.lo ht, e4 t ht, mset_l ht (by decide)]⟩
    unfold f_X7_had
    rw [h2 _ (RI_ft (ft' := 0) h).2.2.2.1.1, bnd_some, if_neg (by decide), e1, bnd_some, if_pos rfl, if_pos b1, b2]
    rw [b2] at w2
    rw [w2]
    dsimp only
    rw [if_pos b1])
theorem a_kinds (x1 x2 x3 x4 x5 : Int32) : Agree (f_X6_kinds x1 x2 x3 x4 x5) (f_X7_kinds x1 x2 x3 x4 x5) := agree_of (fun ft tr Sh F rn rf rs hv => by
  have hn := hv.2.1.1
  have hW := hv.2.1.wc
  rcases fish_cases x1 (n := F 0 0) (by omega) with ⟨h1, h2, -⟩ | ⟨f, hf, rfl, h1, h2⟩
  · exact ⟨-1, 0, tr, Sh, F, rn, rf, rs, hv, fun m h => ⟨mset m 0 0 6 0, by simp [f_X6_kinds, f_X6_refusalWithFish, f_X6_unknownFish, h1 m h.2.2.2.1.1, bnd], CI_ft h, fun t ht => mset_t ht (by decide)⟩, fun m h => ⟨mset m 30 0 0 0, by simp [f_X7_kinds, h2 _ (RI_ft (ft' := 0) h).2.2.2.1.1, bnd], RI_ft h, fun t ht => mset_l ht (by decide)⟩⟩
  obtain ⟨b1, b2⟩ := i5 hf hn
  rcases lay_all (ft := ft) (tr := tr) hv x2 x3 x4 x5 with ⟨r, ft', hr, c1, c2⟩ | ⟨k, la, q, len, c, a, fs, hs, hk, hq, rfl, rfl, rfl, e, hal, hl, hF, hR, c1, c2⟩
  · refine ⟨r, ft', tr, Sh, F, rn, rf, rs, hv, fun m h => ?_, fun m h => ?_⟩
    · obtain ⟨m1, e1, e2, e3⟩ := c1 m h
      refine ⟨m1, ?_, e2, e3⟩
      unfold f_X6_kinds f_X6_refusalWithFish
      rw [h1 m h.2.2.2.1.1, bnd_some, if_neg (by decide), e1, bnd_some, bnd_some, if_neg hr]
    · obtain ⟨m1, e1, e2, e3⟩ := c2 _ (RI_ft h)
      refine ⟨m1, ?_, e2, fun t ht => by rw [e3 t ht, mset_l ht (by decide)]⟩
      unfold f_X7_kinds
      rw [h2 _ (RI_ft (ft' := 0) h).2.2.2.1.1, bnd_some, if_neg (by decide), e1, bnd_some, if_neg hr]
  refine ⟨foldS (fun acc v => bitS (fitB (fset F 3 f v) fs hs q rn rf rs) acc v) 0 3 0, 0, tr, Sh, F, rn, rf, rs, hv, fun m h => ?_, fun m h => ?_⟩
  · have h0 := CI_ft (ft' := 0) h
    have hS := h0.2.2.1 k hk
    rw [e] at hS
    obtain ⟨m', w1, w2⟩ := kinds_c hf hk hq hW h0.2.2.2.1 hS hl hal hR h0.2.2.2.2.1 hv.2.2.1 (fun q hq => ⟨(hv.2.2.2 q hq).1, (hv.2.2.2 q hq).2⟩) (fun t27 => some (t27.1, t27.2))
    refine ⟨m', ?_, w1.ci h0, fun t ht => by rw [w1 t (by omega), mset_t ht (by decide)]⟩
    unfold f_X6_kinds f_X6_refusalWithFish
    rw [h1 m h.2.2.2.1.1, bnd_some, if_neg (by decide), c1 m h, bnd_some, bnd_some, if_pos rfl, w2]
  · obtain ⟨m1, e1, e2, e3, e4⟩ := c2 _ (RI_ft h)
    obtain ⟨m', w1, w2⟩ := kinds_r hf e2.2.2.2.1 hW e3 hq (fun p hp => ⟨(hR p hp).1, (hR p hp).2.1⟩) e2.2.2.2.2 hv.2.2.1 (fun q hq => ⟨(hv.2.2.2 q hq).1, (hv.2.2.2 q hq).2⟩) (fun t49 => if inB (nI f) 5 = true then some (t49.1, (mset t49.2 34 0 (ix (nI f)) (m1 34 0 f))) else none)
    refine ⟨_, ?_, w1.ri e2, fun t ht => by rw [w1.lo ht, e4 t ht, mset_l ht (by decide)]⟩
    unfold f_X7_kinds
    rw [h2 _ (RI_ft (ft' := 0) h).2.2.2.1.1, bnd_some, if_neg (by decide), e1, bnd_some, if_pos rfl, if_pos b1, b2]
    rw [b2] at w2
    rw [w2]
    dsimp only
    rw [if_pos b1])
theorem a_dears (x1 x2 x3 x4 : Int32) : Agree (f_X6_dears x1 x2 x3 x4) (f_X7_dears x1 x2 x3 x4) := agree_of (fun ft tr Sh F rn rf rs hv => by
  have hn := hv.2.1.1
  have hW := hv.2.1.wc
  rcases lay_all (ft := ft) (tr := tr) hv x1 x2 x3 x4 with ⟨r, ft', hr, c1, c2⟩ | ⟨k, la, q, len, c, a, fs, hs, hk, hq, rfl, rfl, rfl, e, hal, hl, hF, hR, c1, c2⟩
  · refine ⟨r, ft', tr, Sh, F, rn, rf, rs, hv, fun m h => ?_, fun m h => ?_⟩
    · obtain ⟨m1, e1, e2, e3⟩ := c1 m h
      refine ⟨m1, ?_, e2, e3⟩
      unfold f_X6_dears
      rw [e1, bnd_some, if_neg hr]
    · obtain ⟨m1, e1, e2, e3⟩ := c2 _ (RI_ft h)
      refine ⟨m1, ?_, e2, fun t ht => by rw [e3 t ht, mset_l ht (by decide)]⟩
      unfold f_X7_dears
      rw [e1, bnd_some, if_neg hr]
  refine ⟨foldS (fun acc v => bitS (fitB (fset F 1 0 v) fs hs q rn rf rs) acc v) 0 10 0, 0, tr, Sh, F, rn, rf, rs, hv, fun m h => ?_, fun m h => ?_⟩
  · have h0 := CI_ft (ft' := 0) h
    have hS := h0.2.2.1 k hk
    rw [e] at hS
    obtain ⟨m', w1, w2⟩ := dears_c hk hq hW h0.2.2.2.1 hS hl hal hR h0.2.2.2.2.1 hv.2.2.1 (fun q hq => ⟨(hv.2.2.2 q hq).1, (hv.2.2.2 q hq).2⟩) (fun t27 => some (t27.1, t27.2))
    refine ⟨m', ?_, w1.ci h0, fun t ht => by rw [w1 t (by omega), mset_t ht (by decide)]⟩
    unfold f_X6_dears
    rw [c1 m h, bnd_some, if_pos rfl, w2]
  · obtain ⟨m1, e1, e2, e3, e4⟩ := c2 _ (RI_ft h)
    obtain ⟨m', w1, w2⟩ := dears_r e2.2.2.2.1 hW e3 hq (fun p hp => ⟨(hR p hp).1, (hR p hp).2.1⟩) e2.2.2.2.2 hv.2.2.1 (fun q hq => ⟨(hv.2.2.2 q hq).1, (hv.2.2.2 q hq).2⟩) (fun t36 => some (t36.1, (mset t36.2 30 0 6 (m1 30 0 6))))
    refine ⟨_, ?_, w1.ri e2, fun t ht => by rw [w1.lo ht, e4 t ht, mset_l ht (by decide)]⟩
    unfold f_X7_dears
    rw [e1, bnd_some, if_pos rfl, w2])
