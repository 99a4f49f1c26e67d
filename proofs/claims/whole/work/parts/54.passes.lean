/-! ===== passes ===== -/
theorem wv_l {C : FdT} : wv (.inl C) = -9 := rfl
theorem m9' {p : Nat} (hp : p < 20) : ¬ nI p = -9 := by
  have : ∀ x, x < 20 → ¬ nI x = -9 := by decide
  exact this p hp
theorem passes_flag (x1 x2 x3 x4 y : Int32) : ∃ b : Int32, (b = 0 ∨ b = 1) ∧ (∀ m, f_X6_passes x1 x2 x3 x4 y m = f_X6_passes_j27 b x1 x2 x3 x4 y m) ∧
    ∀ m, bnd (f_X7_within y (0 : Int32) (4 : Int32) m) (fun r27 m27 =>
            if r27 = 0 then
              bnd (f_X7_within y (10 : Int32) (14 : Int32) m27) (fun r39 m39 =>
                if r39 = 0 then
                  some ((-2 : Int32), m39)
                else
                  f_X7_passes_j48 x1 x2 x3 x4 y m39)
            else
              f_X7_passes_j48 x1 x2 x3 x4 y m27) = if b = 0 then some (-2, m) else f_X7_passes_j48 x1 x2 x3 x4 y m := by
  obtain ⟨r, hr, c1, d1⟩ := rng_any y 0 4
  obtain ⟨s, hs, c2, d2⟩ := rng_any y 10 14
  rcases hr with rfl | rfl
  · rcases hs with rfl | rfl
    · exact ⟨0, Or.inl rfl, fun m => by simp [f_X6_passes, c1, c2, bnd], fun m => by simp [d1, d2, bnd]⟩
    · exact ⟨1, Or.inr rfl, fun m => by simp [f_X6_passes, f_X6_passes_j22, c1, c2, bnd], fun m => by simp [d1, d2, bnd]⟩
  · exact ⟨1, Or.inr rfl, fun m => by simp [f_X6_passes, f_X6_passes_j22, c1, bnd], fun m => by simp [d1, bnd]⟩
def tellC (y : Int32) (m55 : Mem) : Option (Int32 × Mem) :=
            if y = (0 : Int32) then
              some ((m55 7 0 13), m55)
            else
              if y = (1 : Int32) then
                bnd (f_X5_has (y - (10 : Int32)) m55) (fun r161 m161 =>
                  if r161 = 0 then
                    some ((-9 : Int32), m161)
                  else
                    if inB (y - (10 : Int32)) 5 = true then
                      some ((m161 10 0 (ix (y - (10 : Int32)))), m161)
                    else none)
              else
                if y = (2 : Int32) then
                  some ((m55 7 0 10), m55)
                else
                  if y = (3 : Int32) then
                    some ((m55 7 0 11), m55)
                  else
                    if y = (4 : Int32) then
                      some ((m55 7 0 12), m55)
                    else
                      bnd (f_X5_has (y - (10 : Int32)) m55) (fun r161 m161 =>
                        if r161 = 0 then
                          some ((-9 : Int32), m161)
                        else
                          if inB (y - (10 : Int32)) 5 = true then
                            some ((m161 10 0 (ix (y - (10 : Int32)))), m161)
                          else none)
theorem tell_both {F C : FdT} (hn : F 0 0 ≤ 5) {y : Int32} : ∃ r, (∀ m, XR m 0 F C → TC m F → tellC y m = some (r, m)) ∧ ∀ m, RX m F C → TR m F → f_X7_tellPasses y m = some (r, m) := by
  by_cases y0 : y = 0
  · exact ⟨nI (C 3 0), fun m h _ => by simp [tellC, y0, h.2.2.2.2.2.1], fun m h _ => by simp [f_X7_tellPasses, y0, h.2.2.2.1]⟩
  by_cases y2 : y = 2
  · exact ⟨nI (C 0 0), fun m h _ => by simp [tellC, y2, h.2.2.1], fun m h _ => by simp [f_X7_tellPasses, y2, h.1]⟩
  by_cases y3 : y = 3
  · exact ⟨nI (C 1 0), fun m h _ => by simp [tellC, y3, h.2.2.2.1], fun m h _ => by simp [f_X7_tellPasses, y3, h.2.1]⟩
  by_cases y4 : y = 4
  · exact ⟨nI (C 2 0), fun m h _ => by simp [tellC, y4, h.2.2.2.2.1], fun m h _ => by simp [f_X7_tellPasses, y4, h.2.2.1]⟩
  rcases fish_cases (y - 10) (n := F 0 0) (by omega) with ⟨h1, h2, -⟩ | ⟨f, hf, e, h1, h2⟩
  · exact ⟨-9, fun m _ h => by simp [tellC, y0, y2, y3, y4, h1 m h.1, bnd], fun m _ h => by simp [f_X7_tellPasses, y0, y2, y3, y4, h2 m h.1, bnd]⟩
  · obtain ⟨b1, b2⟩ := i5 hf hn
    rw [e] at h1 h2
    refine ⟨nI (C 4 f), fun m h hT => ?_, fun m h hT => ?_⟩
    · have := (h.2.2.2.2.2.2 f hf).2.2.1
      simp [tellC, y0, y2, y3, y4, h1 m hT.1, bnd, e, b1, b2, this]
    · have := (h.2.2.2.2 f hf).1
      simp [f_X7_tellPasses, y0, y2, y3, y4, h2 m hT.1, bnd, e, b1, b2, this]
theorem a_passes (x1 x2 x3 x4 y : Int32) : Agree (f_X6_passes x1 x2 x3 x4 y) (f_X7_passes x1 x2 x3 x4 y) := agree_of (fun ft tr Sh F rn rf rs hv => by
  have hn := hv.2.1.1
  obtain ⟨b, hb, g1, g2⟩ := passes_flag x1 x2 x3 x4 y
  rcases refuse_head x1 x2 x4 with ⟨h1, h2⟩ | ⟨h1, h2, h3⟩ | ⟨k, la, q, hk, hla, hq, rfl, rfl, rfl, h1, h2, h3⟩
  · exact ⟨-1, 0, tr, Sh, F, rn, rf, rs, hv, fun m h => ⟨mset m 0 0 6 0, by rw [g1]; simp [f_X6_passes_j27, h1, bnd], CI_ft h, fun t ht => mset_t ht (by decide)⟩, fun m h => ⟨mset m 30 0 0 0, by simp [f_X7_passes, h2, bnd], RI_ft h, fun t ht => mset_l ht (by decide)⟩⟩
  · exact ⟨-2, 0, tr, Sh, F, rn, rf, rs, hv, fun m h => ⟨mset m 0 0 6 0, by rw [g1]; simp [f_X6_passes_j27, h1, bnd], CI_ft h, fun t ht => mset_t ht (by decide)⟩, fun m h => ⟨mset m 30 0 0 0, by simp [f_X7_passes, h2, h3, bnd], RI_ft h, fun t ht => mset_l ht (by decide)⟩⟩
  have hd : ∀ m, f_X7_passes (nI k) (nI la) x3 (nI q) y m = if b = 0 then some (-2, mset m 30 0 0 0) else f_X7_passes_j48 (nI k) (nI la) x3 (nI q) y (mset m 30 0 0 0) := fun m => by
    unfold f_X7_passes
    rw [h2, bnd_some, if_neg (by decide), h3, bnd_some, if_neg (by decide), g2]
  rcases hb with rfl | rfl
  · exact ⟨-2, 0, tr, Sh, F, rn, rf, rs, hv, fun m h => ⟨mset m 0 0 6 0, by rw [g1]; simp [f_X6_passes_j27, h1, bnd], CI_ft h, fun t ht => mset_t ht (by decide)⟩, fun m h => ⟨mset m 30 0 0 0, by rw [hd, if_pos rfl], RI_ft h, fun t ht => mset_l ht (by decide)⟩⟩
  rcases told_cases (ft := ft) (tr := tr) hv x3 hk hla hq with ⟨r, ft', hr, c1, c2⟩ | ⟨W, hW, -, c1, c2⟩
  · refine ⟨r, ft', tr, Sh, F, rn, rf, rs, hv, fun m h => ?_, fun m h => ?_⟩
    · obtain ⟨m1, e1, e2, e3⟩ := c1 m h
      exact ⟨m1, by rw [g1]; unfold f_X6_passes_j27; rw [e1, bnd_some, if_neg hr], e2, e3⟩
    · obtain ⟨m1, e1, e2, e3⟩ := c2 _ (RI_ft h)
      exact ⟨m1, by rw [hd, if_neg (by decide)]; unfold f_X7_passes_j48; rw [e1, bnd_some, if_neg hr], e2, fun t ht => by rw [e3 t ht, mset_l ht (by decide)]⟩
  have cc : ∀ m, CI m ft tr Sh F rn rf rs → ∃ m', f_X6_passes (nI k) (nI la) x3 (nI q) y m = (if y = 1 then some (wv W, m') else if wv W = -9 then tellC y m' else some (-100 - wv W, m')) ∧ CI m' 0 tr Sh F rn rf rs ∧ (∀ t, 30 ≤ t → m' t = m t) ∧ ∀ C, W = .inl C → XR m' 0 F C := fun m h => by
    obtain ⟨m1, m', e1, e2, e3, e4, e5⟩ := c1 m h
    exact ⟨m', by rw [g1]; unfold f_X6_passes_j27; rw [e1, bnd_some, if_pos rfl, e2, bnd_some]; rfl, e3, e4, e5⟩
  have rr : ∀ m, RI m ft tr Sh F rn rf rs → ∃ m', f_X7_passes (nI k) (nI la) x3 (nI q) y m = (if y = 1 then some (wv W, m') else if wv W = -9 then bnd (f_X7_tellPasses y m') (fun r92 m92 => some (r92, m92)) else some (-100 - wv W, m')) ∧ RI m' 0 tr Sh F rn rf rs ∧ (∀ t, t < 30 → m' t = m t) ∧ ∀ C, W = .inl C → RX m' F C := fun m h => by
    obtain ⟨m1, m', e1, e2, e3, e4, e5⟩ := c2 _ (RI_ft h)
    exact ⟨m', by rw [hd, if_neg (by decide)]; unfold f_X7_passes_j48; rw [e1, bnd_some, if_pos rfl, e2, bnd_some], e3, fun t ht => by rw [e4 t ht, mset_l ht (by decide)], e5⟩
  by_cases y1 : y = 1
  · refine ⟨wv W, 0, tr, Sh, F, rn, rf, rs, hv, fun m h => ?_, fun m h => ?_⟩
    · obtain ⟨m', e1, e2, e3, e4⟩ := cc m h
      exact ⟨m', by rw [e1, if_pos y1], e2, e3⟩
    · obtain ⟨m', e1, e2, e3, e4⟩ := rr m h
      exact ⟨m', by rw [e1, if_pos y1], e2, e3⟩
  cases W with
  | inl C =>
    obtain ⟨r, t1, t2⟩ := tell_both (F := F) (C := C) hn (y := y)
    refine ⟨r, 0, tr, Sh, F, rn, rf, rs, hv, fun m h => ?_, fun m h => ?_⟩
    · obtain ⟨m', e1, e2, e3, e4⟩ := cc m h
      exact ⟨m', by rw [e1, if_neg y1, if_pos wv_l, t1 m' (e4 C rfl) e2.2.2.2.1], e2, e3⟩
    · obtain ⟨m', e1, e2, e3, e4⟩ := rr m h
      exact ⟨m', by rw [e1, if_neg y1, if_pos wv_l, t2 m' (e4 C rfl) e2.2.2.2.1]; rfl, e2, e3⟩
  | inr p =>
    have hp : ¬ wv (.inr p) = -9 := m9' hW
    refine ⟨-100 - wv (.inr p), 0, tr, Sh, F, rn, rf, rs, hv, fun m h => ?_, fun m h => ?_⟩
    · obtain ⟨m', e1, e2, e3, e4⟩ := cc m h
      exact ⟨m', by rw [e1, if_neg y1, if_neg hp], e2, e3⟩
    · obtain ⟨m', e1, e2, e3, e4⟩ := rr m h
      exact ⟨m', by rw [e1, if_neg y1, if_neg hp], e2, e3⟩)
/-! ===== a row, and then a word about the state behind it ===== -/
theorem row_all {ft tr : Int32} {Sh : ShT} {F : FdT} {rn : Nat} {rf rs : Nat → Nat} (hv : VI Sh F rn rf rs) (x1 x2 x3 x4 : Int32) :
    (∃ r ft', r ≠ 0 ∧ CStep (f_X6_refusalOf x1 x2 x3 x4 1) r (fun m => CI m ft tr Sh F rn rf rs) (fun m => CI m ft' tr Sh F rn rf rs) ∧
      RStep (fun m => bnd (f_X7_isSheet x1 m) (fun r m => if r = 0 then some (-1, m) else f_X7_goRow x1 x2 x3 x4 m)) r (fun m => RI m 0 tr Sh F rn rf rs) (fun m => RI m ft' tr Sh F rn rf rs)) ∨
    (∃ W, Wok F W ∧ 1 ≤ F 0 0 ∧ (∀ m, CI m ft tr Sh F rn rf rs → ∃ m1 m', f_X6_refusalOf x1 x2 x3 x4 1 m = some (0, m1) ∧ f_X6_walkAsTold x1 x3 x4 m1 = some (wv W, m') ∧ CI m' 0 tr Sh F rn rf rs ∧ (∀ t, 30 ≤ t → m' t = m t) ∧ ∀ C, W = .inl C → XR m' 0 F C) ∧
      ∀ m, RI m 0 tr Sh F rn rf rs → ∃ m', bnd (f_X7_isSheet x1 m) (fun r m => if r = 0 then some (-1, m) else f_X7_goRow x1 x2 x3 x4 m) = some (if wv W = -9 then 0 else -100 - wv W, m') ∧ RI m' 0 tr Sh F rn rf rs ∧ (∀ t, t < 30 → m' t = m t) ∧ ∀ C, W = .inl C → RX m' F C) := by
  rcases refuse_head x1 x2 x4 with ⟨h1, h2⟩ | ⟨h1, h2, h3⟩ | ⟨k, la, q, hk, hla, hq, rfl, rfl, rfl, h1, h2, h3⟩
  · exact Or.inl ⟨-1, 0, by decide, fun m h => ⟨mset m 0 0 6 0, h1 _ _ _, CI_ft h, fun t ht => mset_t ht (by decide)⟩, fun m h => ⟨m, by simp [h2, bnd], h, fun t ht => rfl⟩⟩
  · exact Or.inl ⟨-2, 0, by decide, fun m h => ⟨mset m 0 0 6 0, h1 _ _ _, CI_ft h, fun t ht => mset_t ht (by decide)⟩, fun m h => ⟨m, by simp [h2, h3, f_X7_goRow, bnd], h, fun t ht => rfl⟩⟩
  rcases told_cases (ft := ft) (tr := tr) hv x3 hk hla hq with ⟨r, ft', hr, c1, c2⟩ | ⟨W, hW, hF, c1, c2⟩
  · refine Or.inl ⟨r, ft', hr, c1, fun m h => ?_⟩
    obtain ⟨m1, e1, e2, e3⟩ := c2 m h
    refine ⟨m1, ?_, e2, e3⟩
    dsimp only
    rw [h2, bnd_some, if_neg (by decide)]
    unfold f_X7_goRow
    rw [h3, bnd_some, if_neg (by decide), e1, bnd_some, if_neg hr]
  · refine Or.inr ⟨W, hW, hF, c1, fun m h => ?_⟩
    obtain ⟨m1, m', e1, e2, e3, e4, e5⟩ := c2 m h
    refine ⟨m', ?_, e3, e4, e5⟩
    rw [h2, bnd_some, if_neg (by decide)]
    unfold f_X7_goRow
    rw [h3, bnd_some, if_neg (by decide), e1, bnd_some, if_pos rfl, e2, bnd_some]
    by_cases z : wv W = -9
    · rw [if_pos z, if_pos z]
    · rw [if_neg z, if_neg z]
theorem m100 {p : Nat} (hp : p < 20) : ¬ (-100 : Int32) - wv (.inr p) = 0 := by
  have : ∀ x, x < 20 → ¬ (-100 : Int32) - nI x = 0 := by decide
  exact this p hp
theorem a_toll (x1 x2 x3 x4 x5 : Int32) : Agree (f_X6_toll x1 x2 x3 x4 x5) (f_X7_toll x1 x2 x3 x4 x5) := agree_of (fun ft tr Sh F rn rf rs hv => by
  have hn := hv.2.1.1
  rcases fish_cases x1 (n := F 0 0) (by omega) with ⟨h1, h2, -⟩ | ⟨f, hf, rfl, h1, h2⟩
  · exact ⟨-1, 0, tr, Sh, F, rn, rf, rs, hv, fun m h => ⟨mset m 0 0 6 0, by simp [f_X6_toll, f_X6_refusalWithFish, f_X6_unknownFish, h1 m h.2.2.2.1.1, bnd], CI_ft h, fun t ht => mset_t ht (by decide)⟩, fun m h => ⟨mset m 30 0 0 0, by simp [f_X7_toll, h2 _ (RI_ft (ft' := 0) h).2.2.2.1.1, bnd], RI_ft h, fun t ht => mset_l ht (by decide)⟩⟩
  have rl : ∀ m, RI m ft tr Sh F rn rf rs → f_X7_toll (nI f) x2 x3 x4 x5 m = bnd (bnd (f_X7_isSheet x2 (mset m 30 0 0 0)) (fun r m => if r = 0 then some (-1, m) else f_X7_goRow x2 x3 x4 x5 m)) (fun r29 m29 => if r29 = 0 then bnd (f_X7_tollNow (nI f) m29) (fun r41 m41 => some (r41, m41)) else some (r29, m29)) := fun m h => by
    rcases sheet_cases x2 with ⟨-, s⟩ | ⟨_, _, _, -, s⟩
    · simp [f_X7_toll, h2 _ (RI_ft (ft' := 0) h).2.2.2.1.1, s, bnd]
    · simp [f_X7_toll, h2 _ (RI_ft (ft' := 0) h).2.2.2.1.1, s, bnd]
  rcases row_all (ft := ft) (tr := tr) hv x2 x3 x4 x5 with ⟨r, ft', hr, c1, c2⟩ | ⟨W, hW, hF, c1, c2⟩
  · refine ⟨r, ft', tr, Sh, F, rn, rf, rs, hv, fun m h => ?_, fun m h => ?_⟩
    · obtain ⟨m1, e1, e2, e3⟩ := c1 m h
      refine ⟨m1, ?_, e2, e3⟩
      unfold f_X6_toll f_X6_refusalWithFish
      rw [h1 m h.2.2.2.1.1, bnd_some, if_neg (by decide), e1, bnd_some, bnd_some, if_neg hr]
    · obtain ⟨m1, e1, e2, e3⟩ := c2 _ (RI_ft h)
      refine ⟨m1, ?_, e2, fun t ht => by rw [e3 t ht, mset_l ht (by decide)]⟩
      dsimp only at e1
      rw [rl m h, e1, bnd_some, if_neg hr]
  have cc : ∀ m, CI m ft tr Sh F rn rf rs → ∃ m', f_X6_toll (nI f) x2 x3 x4 x5 m = (if wv W = -9 then bnd (f_X0_tollOf 0 (nI f) m') (fun r52 m52 => some (r52, m52)) else some (-100 - wv W, m')) ∧ CI m' 0 tr Sh F rn rf rs ∧ (∀ t, 30 ≤ t → m' t = m t) ∧ ∀ C, W = .inl C → XR m' 0 F C := fun m h => by
    obtain ⟨m1, m', e1, e2, e3, e4, e5⟩ := c1 m h
    refine ⟨m', ?_, e3, e4, e5⟩
    unfold f_X6_toll f_X6_refusalWithFish
    rw [h1 m h.2.2.2.1.1, bnd_some, if_neg (by decide), e1, bnd_some, bnd_some, if_pos rfl, e2, bnd_some]
  cases W with
  | inl C =>
    refine ⟨nI (tollS F C f), 0, tr, Sh, F, rn, rf, rs, hv, fun m h => ?_, fun m h => ?_⟩
    · obtain ⟨m', e1, e2, e3, e4⟩ := cc m h
      exact ⟨m', by rw [e1, if_pos wv_l, toll_c (e4 C rfl) hv.2.1.wc hW hf]; rfl, e2, e3⟩
    · obtain ⟨m', e1, e2, e3, e4⟩ := c2 _ (RI_ft h)
      refine ⟨m', ?_, e2, fun t ht => by rw [e3 t ht, mset_l ht (by decide)]⟩
      rw [rl m h, e1, if_pos wv_l, bnd_some, if_pos rfl, toll_r e2.2.2.2.1 (e4 C rfl) hv.2.1.wc hW hf]
      rfl
  | inr p =>
    have hp : ¬ wv (.inr p) = -9 := m9' hW
    refine ⟨-100 - wv (.inr p), 0, tr, Sh, F, rn, rf, rs, hv, fun m h => ?_, fun m h => ?_⟩
    · obtain ⟨m', e1, e2, e3, e4⟩ := cc m h
      exact ⟨m', by rw [e1, if_neg hp], e2, e3⟩
    · obtain ⟨m', e1, e2, e3, e4⟩ := c2 _ (RI_ft h)
      refine ⟨m', ?_, e2, fun t ht => by rw [e3 t ht, mset_l ht (by decide)]⟩
      rw [rl m h, e1, bnd_some, if_neg hp, if_neg (m100 hW)])
