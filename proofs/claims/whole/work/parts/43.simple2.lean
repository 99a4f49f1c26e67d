theorem fset_s {F : FdT} {i j v : Nat} : fset F i j v i j = v := by simp [fset]
theorem TC_f {m : Mem} {F : FdT} {i j v : Nat} (hi : i = 1 ∨ i = 2) (hj : j = 0) (h : TC m F) : TC (mset m 4 0 (i + 1) (nI v)) (fset F i j v) := by
  subst hj
  obtain ⟨h0, h1, h2, h3⟩ := h
  rcases hi with rfl | rfl
  · exact ⟨by simpa [mset, fset] using h0, by simp [mset, fset], by simpa [mset, fset] using h2, fun f hf => by simpa [mset, fset] using h3 f (by simpa [fset] using hf)⟩
  · exact ⟨by simpa [mset, fset] using h0, by simpa [mset, fset] using h1, by simp [mset, fset], fun f hf => by simpa [mset, fset] using h3 f (by simpa [fset] using hf)⟩
theorem a_dear (x : Int32) : Agree (f_X6_dear x) (f_X7_dear x) := agree_of (fun ft tr Sh F rn rf rs hv => by
  have hn := hv.2.1.1
  rcases rng_cases x (b := 9) (n := 9) rfl (by decide) with ⟨h1, h2, -⟩ | ⟨v, hk, rfl, h1, h2⟩
  · exact ⟨-2, ft, tr, Sh, F, rn, rf, rs, hv, fun m h => ⟨m, by simp [f_X6_dear, h1, bnd], h, fun _ _ => rfl⟩, fun m h => ⟨m, by simp [f_X7_dear, h2, bnd], h, fun _ _ => rfl⟩⟩
  by_cases h0 : F 0 0 = 0
  · exact ⟨-3, ft, tr, Sh, F, rn, rf, rs, hv, fun m h => ⟨m, by simp [f_X6_dear, h1, bnd, h.2.2.2.1.1, h0, nI_0], h, fun _ _ => rfl⟩, fun m h => ⟨m, by simp [f_X7_dear, h2, bnd, h.2.2.2.1.2.2.2.1, h0], h, fun _ _ => rfl⟩⟩
  · have e0 : ¬ nI (F 0 0) = 0 := fun q => h0 ((nI_z (by omega)).mp q)
    refine ⟨nI (F 1 0), ft, tr, Sh, fset F 1 0 v, rn, rf, rs, ⟨hv.1, ⟨by simpa [fset] using hn, by simpa [fset] using hk, by simpa [fset] using hv.2.1.2.2.1, fun f hf => by simpa [fset] using hv.2.1.2.2.2 f (by simpa [fset] using hf)⟩, hv.2.2.1, fun q hq => by simpa [fset] using hv.2.2.2 q hq⟩, fun m h => ⟨mset (mset m 4 0 2 (nI v)) 17 0 3 0, ?_, ?_, ?_⟩, fun m h => ⟨mset m 30 0 6 (nI v), ?_, ?_, ?_⟩⟩
    · simp [f_X6_dear, h1, bnd, h.2.2.2.1.1, e0, f_X3_forget, h.2.2.2.1.2.1]
    · exact ⟨by simpa [mset] using h.1, by simpa [mset] using h.2.1, SC_cong (by simp [mset_ne]) (by simp [mset_ne]) h.2.2.1, TC_cong (m := mset m 4 0 2 (nI v)) (mset_ne (by decide)) (mset_ne (by decide)) (TC_f (i := 1) (Or.inl rfl) rfl h.2.2.2.1), RC_cong (by simp [mset]) (by simp [mset_ne]) (by simp [mset_ne]) h.2.2.2.2.1, Or.inl (by simp [mset])⟩
    · intro t ht; rw [mset_t ht (by decide), mset_t ht (by decide)]
    · simp [f_X7_dear, h2, bnd, h.2.2.2.1.2.2.2.1, h0, h.2.2.2.1.2.1]
    · obtain ⟨g1, g2, g3, g4, g5⟩ := h.2.2.2.1
      exact ⟨by simpa [mset] using h.1, by simpa [mset] using h.2.1, SR_cong (mset_ne (by decide)) (mset_ne (by decide)) (mset_ne (by decide)) h.2.2.1, ⟨by simpa [mset, fset] using g1, by simp [mset, fset], by simpa [mset, fset] using g3, by simpa [mset, fset] using g4, fun f hf => by simpa [mset, fset] using g5 f (by simpa [fset] using hf)⟩, RR_cong (by simp [mset]) (mset_ne (by decide)) (mset_ne (by decide)) h.2.2.2.2⟩
    · intro t ht; rw [mset_l ht (by decide)])
theorem a_hear (x : Int32) : Agree (f_X6_hear x) (f_X7_hear x) := agree_of (fun ft tr Sh F rn rf rs hv => by
  have hn := hv.2.1.1
  rcases rng_cases x (b := 63) (n := 63) rfl (by decide) with ⟨h1, h2, -⟩ | ⟨v, hk, rfl, h1, h2⟩
  · exact ⟨-2, ft, tr, Sh, F, rn, rf, rs, hv, fun m h => ⟨m, by simp [f_X6_hear, h1, bnd], h, fun _ _ => rfl⟩, fun m h => ⟨m, by simp [f_X7_hear, h2, bnd], h, fun _ _ => rfl⟩⟩
  by_cases h0 : F 0 0 = 0
  · exact ⟨-3, ft, tr, Sh, F, rn, rf, rs, hv, fun m h => ⟨m, by simp [f_X6_hear, h1, bnd, h.2.2.2.1.1, h0, nI_0], h, fun _ _ => rfl⟩, fun m h => ⟨m, by simp [f_X7_hear, h2, bnd, h.2.2.2.1.2.2.2.1, h0], h, fun _ _ => rfl⟩⟩
  · have e0 : ¬ nI (F 0 0) = 0 := fun q => h0 ((nI_z (by omega)).mp q)
    refine ⟨nI (F 2 0), ft, tr, Sh, fset F 2 0 v, rn, rf, rs, ⟨hv.1, ⟨by simpa [fset] using hn, by simpa [fset] using hv.2.1.2.1, by simp [fset]; omega, fun f hf => by simpa [fset] using hv.2.1.2.2.2 f (by simpa [fset] using hf)⟩, hv.2.2.1, fun q hq => by simpa [fset] using hv.2.2.2 q hq⟩, fun m h => ⟨mset (mset m 4 0 3 (nI v)) 17 0 3 0, ?_, ?_, ?_⟩, fun m h => ⟨mset m 30 0 8 (nI v), ?_, ?_, ?_⟩⟩
    · simp [f_X6_hear, h1, bnd, h.2.2.2.1.1, e0, f_X3_forget, h.2.2.2.1.2.2.1]
    · exact ⟨by simpa [mset] using h.1, by simpa [mset] using h.2.1, SC_cong (by simp [mset_ne]) (by simp [mset_ne]) h.2.2.1, TC_cong (m := mset m 4 0 3 (nI v)) (mset_ne (by decide)) (mset_ne (by decide)) (TC_f (i := 2) (Or.inr rfl) rfl h.2.2.2.1), RC_cong (by simp [mset]) (by simp [mset_ne]) (by simp [mset_ne]) h.2.2.2.2.1, Or.inl (by simp [mset])⟩
    · intro t ht; rw [mset_t ht (by decide), mset_t ht (by decide)]
    · simp [f_X7_hear, h2, bnd, h.2.2.2.1.2.2.2.1, h0, h.2.2.2.1.2.2.1]
    · obtain ⟨g1, g2, g3, g4, g5⟩ := h.2.2.2.1
      exact ⟨by simpa [mset] using h.1, by simpa [mset] using h.2.1, SR_cong (mset_ne (by decide)) (mset_ne (by decide)) (mset_ne (by decide)) h.2.2.1, ⟨by simpa [mset, fset] using g1, by simpa [mset, fset] using g2, by simp [mset, fset], by simpa [mset, fset] using g4, fun f hf => by simpa [mset, fset] using g5 f (by simpa [fset] using hf)⟩, RR_cong (by simp [mset]) (mset_ne (by decide)) (mset_ne (by decide)) h.2.2.2.2⟩
    · intro t ht; rw [mset_l ht (by decide)])
theorem a_scales (x y : Int32) : Agree (f_X6_scales x y) (f_X7_scales x y) := agree_of (fun ft tr Sh F rn rf rs hv => by
  have hn := hv.2.1.1
  rcases fish_cases x (n := F 0 0) (by omega) with ⟨h1, h2, -⟩ | ⟨f, hf, rfl, h1, h2⟩
  · exact ⟨-1, ft, tr, Sh, F, rn, rf, rs, hv, fun m h => ⟨m, by simp [f_X6_scales, h1 m h.2.2.2.1.1, bnd], h, fun _ _ => rfl⟩, fun m h => ⟨m, by simp [f_X7_scales, h2 m h.2.2.2.1.1, bnd], h, fun _ _ => rfl⟩⟩
  obtain ⟨b1, b2⟩ := i5 hf hn
  rcases rng_cases y (b := 99) (n := 99) rfl (by decide) with ⟨k1, k2, -⟩ | ⟨v, hk, rfl, k1, k2⟩
  · exact ⟨-2, ft, tr, Sh, F, rn, rf, rs, hv, fun m h => ⟨m, by simp [f_X6_scales, h1 m h.2.2.2.1.1, k1, bnd], h, fun _ _ => rfl⟩, fun m h => ⟨m, by simp [f_X7_scales, h2 m h.2.2.2.1.1, k2, bnd], h, fun _ _ => rfl⟩⟩
  have hW : WF (fset F 5 f v) := ⟨by simpa [fset] using hn, by simpa [fset] using hv.2.1.2.1, by simpa [fset] using hv.2.1.2.2.1, fun g hg => by
    have := hv.2.1.2.2.2 g (by simpa [fset] using hg)
    by_cases e : g = f
    · subst e; simp [fset]; omega
    · simpa [fset, e] using this⟩
  refine ⟨nI (F 5 f), ft, tr, Sh, fset F 5 f v, rn, rf, rs, ⟨hv.1, hW, hv.2.2.1, fun q hq => by simpa [fset] using hv.2.2.2 q hq⟩, fun m h => ⟨mset (mset m 6 f 2 (nI v)) 17 0 3 0, ?_, ?_, ?_⟩, fun m h => ⟨mset m 36 0 f (nI v), ?_, ?_, ?_⟩⟩
  · simp [f_X6_scales, h1 m h.2.2.2.1.1, k1, bnd, b1, b2, f_X3_forget, (h.2.2.2.1.2.2.2 f hf).2.2.1]
  · obtain ⟨g1, g2, g3, g4⟩ := h.2.2.2.1
    refine ⟨by simpa [mset] using h.1, by simpa [mset] using h.2.1, SC_cong (by simp [mset_ne]) (by simp [mset_ne]) h.2.2.1, ⟨by simpa [mset, fset] using g1, by simpa [mset, fset] using g2, by simpa [mset, fset] using g3, fun g hg => ?_⟩, RC_cong (by simp [mset]) (by simp [mset_ne]) (by simp [mset_ne]) h.2.2.2.2.1, Or.inl (by simp [mset])⟩
    have := g4 g (by simpa [fset] using hg)
    by_cases e : g = f
    · subst e; simp [mset, fset, this]
    · simpa [mset, fset, e] using this
  · intro t ht; rw [mset_t ht (by decide), mset_t ht (by decide)]
  · simp [f_X7_scales, h2 m h.2.2.2.1.1, k2, bnd, b1, b2, (h.2.2.2.1.2.2.2.2 f hf).2.2.1]
  · obtain ⟨g1, g2, g3, g4, g5⟩ := h.2.2.2.1
    refine ⟨by simpa [mset] using h.1, by simpa [mset] using h.2.1, SR_cong (mset_ne (by decide)) (mset_ne (by decide)) (mset_ne (by decide)) h.2.2.1, ⟨by simpa [mset, fset] using g1, by simpa [mset, fset] using g2, by simpa [mset, fset] using g3, by simpa [mset, fset] using g4, fun g hg => ?_⟩, RR_cong (by simp [mset]) (mset_ne (by decide)) (mset_ne (by decide)) h.2.2.2.2⟩
    have := g5 g (by simpa [fset] using hg)
    by_cases e : g = f
    · subst e; simp [mset, fset, this]
    · simpa [mset, fset, e] using this
  · intro t ht; rw [mset_l ht (by decide)])
theorem a_let (x : Int32) : Agree (f_X6_let x) (f_X7_let x) := agree_of (fun ft tr Sh F rn rf rs hv => by
  have hn := hv.2.1.1
  rcases fish_cases x (n := F 0 0) (by omega) with ⟨h1, h2, -⟩ | ⟨f, hf, rfl, h1, h2⟩
  · exact ⟨-1, ft, tr, Sh, F, rn, rf, rs, hv, fun m h => ⟨m, by simp [f_X6_let, h1 m h.2.2.2.1.1, bnd], h, fun _ _ => rfl⟩, fun m h => ⟨m, by simp [f_X7_let, h2 m h.2.2.2.1.1, bnd], h, fun _ _ => rfl⟩⟩
  obtain ⟨b1, b2⟩ := i5 hf hn
  have hk := (hv.2.1.2.2.2 f hf).1
  have e2 : (nI (F 3 f) = 2) ↔ F 3 f = 2 := nI_eq (b := 2) (by omega) (by decide)
  by_cases a : F 3 f = 2
  · have a2 := e2.mpr a
    refine ⟨90, ft, 31 * tr + 5, Sh, F, rn, rf, rs, hv, fun m h => ⟨_, ?_, CI_tr h, fun t ht => mset_t ht (by decide)⟩, fun m h => ⟨_, ?_, RI_tr h, fun t ht => mset_l ht (by decide)⟩⟩
    · simp [f_X6_let, h1 m h.2.2.2.1.1, bnd, b1, b2, (h.2.2.2.1.2.2.2 f hf).1, a2, f_X6_leaveTrace, h.2.1]
    · simp [f_X7_let, f_X7_let_j26, h2 m h.2.2.2.1.1, bnd, b1, b2, (h.2.2.2.1.2.2.2.2 f hf).1, a2, f_X7_begins, h.2.1, mset]
  · have a2 : ¬ nI (F 3 f) = 2 := fun q => a (e2.mp q)
    refine ⟨nI f, ft, 31 * tr + 4, Sh, F, rn, rf, rs, hv, fun m h => ⟨_, ?_, CI_tr h, fun t ht => mset_t ht (by decide)⟩, fun m h => ⟨_, ?_, RI_tr h, fun t ht => mset_l ht (by decide)⟩⟩
    · simp [f_X6_let, h1 m h.2.2.2.1.1, bnd, b1, b2, (h.2.2.2.1.2.2.2 f hf).1, a2, f_X6_leaveTrace, h.2.1]
    · simp [f_X7_let, f_X7_let_j26, h2 m h.2.2.2.1.1, bnd, b1, b2, (h.2.2.2.1.2.2.2.2 f hf).1, a2, f_X7_begins, h.2.1, mset])
theorem mset_mset {m : Mem} {t i j : Nat} {v w : Int32} : mset (mset m t i j v) t i j w = mset m t i j w := by
  funext a b c
  unfold mset
  split <;> rfl
theorem a_tell (x : Int32) : Agree (f_X6_tell x) (f_X7_tell x) := agree_of (fun ft tr Sh F rn rf rs hv => by
  have hn := hv.2.1.1
  rcases fish_cases x (n := F 0 0) (by omega) with ⟨h1, h2, -⟩ | ⟨f, hf, rfl, h1, h2⟩
  · exact ⟨-1, ft, tr, Sh, F, rn, rf, rs, hv, fun m h => ⟨m, by simp [f_X6_tell, h1 m h.2.2.2.1.1, bnd], h, fun _ _ => rfl⟩, fun m h => ⟨m, by simp [f_X7_tell, h2 m h.2.2.2.1.1, bnd], h, fun _ _ => rfl⟩⟩
  obtain ⟨b1, b2⟩ := i5 hf hn
  obtain ⟨hk, q1, q9, -⟩ := hv.2.1.2.2.2 f hf
  have e1 : (nI (F 3 f) = 1) ↔ F 3 f = 1 := nI_eq (b := 1) (by omega) (by decide)
  have e2 : (nI (F 3 f) = 2) ↔ F 3 f = 2 := nI_eq (b := 2) (by omega) (by decide)
  by_cases a : F 3 f = 1
  · have a1 := e1.mpr a
    refine ⟨nI (F 4 f) + 100, ft, 31 * (31 * tr + 2) + 1, Sh, F, rn, rf, rs, hv, fun m h => ⟨mset m 0 0 5 (31 * (31 * tr + 2) + 1), ?_, CI_tr h, fun t ht => mset_t ht (by decide)⟩, fun m h => ⟨mset m 30 0 1 (31 * (31 * tr + 2) + 1), ?_, RI_tr h, fun t ht => mset_l ht (by decide)⟩⟩
    · obtain ⟨g1, g2, -⟩ := h.2.2.2.1.2.2.2 f hf
      simp [f_X6_tell, h1 m h.2.2.2.1.1, bnd, b1, b2, g1, a1, f_X6_eelsTelling, f_X6_fishsTelling, f_X6_leaveTrace, mset_mset, h.2.1]
      simp [mset, h.2.1, g2]
    · obtain ⟨g1, g2, -⟩ := h.2.2.2.1.2.2.2.2 f hf
      simp [f_X7_tell, h2 m h.2.2.2.1.1, bnd, b1, b2, g1, g2, a1, f_X7_begins, mset_mset, h.2.1]
      simp [mset, h.2.1]
  have a1 : ¬ nI (F 3 f) = 1 := fun q => a (e1.mp q)
  by_cases b : F 3 f = 2
  · have a2 := e2.mpr b
    have es : nI (F 4 f) + 100 + nI (F 4 f) = 2 * nI (F 4 f) + 100 := by
      rw [show (100 : Int32) = nI 100 from rfl, show (2 : Int32) = nI 2 from rfl, nI_add, nI_add, pk_mul, nI_add]
      congr 1
      omega
    refine ⟨2 * nI (F 4 f) + 100, ft, 31 * (31 * (31 * (31 * tr + 3) + 2) + 1) + 1, Sh, F, rn, rf, rs, hv, fun m h => ⟨mset m 0 0 5 (31 * (31 * (31 * (31 * tr + 3) + 2) + 1) + 1), ?_, CI_tr h, fun t ht => mset_t ht (by decide)⟩, fun m h => ⟨mset m 30 0 1 (31 * (31 * (31 * (31 * tr + 3) + 2) + 1) + 1), ?_, RI_tr h, fun t ht => mset_l ht (by decide)⟩⟩
    · obtain ⟨g1, g2, -⟩ := h.2.2.2.1.2.2.2 f hf
      simp [f_X6_tell, h1 m h.2.2.2.1.1, bnd, b1, b2, g1, a1, a2, f_X6_pikesTelling, f_X6_eelsTelling, f_X6_fishsTelling, f_X6_leaveTrace, mset_mset, h.2.1]
      simp [mset, h.2.1, g2, es]
    · obtain ⟨g1, g2, -⟩ := h.2.2.2.1.2.2.2.2 f hf
      simp [f_X7_tell, h2 m h.2.2.2.1.1, bnd, b1, b2, g1, g2, a1, a2, f_X7_begins, mset_mset, h.2.1]
      simp [mset, h.2.1]
  · have a2 : ¬ nI (F 3 f) = 2 := fun q => b (e2.mp q)
    refine ⟨nI (F 4 f), ft, 31 * tr + 1, Sh, F, rn, rf, rs, hv, fun m h => ⟨mset m 0 0 5 (31 * tr + 1), ?_, CI_tr h, fun t ht => mset_t ht (by decide)⟩, fun m h => ⟨mset m 30 0 1 (31 * tr + 1), ?_, RI_tr h, fun t ht => mset_l ht (by decide)⟩⟩
    · obtain ⟨g1, g2, -⟩ := h.2.2.2.1.2.2.2 f hf
      simp [f_X6_tell, h1 m h.2.2.2.1.1, bnd, b1, b2, g1, a1, a2, f_X6_fishsTelling, f_X6_leaveTrace, h.2.1]
      simp [mset, g2]
    · obtain ⟨g1, g2, -⟩ := h.2.2.2.1.2.2.2.2 f hf
      simp [f_X7_tell, h2 m h.2.2.2.1.1, bnd, b1, b2, g1, g2, a1, a2, f_X7_begins, h.2.1])
