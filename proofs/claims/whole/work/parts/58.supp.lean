/-! ===== had, dears, kinds ===== -/
theorem SC_xf {m m' : Mem} {k : Nat} {v : Option (Nat × Nat × (Nat → Int32))} (h : XF m m') (hS : SC m k v) : SC m' k v := by
  unfold SC at hS ⊢
  rw [h 2 (by decide), h 3 (by decide)]
  exact hS
theorem TC_xf {m m' : Mem} {F : FdT} (h : XF m m') (hT : TC m F) : TC m' F := TC_cong (h 4 (by decide)) (h 6 (by decide)) hT
theorem RC_xf {m m' : Mem} {rn : Nat} {rf rs : Nat → Nat} (h : XF m m') (hR : RC m rn rf rs) : RC m' rn rf rs := by
  unfold RC at hR ⊢
  rw [h 20 (by decide), h 21 (by decide), h 22 (by decide)]
  exact hR
theorem had_c {m : Mem} {f k a q la len : Nat} {c : Nat → Int32} {F : FdT} {fs hs : Nat → Nat} {rn : Nat} {rf rs : Nat → Nat} (hf : f < F 0 0) (hk : k < 4) (hq : q ≤ 20) (hW : WC F) (hT : TC m F) (hS : SC m k (some (la, len, c))) (hl : len ≤ 60) (hal : a + 2 * q ≤ len) (hR : Row F c a q fs hs) (hRC : RC m rn rf rs) (hr : rn ≤ 8) (hv : ∀ q, q < rn → rf q < F 0 0 ∧ rs q ≤ 99) (K : Int32 × Mem → Option (Int32 × Mem)) :
    ∃ m', XF m m' ∧ lpk (f_X6_had_b27 (nI f) (nI k) (nI a) (nI q)) fuelN ((0 : Int32), (0 : Int32), m) K = K (foldS (fun acc v => bitS (fitB (fset F 5 f v) fs hs q rn rf rs) acc v) 0 10 0, m') := by
  obtain ⟨b1, b2⟩ := i5 hf hW.1
  refine fold_lp (P := fun m' => XF m m') (N := 10) (fun acc m next => ?_) (fun v acc m1 hv1 hP => ?_) 10 0 fuelN 0 m rfl (by decide) XF.rf
  · unfold f_X6_had_b27
    dsimp only
    rw [if_pos (by decide)]
  · obtain ⟨m2, s1, s2, s3⟩ := start_c 0 (TC_xf hP hT) hW
    have s4 : XF m1 (mset m2 10 0 f (nI v)) := s2.set (by decide) (by decide)
    obtain ⟨m3, w1, w2⟩ := fits_c (rn := rn) (rf := rf) (rs := rs) hk hq (XR_5 (v := v) s3 hf) (WC_5 hW (by omega)) (SC_xf s4 (SC_xf hP hS)) hl hal (hR.cg rfl) (RC_xf s4 (RC_xf hP hRC)) hr hv
    refine ⟨m3, hP.tr (s4.tr w2), fun next => ?_⟩
    have hlt : ¬ (9 : Int32) < nI v := fun z => by have := (nI_ltI (a := 9) (by decide) (by omega)).mp z; omega
    unfold f_X6_had_b27
    dsimp only
    rw [if_neg hlt, s1, bnd_some, if_pos b1, b2, w1, bnd_some, bit_if, bnd_some, nI_1]
    rfl
theorem kinds_c {m : Mem} {f k a q la len : Nat} {c : Nat → Int32} {F : FdT} {fs hs : Nat → Nat} {rn : Nat} {rf rs : Nat → Nat} (hf : f < F 0 0) (hk : k < 4) (hq : q ≤ 20) (hW : WC F) (hT : TC m F) (hS : SC m k (some (la, len, c))) (hl : len ≤ 60) (hal : a + 2 * q ≤ len) (hR : Row F c a q fs hs) (hRC : RC m rn rf rs) (hr : rn ≤ 8) (hv : ∀ q, q < rn → rf q < F 0 0 ∧ rs q ≤ 99) (K : Int32 × Mem → Option (Int32 × Mem)) :
    ∃ m', XF m m' ∧ lpk (f_X6_kinds_b27 (nI f) (nI k) (nI a) (nI q)) fuelN ((0 : Int32), (0 : Int32), m) K = K (foldS (fun acc v => bitS (fitB (fset F 3 f v) fs hs q rn rf rs) acc v) 0 3 0, m') := by
  obtain ⟨b1, b2⟩ := i5 hf hW.1
  refine fold_lp (P := fun m' => XF m m') (N := 3) (fun acc m next => ?_) (fun v acc m1 hv1 hP => ?_) 3 0 fuelN 0 m rfl (by decide) XF.rf
  · unfold f_X6_kinds_b27
    dsimp only
    rw [if_pos (by decide)]
  · obtain ⟨m2, s1, s2, s3⟩ := start_c 0 (TC_xf hP hT) hW
    have s4 : XF m1 (mset m2 8 0 f (nI v)) := s2.set (by decide) (by decide)
    obtain ⟨m3, w1, w2⟩ := fits_c (rn := rn) (rf := rf) (rs := rs) hk hq (XR_3 (f := f) (v := v) s3) (WC_3 hW (by omega)) (SC_xf s4 (SC_xf hP hS)) hl hal (hR.cg rfl) (RC_xf s4 (RC_xf hP hRC)) hr hv
    refine ⟨m3, hP.tr (s4.tr w2), fun next => ?_⟩
    have hlt : ¬ (2 : Int32) < nI v := fun z => by have := (nI_ltI (a := 2) (by decide) (by omega)).mp z; omega
    unfold f_X6_kinds_b27
    dsimp only
    rw [if_neg hlt, s1, bnd_some, if_pos b1, b2, w1, bnd_some, bit_if, bnd_some, nI_1]
    rfl
theorem dears_c {m : Mem} {k a q la len : Nat} {c : Nat → Int32} {F : FdT} {fs hs : Nat → Nat} {rn : Nat} {rf rs : Nat → Nat} (hk : k < 4) (hq : q ≤ 20) (hW : WC F) (hT : TC m F) (hS : SC m k (some (la, len, c))) (hl : len ≤ 60) (hal : a + 2 * q ≤ len) (hR : Row F c a q fs hs) (hRC : RC m rn rf rs) (hr : rn ≤ 8) (hv : ∀ q, q < rn → rf q < F 0 0 ∧ rs q ≤ 99) (K : Int32 × Mem → Option (Int32 × Mem)) :
    ∃ m', XF m m' ∧ lpk (f_X6_dears_b26 (nI k) (nI a) (nI q)) fuelN ((0 : Int32), (0 : Int32), m) K = K (foldS (fun acc v => bitS (fitB (fset F 1 0 v) fs hs q rn rf rs) acc v) 0 10 0, m') := by
  refine fold_lp (P := fun m' => XF m m') (N := 10) (fun acc m next => ?_) (fun v acc m1 hv1 hP => ?_) 10 0 fuelN 0 m rfl (by decide) XF.rf
  · unfold f_X6_dears_b26
    dsimp only
    rw [if_pos (by decide)]
  · obtain ⟨m2, s1, s2, s3⟩ := start_c 0 (TC_xf hP hT) hW
    have s4 : XF m1 (mset m2 7 0 9 (nI v)) := s2.set (by decide) (by decide)
    obtain ⟨m3, w1, w2⟩ := fits_c (rn := rn) (rf := rf) (rs := rs) hk hq (XR_1 (v := v) s3) (WC_1 hW (by omega)) (SC_xf s4 (SC_xf hP hS)) hl hal (hR.cg rfl) (RC_xf s4 (RC_xf hP hRC)) hr hv
    refine ⟨m3, hP.tr (s4.tr w2), fun next => ?_⟩
    have hlt : ¬ (9 : Int32) < nI v := fun z => by have := (nI_ltI (a := 9) (by decide) (by omega)).mp z; omega
    unfold f_X6_dears_b26
    dsimp only
    rw [if_neg hlt, s1, bnd_some, w1, bnd_some, bit_if, bnd_some, nI_1]
    rfl
/-! the reference: what is supposed is put back at the end -/
theorem or_if {b : Bool} {s : Int32} {x : Int32} {ω : Type} {nx : Int32 → ω} : (if (if b = true then (1 : Int32) else 0) = 0 then nx (s ||| 0) else nx (s ||| x)) = nx (s ||| (if b = true then x else 0)) := by
  cases b <;> simp
theorem RRW {m0 m : Mem} {t i j : Nat} {o : Int32} (ht : t < 30 ∨ t = 34 ∨ t = 36) (h : RFr m0 (mset m t i j o)) {rn : Nat} {rf rs : Nat → Nat} (hR : RR m0 rn rf rs) : RR m rn rf rs := by
  unfold RR at hR ⊢
  rw [← h.1 47 (by decide) (by decide) (by decide), ← h.1 48 (by decide) (by decide) (by decide), ← h.2 32 (by decide), mset_ne (by omega), mset_ne (by omega), mset_ne (by omega)] at hR
  exact hR
theorem LW {m0 m : Mem} {t i j : Nat} {o : Int32} (ht : t < 30 ∨ t = 34 ∨ t = 36) (h : RFr m0 (mset m t i j o)) {q : Nat} {fs hs : Nat → Nat} (hL : Laid m0 q fs hs) : Laid m q fs hs := by
  have := h.laid hL
  unfold Laid at this ⊢
  rw [mset_ne (by omega), mset_ne (by omega), mset_ne (by omega)] at this
  exact this
theorem had_r {m : Mem} {f q : Nat} {F : FdT} {fs hs : Nat → Nat} {rn : Nat} {rf rs : Nat → Nat} (hf : f < F 0 0) (hT : TR m F) (hW : WC F) (hL : Laid m q fs hs) (hq : q ≤ 20) (hR : ∀ p, p < q → fs p < F 0 0 ∧ hs p < 4) (hRR : RR m rn rf rs) (hr : rn ≤ 8) (hv : ∀ q, q < rn → rf q < F 0 0 ∧ rs q ≤ 99) (K : Int32 × Mem → Option (Int32 × Mem)) :
    ∃ m', RFr m (mset m' 36 0 f (m 36 0 f)) ∧ lpk (f_X7_had_b49 (nI f) (m 36 0 f)) fuelN ((0 : Int32), (0 : Int32), m) K = K (foldS (fun acc v => bitS (fitB (fset F 5 f v) fs hs q rn rf rs) acc v) 0 10 0, m') := by
  obtain ⟨b1, b2⟩ := i5 hf hW.1
  have ho : m 36 0 f = nI (F 5 f) := (hT.2.2.2.2 f hf).2.2.1
  refine fold_lp (P := fun m' => RFr m (mset m' 36 0 f (m 36 0 f))) (N := 10) (fun acc m next => ?_) (fun v acc m1 hv1 hP => ?_) 10 0 fuelN 0 m rfl (by decide) (by rw [mset_id rfl]; exact RFr.rf)
  · unfold f_X7_had_b49
    dsimp only
    rw [if_pos (by decide)]
  · have hT2 : TR (mset m1 36 0 f (nI v)) (fset F 5 f v) := by
      have := TR_5 (f := f) (v := v) (hP.T hT)
      rw [mset_mset] at this
      exact this
    have hL2 : Laid (mset m1 36 0 f (nI v)) q fs hs := by
      have := LW (Or.inr (Or.inr rfl)) hP hL
      unfold Laid at this ⊢
      rw [mset_ne (by decide), mset_ne (by decide), mset_ne (by decide)]
      exact this
    have hRR2 : RR (mset m1 36 0 f (nI v)) rn rf rs := by
      have := RRW (Or.inr (Or.inr rfl)) hP hRR
      unfold RR at this ⊢
      rw [mset_ne (by decide), mset_ne (by decide), mset_ne (by decide)]
      exact this
    obtain ⟨m3, w1, w2⟩ := fits_r (rn := rn) (rf := rf) (rs := rs) hT2 (WC_5 hW (by omega)) hL2 hq hR hRR2 hr hv
    refine ⟨m3, ?_, fun next => ?_⟩
    · have := w2.w (t := 36) (i := 0) (j := f) (v := m 36 0 f)
      rw [mset_mset] at this
      exact hP.tr this
    have hlt : ¬ (9 : Int32) < nI v := fun z => by have := (nI_ltI (a := 9) (by decide) (by omega)).mp z; omega
    unfold f_X7_had_b49 f_X7_had_j81
    dsimp only
    rw [if_neg hlt, if_pos b1, b2, w1, bnd_some, nI_1]
    exact or_if (nx := fun z => next (z, nI (v + 1), m3))
theorem kinds_r {m : Mem} {f q : Nat} {F : FdT} {fs hs : Nat → Nat} {rn : Nat} {rf rs : Nat → Nat} (hf : f < F 0 0) (hT : TR m F) (hW : WC F) (hL : Laid m q fs hs) (hq : q ≤ 20) (hR : ∀ p, p < q → fs p < F 0 0 ∧ hs p < 4) (hRR : RR m rn rf rs) (hr : rn ≤ 8) (hv : ∀ q, q < rn → rf q < F 0 0 ∧ rs q ≤ 99) (K : Int32 × Mem → Option (Int32 × Mem)) :
    ∃ m', RFr m (mset m' 34 0 f (m 34 0 f)) ∧ lpk (f_X7_kinds_b49 (nI f) (m 34 0 f)) fuelN ((0 : Int32), (0 : Int32), m) K = K (foldS (fun acc v => bitS (fitB (fset F 3 f v) fs hs q rn rf rs) acc v) 0 3 0, m') := by
  obtain ⟨b1, b2⟩ := i5 hf hW.1
  refine fold_lp (P := fun m' => RFr m (mset m' 34 0 f (m 34 0 f))) (N := 3) (fun acc m next => ?_) (fun v acc m1 hv1 hP => ?_) 3 0 fuelN 0 m rfl (by decide) (by rw [mset_id rfl]; exact RFr.rf)
  · unfold f_X7_kinds_b49
    dsimp only
    rw [if_pos (by decide)]
  · have hT2 : TR (mset m1 34 0 f (nI v)) (fset F 3 f v) := by
      have := TR_3 (f := f) (v := v) (hP.T hT)
      rw [mset_mset] at this
      exact this
    have hL2 : Laid (mset m1 34 0 f (nI v)) q fs hs := by
      have := LW (Or.inr (Or.inl rfl)) hP hL
      unfold Laid at this ⊢
      rw [mset_ne (by decide), mset_ne (by decide), mset_ne (by decide)]
      exact this
    have hRR2 : RR (mset m1 34 0 f (nI v)) rn rf rs := by
      have := RRW (Or.inr (Or.inl rfl)) hP hRR
      unfold RR at this ⊢
      rw [mset_ne (by decide), mset_ne (by decide), mset_ne (by decide)]
      exact this
    obtain ⟨m3, w1, w2⟩ := fits_r (rn := rn) (rf := rf) (rs := rs) hT2 (WC_3 hW (by omega)) hL2 hq hR hRR2 hr hv
    refine ⟨m3, ?_, fun next => ?_⟩
    · have := w2.w (t := 34) (i := 0) (j := f) (v := m 34 0 f)
      rw [mset_mset] at this
      exact hP.tr this
    have hlt : ¬ (3 : Int32) ≤ nI v := nI_ge (b := 3) (by omega) (by decide)
    unfold f_X7_kinds_b49 f_X7_kinds_j80
    dsimp only
    rw [if_neg hlt, if_pos b1, b2, w1, bnd_some, nI_1]
    exact or_if (nx := fun z => next (z, nI (v + 1), m3))
theorem dears_r {m : Mem} {q : Nat} {F : FdT} {fs hs : Nat → Nat} {rn : Nat} {rf rs : Nat → Nat} (hT : TR m F) (hW : WC F) (hL : Laid m q fs hs) (hq : q ≤ 20) (hR : ∀ p, p < q → fs p < F 0 0 ∧ hs p < 4) (hRR : RR m rn rf rs) (hr : rn ≤ 8) (hv : ∀ q, q < rn → rf q < F 0 0 ∧ rs q ≤ 99) (K : Int32 × Mem → Option (Int32 × Mem)) :
    ∃ m', RFr m (mset m' 30 0 6 (m 30 0 6)) ∧ lpk (f_X7_dears_b36 (m 30 0 6)) fuelN ((0 : Int32), (0 : Int32), m) K = K (foldS (fun acc v => bitS (fitB (fset F 1 0 v) fs hs q rn rf rs) acc v) 0 10 0, m') := by
  refine fold_lp (P := fun m' => RFr m (mset m' 30 0 6 (m 30 0 6))) (N := 10) (fun acc m next => ?_) (fun v acc m1 hv1 hP => ?_) 10 0 fuelN 0 m rfl (by decide) (by rw [mset_id rfl]; exact RFr.rf)
  · unfold f_X7_dears_b36
    dsimp only
    rw [if_pos (by decide)]
  · have hT2 : TR (mset m1 30 0 6 (nI v)) (fset F 1 0 v) := by
      have := TR_1 (v := v) (hP.T hT)
      rw [mset_mset] at this
      exact this
    have hL2 : Laid (mset m1 30 0 6 (nI v)) q fs hs := by
      have := hP.laid hL
      unfold Laid at this ⊢
      simpa [mset] using this
    have hRR2 : RR (mset m1 30 0 6 (nI v)) rn rf rs := by
      have : RR (mset m1 30 0 6 (m 30 0 6)) rn rf rs := by
        unfold RR at hRR ⊢
        rw [hP.1 47 (by decide) (by decide) (by decide), hP.1 48 (by decide) (by decide) (by decide), hP.2 32 (by decide)]
        exact hRR
      unfold RR at this ⊢
      simpa [mset] using this
    obtain ⟨m3, w1, w2⟩ := fits_r (rn := rn) (rf := rf) (rs := rs) hT2 (WC_1 hW (by omega)) hL2 hq hR hRR2 hr hv
    refine ⟨m3, ?_, fun next => ?_⟩
    · have := w2.w (t := 30) (i := 0) (j := 6) (v := m 30 0 6)
      rw [mset_mset] at this
      exact hP.tr this
    have hlt : ¬ (9 : Int32) < nI v := fun z => by have := (nI_ltI (a := 9) (by decide) (by omega)).mp z; omega
    unfold f_X7_dears_b36 f_X7_dears_j66
    dsimp only
    rw [if_neg hlt, w1, bnd_some, nI_1]
    exact or_if (nx := fun z => next (z, nI (v + 1), m3))
