/-! ===== odds ===== -/
def okB (F : FdT) (fs hs : Nat → Nat) (q : Nat) (v : Nat) : Bool := (walkS (fset F 2 0 v) fs hs q 0 (startS (fset F 2 0 v))).isLeft
def oneS (P : Nat → Bool) (acc : Int32) (v : Nat) : Int32 := if P v = true then acc + 1 else acc
theorem oneS_le {P : Nat → Bool} : ∀ k v c, ∃ d, d ≤ c + k ∧ foldS (oneS P) v k (nI c) = nI d
  | 0, v, c => ⟨c, by omega, rfl⟩
  | k + 1, v, c => by
    show ∃ d, d ≤ c + (k + 1) ∧ foldS (oneS P) (v + 1) k (oneS P (nI c) v) = nI d
    by_cases z : P v = true
    · obtain ⟨d, h1, h2⟩ := oneS_le (P := P) k (v + 1) (c + 1)
      exact ⟨d, by omega, by unfold oneS at h2 ⊢; rw [if_pos z, nI_1]; exact h2⟩
    · obtain ⟨d, h1, h2⟩ := oneS_le (P := P) k (v + 1) c
      exact ⟨d, by omega, by unfold oneS at h2 ⊢; rw [if_neg z]; exact h2⟩
theorem odds_c {m : Mem} {k a q la len : Nat} {c : Nat → Int32} {F : FdT} {fs hs : Nat → Nat} {y z7 : Int32} (hk : k < 4) (hq : q ≤ 20) (hW : WC F) (hT : TC m F) (hS : SC m k (some (la, len, c))) (hl : len ≤ 60) (hal : a + 2 * q ≤ len) (hR : Row F c a q fs hs) (K : Int32 × Mem → Option (Int64 × Mem)) :
    ∃ m', XF m m' ∧ lpk (f_X6_odds_b33 (nI k) (nI a) (nI q) y z7) fuelN ((0 : Int32), (0 : Int32), m) K = K (foldS (oneS (okB F fs hs q)) 0 64 0, m') := by
  have b3 : inB (nI k) 4 = true := inB_nI hk (by decide)
  have b4 : ix (nI k) = k := ix_nI (by omega)
  refine fold_lp (P := fun m' => XF m m') (N := 64) (fun acc m next => ?_) (fun v acc m1 hv1 hP => ?_) 64 0 fuelN 0 m rfl (by decide) XF.rf
  · unfold f_X6_odds_b33
    dsimp only
    rw [if_pos (by decide)]
  · obtain ⟨m2, s1, s2, s3⟩ := start_c 0 (TC_xf hP hT) hW
    have s4 : XF m1 (mset m2 7 0 10 (nI v)) := s2.set (by decide) (by decide)
    obtain ⟨m3, w1, w2, -⟩ := try_c (XR_2 (v := v) s3) (WC_2 hW hv1) (SC_xf s4 (SC_xf hP hS)) hl hal (hR.cg rfl)
    refine ⟨m3, hP.tr (s4.tr w2), fun next => ?_⟩
    have hlt : ¬ (64 : Int32) ≤ nI v := nI_ge (b := 64) (by omega) (by decide)
    unfold f_X6_odds_b33 f_X6_odds_j84
    dsimp only
    rw [if_neg hlt, s1, bnd_some, if_pos b3, b4, w1, bnd_some, nI_1]
    unfold oneS
    by_cases z : okB F fs hs q v = true
    · rw [if_pos ((wv_9 hq).mpr z), if_pos z]
    · rw [if_neg (fun y => z ((wv_9 hq).mp y)), if_neg z]
theorem odds_r {m : Mem} {q : Nat} {F : FdT} {fs hs : Nat → Nat} {y : Int32} (hT : TR m F) (hW : WC F) (hL : Laid m q fs hs) (hq : q ≤ 20) (hR : ∀ p, p < q → fs p < F 0 0 ∧ hs p < 4) (K : Int32 × Mem → Option (Int64 × Mem)) :
    ∃ m', RFr m (mset m' 30 0 8 (m 30 0 8)) ∧ lpk (f_X7_odds_b63 y (m 30 0 8)) fuelN ((0 : Int32), (0 : Int32), m) K = K (foldS (oneS (okB F fs hs q)) 0 64 0, m') := by
  refine fold_lp (P := fun m' => RFr m (mset m' 30 0 8 (m 30 0 8))) (N := 64) (fun acc m next => ?_) (fun v acc m1 hv1 hP => ?_) 64 0 fuelN 0 m rfl (by decide) (by rw [mset_id rfl]; exact RFr.rf)
  · unfold f_X7_odds_b63
    dsimp only
    rw [if_pos (by decide)]
  · have hT2 : TR (mset m1 30 0 8 (nI v)) (fset F 2 0 v) := by
      have := TR_2 (v := v) (hP.T hT)
      rw [mset_mset] at this
      exact this
    have hL2 : Laid (mset m1 30 0 8 (nI v)) q fs hs := by
      have := hP.laid hL
      unfold Laid at this ⊢
      simpa [mset] using this
    obtain ⟨m3, w1, w2, -⟩ := try_r hT2 (WC_2 hW hv1) hL2 hq hR
    refine ⟨m3, ?_, fun next => ?_⟩
    · have := w2.w (t := 30) (i := 0) (j := 8) (v := m 30 0 8)
      rw [mset_mset] at this
      exact hP.tr this
    have hlt : ¬ (64 : Int32) ≤ nI v := nI_ge (b := 64) (by omega) (by decide)
    unfold f_X7_odds_b63 f_X7_odds_j92
    dsimp only
    rw [if_neg hlt, w1, bnd_some, nI_1]
    unfold oneS
    by_cases z : okB F fs hs q v = true
    · rw [if_pos ((wv_9 hq).mpr z), if_pos z]
    · rw [if_neg (fun y => z ((wv_9 hq).mp y)), if_neg z, Int32.add_zero]
def hvN : Nat → Int32 → Int32 → Int32 → Option (Int32 × Int32)
  | 0, _, _, _ => none
  | n + 1, a, b, i => if (6 : Int32) ≤ i then some (a, b) else if a - a / 2 * 2 = 0 then hvN n (a / 2) (b / 2) (i + 1) else some (a, b)
theorem hv_lp {y : Int32} {m : Mem} {K : Int32 × Int32 × Mem → Option (Int64 × Mem)} {r : Int32 × Int32} : ∀ k n a b i, hvN k a b i = some r → k ≤ n → lpk (f_X6_odds_b93 y) n (a, b, i, m) K = K (r.1, r.2, m)
  | 0, n, a, b, i, h, _ => by cases h
  | k + 1, n, a, b, i, h, hn => by
    obtain ⟨n, rfl⟩ : ∃ n', n = n' + 1 := ⟨n - 1, by omega⟩
    have st : ∀ next, f_X6_odds_b93 y next K (a, b, i, m) = if (6 : Int32) ≤ i then K (a, b, m) else if a - a / 2 * 2 = 0 then next (a / 2, b / 2, i + 1, m) else K (a, b, m) := fun next => by
      have h2 : ¬ (2 : Int32) = 0 := by decide
      unfold f_X6_odds_b93
      dsimp only
      simp only [h2, not_false_eq_true, if_true, dv]
    rw [lpk_s, st]
    unfold hvN at h
    by_cases h1 : (6 : Int32) ≤ i
    · rw [if_pos h1] at h ⊢
      cases h; rfl
    · rw [if_neg h1] at h ⊢
      by_cases h2 : a - a / 2 * 2 = 0
      · rw [if_pos h2] at h ⊢
        exact hv_lp k n _ _ _ h (by omega)
      · rw [if_neg h2] at h ⊢
        cases h; rfl
def gcdN : Nat → Int64 → Int64 → Option Int64
  | 0, _, _ => none
  | n + 1, a, b => if lg_cmp b (0 : Int64) = 0 then some a else if ¬ b = 0 then gcdN n b (a - a / b * b) else none
theorem gcd_lp {x0 x2 : Int64} {x4 : Int32} {m : Mem} {K : Int64 × Mem → Option (Int64 × Mem)} {r : Int64} : ∀ k n a b, gcdN k a b = some r → k ≤ n → lpk (f_X7_inLeastTerms_b6 x0 x2 x4) n (a, b, m) K = K (r, m)
  | 0, n, a, b, h, _ => by cases h
  | k + 1, n, a, b, h, hn => by
    obtain ⟨n, rfl⟩ : ∃ n', n = n' + 1 := ⟨n - 1, by omega⟩
    have st : ∀ next, f_X7_inLeastTerms_b6 x0 x2 x4 next K (a, b, m) = if lg_cmp b (0 : Int64) = 0 then K (a, m) else if ¬ b = 0 then next (b, a - a / b * b, m) else none := fun next => by
      unfold f_X7_inLeastTerms_b6
      rfl
    rw [lpk_s, st]
    unfold gcdN at h
    by_cases h1 : lg_cmp b (0 : Int64) = 0
    · rw [if_pos h1] at h ⊢
      cases h; rfl
    · rw [if_neg h1] at h ⊢
      by_cases h2 : ¬ b = 0
      · rw [if_pos h2] at h ⊢
        exact gcd_lp k n _ _ h (by omega)
      · rw [if_neg h2] at h
        cases h
def oddB (c : Nat) : Bool := match hvN 8 (nI c) 64 0, gcdN 14 (nI c).toInt64 64 with
  | some r, some g => !(g == 0) && ((nI c).toInt64 / g == r.1.toInt64) && ((64 : Int64) / g == r.2.toInt64)
  | _, _ => false
theorem oddB_all : ∀ c, c < 65 → oddB c = true := by decide +kernel
theorem odd_at {c : Nat} (hc : c ≤ 64) : ∃ r g, hvN 8 (nI c) 64 0 = some r ∧ gcdN 14 (nI c).toInt64 64 = some g ∧ ¬ g = 0 ∧ (nI c).toInt64 / g = r.1.toInt64 ∧ (64 : Int64) / g = r.2.toInt64 := by
  have h := oddB_all c (by omega)
  unfold oddB at h
  cases e1 : hvN 8 (nI c) 64 0 with
  | none => rw [e1] at h; simp at h
  | some r =>
    cases e2 : gcdN 14 (nI c).toInt64 64 with
    | none => rw [e1, e2] at h; simp at h
    | some g =>
      rw [e1, e2] at h
      simp only [Bool.and_eq_true, Bool.not_eq_true', beq_eq_false_iff_ne, beq_iff_eq] at h
      exact ⟨r, g, rfl, rfl, h.1.1, h.1.2, h.2⟩
theorem a_odds (x1 x2 x3 x4 y : Int32) : Agree (f_X6_odds x1 x2 x3 x4 y) (f_X7_odds x1 x2 x3 x4 y) := agree_of (fun ft tr Sh F rn rf rs hv => by
  have hn := hv.2.1.1
  have hW := hv.2.1.wc
  obtain ⟨b, hb, g1, g2⟩ := rng_any y 0 1
  rcases refuse_head x1 x2 x4 with ⟨h1, h2⟩ | ⟨h1, h2, h3⟩ | ⟨k, la, q, hk, hla, hq, rfl, rfl, rfl, h1, h2, h3⟩
  · exact ⟨-9223372036854775808, 0, tr, Sh, F, rn, rf, rs, hv, fun m h => ⟨mset m 0 0 6 0, by simp [f_X6_odds, g1, h1, bnd], CI_ft h, fun t ht => mset_t ht (by decide)⟩, fun m h => ⟨mset m 30 0 0 0, by simp [f_X7_odds, h2, bnd], RI_ft h, fun t ht => mset_l ht (by decide)⟩⟩
  · exact ⟨-9223372036854775808, 0, tr, Sh, F, rn, rf, rs, hv, fun m h => ⟨mset m 0 0 6 0, by simp [f_X6_odds, g1, h1, bnd], CI_ft h, fun t ht => mset_t ht (by decide)⟩, fun m h => ⟨mset m 30 0 0 0, by simp [f_X7_odds, h2, h3, bnd], RI_ft h, fun t ht => mset_l ht (by decide)⟩⟩
  rcases hb with rfl | rfl
  · exact ⟨-9223372036854775808, 0, tr, Sh, F, rn, rf, rs, hv, fun m h => ⟨mset m 0 0 6 0, by simp [f_X6_odds, g1, h1, bnd], CI_ft h, fun t ht => mset_t ht (by decide)⟩, fun m h => ⟨mset m 30 0 0 0, by simp [f_X7_odds, h2, h3, g2, bnd], RI_ft h, fun t ht => mset_l ht (by decide)⟩⟩
  rcases lay_cases (ft := ft) (tr := tr) hv x3 hk hla hq with ⟨r, ft', hr, c1, c2⟩ | ⟨len, c, a, fs, hs, e, rfl, hal, hl, hF, hR, c1, c2⟩
  · refine ⟨-9223372036854775808, ft', tr, Sh, F, rn, rf, rs, hv, fun m h => ?_, fun m h => ?_⟩
    · obtain ⟨m1, e1, e2, e3⟩ := c1 m h
      refine ⟨m1, ?_, e2, e3⟩
      unfold f_X6_odds
      rw [g1, bnd_some, e1, bnd_some, if_neg hr]
    · obtain ⟨m1, e1, e2, e3⟩ := c2 _ (RI_ft h)
      refine ⟨m1, ?_, e2, fun t ht => by rw [e3 t ht, mset_l ht (by decide)]⟩
      unfold f_X7_odds
      rw [h2, bnd_some, if_neg (by decide), h3, bnd_some, if_neg (by decide), g2, bnd_some, if_neg (by decide), e1, bnd_some, if_neg hr]
  obtain ⟨d, hd, ed⟩ := oneS_le (P := okB F fs hs q) 64 0 0
  obtain ⟨r, g, o1, o2, o3, o4, o5⟩ := odd_at (c := d) (by omega)
  have ed' : foldS (oneS (okB F fs hs q)) 0 64 0 = nI d := ed
  refine ⟨if y = 0 then r.1.toInt64 else r.2.toInt64, 0, tr, Sh, F, rn, rf, rs, hv, fun m h => ?_, fun m h => ?_⟩
  · have h0 := CI_ft (ft' := 0) h
    have hS := h0.2.2.1 k hk
    rw [e] at hS
    obtain ⟨m', w1, w2⟩ := odds_c (y := y) (z7 := 64) hk hq hW h0.2.2.2.1 hS hl hal hR (fun t33 => lpk (f_X6_odds_b93 y) fuelN (t33.1, (64 : Int32), (0 : Int32), t33.2) (fun t93 => if y = 0 then some (t93.1.toInt64, t93.2.2) else some (t93.2.1.toInt64, t93.2.2)))
    refine ⟨m', ?_, w1.ci h0, fun t ht => by rw [w1 t (by omega), mset_t ht (by decide)]⟩
    unfold f_X6_odds
    rw [g1, bnd_some, c1 m h, bnd_some, if_pos rfl, w2, ed']
    rw [hv_lp 8 fuelN _ _ _ o1 (by decide)]
    by_cases z : y = 0
    · rw [if_pos z, if_pos z]
    · rw [if_neg z, if_neg z]
  · obtain ⟨m1, e1, e2, e3, e4⟩ := c2 _ (RI_ft h)
    obtain ⟨m', w1, w2⟩ := odds_r (y := y) e2.2.2.2.1 hW e3 hq (fun p hp => ⟨(hR p hp).1, (hR p hp).2.1⟩) (fun t63 => bnd (f_X7_inLeastTerms t63.1.toInt64 (64 : Int64) y (mset t63.2 30 0 8 (m1 30 0 8))) (fun r115 m115 => some (r115, m115)))
    refine ⟨_, ?_, w1.ri e2, fun t ht => by rw [w1.lo ht, e4 t ht, mset_l ht (by decide)]⟩
    unfold f_X7_odds
    rw [h2, bnd_some, if_neg (by decide), h3, bnd_some, if_neg (by decide), g2, bnd_some, if_neg (by decide), e1, bnd_some, if_pos rfl, w2, ed']
    unfold f_X7_inLeastTerms
    dsimp only
    rw [gcd_lp 14 fuelN _ _ o2 (by decide)]
    dsimp only
    by_cases z : y = 0
    · rw [if_pos z, if_pos z, if_pos o3, ← o4]
      rfl
    · rw [if_neg z, if_neg z, if_pos o3, ← o5]
      rfl)
