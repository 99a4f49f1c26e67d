/-! ===== wants ===== -/
def firstS (P : Nat → Bool) : Nat → Nat → Int32
  | _, 0 => -9
  | v, k + 1 => if P v = true then nI v else firstS P (v + 1) k
theorem firstS_s {P : Nat → Bool} {v k : Nat} : firstS P v (k + 1) = if P v = true then nI v else firstS P (v + 1) k := rfl
def moreB (F : FdT) (fs hs : Nat → Nat) (q f : Nat) (v : Nat) : Bool := (walkS (fset F 5 f (F 5 f + v)) fs hs q 0 (startS (fset F 5 f (F 5 f + v)))).isLeft
theorem wants_c {m0 : Mem} {f k a q la len : Nat} {c : Nat → Int32} {F : FdT} {fs hs : Nat → Nat} (hf : f < F 0 0) (hk : k < 4) (hq : q ≤ 20) (hF : WF F) (hT : TC m0 F) (hS : SC m0 k (some (la, len, c))) (hl : len ≤ 60) (hal : a + 2 * q ≤ len) (hR : Row F c a q fs hs) :
    ∀ t v n m, v + t = 100 → t < n → XF m0 m → ∃ m', XF m0 m' ∧ lpk (f_X6_wants_b24 (nI f) (nI k) (nI a) (nI q)) n (nI v, m) (fun t24 => some ((-9 : Int32), t24)) = some (firstS (moreB F fs hs q f) v t, m') := by
  have hW := hF.wc
  obtain ⟨b1, b2⟩ := i5 hf hW.1
  have b3 : inB (nI k) 4 = true := inB_nI hk (by decide)
  have b4 : ix (nI k) = k := ix_nI (by omega)
  intro t
  induction t with
  | zero =>
    intro v n m hv hn hX
    obtain ⟨n, rfl⟩ : ∃ n', n = n' + 1 := ⟨n - 1, by omega⟩
    have e : v = 100 := by omega
    subst e
    refine ⟨m, hX, ?_⟩
    rw [lpk_s]
    unfold f_X6_wants_b24
    dsimp only
    rw [if_pos (by decide)]
    rfl
  | succ t ih =>
    intro v n m hv hn hX
    obtain ⟨n, rfl⟩ : ∃ n', n = n' + 1 := ⟨n - 1, by omega⟩
    obtain ⟨m2, s1, s2, s3⟩ := start_c 0 (TC_xf hX hT) hW
    have h99 := (hF.2.2.2 f hf).2.2.2.1
    have p3 : m2 10 0 f = nI (F 5 f) := by
      rw [(s3.2.2.2.2.2.2 f hf).2.2.1]
      simp [startS, hf]
    have s4 : XF m (mset m2 10 0 f (nI (F 5 f + v))) := s2.set (by decide) (by decide)
    obtain ⟨m3, w1, w2, -⟩ := try_c (XR_5 (v := F 5 f + v) s3 hf) (WC_5 hW (by omega)) (SC_xf s4 (SC_xf hX hS)) hl hal (hR.cg rfl)
    have hlt : ¬ (99 : Int32) < nI v := fun z => by have := (nI_ltI (a := 99) (by decide) (by omega)).mp z; omega
    have st : ∀ next exit, f_X6_wants_b24 (nI f) (nI k) (nI a) (nI q) next exit (nI v, m) = if wv (walkS (fset F 5 f (F 5 f + v)) fs hs q 0 (startS (fset F 5 f (F 5 f + v)))) = -9 then some (nI v, m3) else next (nI (v + 1), m3) := fun next exit => by
      unfold f_X6_wants_b24
      dsimp only
      rw [if_neg hlt, s1, bnd_some, if_pos b1, if_pos b1, if_pos b3, b2, b4, p3, nI_add, w1, bnd_some, nI_1]
    rw [lpk_s, st, firstS_s]
    by_cases z : moreB F fs hs q f v = true
    · exact ⟨m3, hX.tr (s4.tr w2), by rw [if_pos ((wv_9 hq).mpr z), if_pos z]⟩
    · obtain ⟨m', e1, e2⟩ := ih (v + 1) n m3 (by omega) (by omega) (hX.tr (s4.tr w2))
      exact ⟨m', e1, by rw [if_neg (fun y => z ((wv_9 hq).mp y)), if_neg z]; exact e2⟩
theorem wants_r {m0 : Mem} {f q : Nat} {F : FdT} {fs hs : Nat → Nat} (hf : f < F 0 0) (hT : TR m0 F) (hF : WF F) (hL : Laid m0 q fs hs) (hq : q ≤ 20) (hR : ∀ p, p < q → fs p < F 0 0 ∧ hs p < 4) (K : Int32 × Mem → Option (Int32 × Mem)) :
    ∀ t v n m, v + t = 100 → t < n → RFr m0 (mset m 36 0 f (nI (F 5 f))) → ∃ m', RFr m0 (mset m' 36 0 f (nI (F 5 f))) ∧ lpk (f_X7_wants_b69 (nI f) (nI (F 5 f))) n ((-9 : Int32), nI v, m) K = K (firstS (moreB F fs hs q f) v t, m') := by
  have hW := hF.wc
  obtain ⟨b1, b2⟩ := i5 hf hW.1
  intro t
  induction t with
  | zero =>
    intro v n m hv hn hX
    obtain ⟨n, rfl⟩ : ∃ n', n = n' + 1 := ⟨n - 1, by omega⟩
    have e : v = 100 := by omega
    subst e
    refine ⟨m, hX, ?_⟩
    rw [lpk_s]
    unfold f_X7_wants_b69
    dsimp only
    rw [if_pos (by decide)]
    rfl
  | succ t ih =>
    intro v n m hv hn hP
    obtain ⟨n, rfl⟩ : ∃ n', n = n' + 1 := ⟨n - 1, by omega⟩
    have h99 := (hF.2.2.2 f hf).2.2.2.1
    have hT2 : TR (mset m 36 0 f (nI (F 5 f + v))) (fset F 5 f (F 5 f + v)) := by
      have := TR_5 (f := f) (v := F 5 f + v) (hP.T hT)
      rw [mset_mset] at this
      exact this
    have hL2 : Laid (mset m 36 0 f (nI (F 5 f + v))) q fs hs := by
      have := LW (Or.inr (Or.inr rfl)) hP hL
      unfold Laid at this ⊢
      rw [mset_ne (by decide), mset_ne (by decide), mset_ne (by decide)]
      exact this
    obtain ⟨m3, w1, w2, -⟩ := try_r hT2 (WC_5 hW (by omega)) hL2 hq hR
    have hP3 : RFr m0 (mset m3 36 0 f (nI (F 5 f))) := by
      have := w2.w (t := 36) (i := 0) (j := f) (v := nI (F 5 f))
      rw [mset_mset] at this
      exact hP.tr this
    have hlt : ¬ (99 : Int32) < nI v := fun z => by have := (nI_ltI (a := 99) (by decide) (by omega)).mp z; omega
    have st : ∀ next exit, f_X7_wants_b69 (nI f) (nI (F 5 f)) next exit ((-9 : Int32), nI v, m) = if wv (walkS (fset F 5 f (F 5 f + v)) fs hs q 0 (startS (fset F 5 f (F 5 f + v)))) = -9 then next (nI v, nI (v + 1), m3) else next ((-9 : Int32), nI (v + 1), m3) := fun next exit => by
      unfold f_X7_wants_b69 f_X7_wants_j110
      dsimp only
      rw [if_neg hlt, if_pos rfl, if_pos b1, b2, nI_add, w1, bnd_some, nI_1]
    rw [lpk_s, st, firstS_s]
    by_cases z : moreB F fs hs q f v = true
    · refine ⟨m3, hP3, ?_⟩
      rw [if_pos ((wv_9 hq).mpr z), if_pos z]
      obtain ⟨n, rfl⟩ : ∃ n', n = n' + 1 := ⟨n - 1, by omega⟩
      have h9 : ¬ nI v = -9 := fun y => absurd (y ▸ nI_pos (show v < 2 ^ 31 by omega)) (by decide)
      rw [lpk_s]
      unfold f_X7_wants_b69
      dsimp only
      by_cases y : (99 : Int32) < nI (v + 1)
      · rw [if_pos y]
      · rw [if_neg y, if_neg h9]
    · obtain ⟨m', e1, e2⟩ := ih (v + 1) n m3 (by omega) (by omega) hP3
      exact ⟨m', e1, by rw [if_neg (fun y => z ((wv_9 hq).mp y)), if_neg z]; exact e2⟩
theorem a_wants (x1 x2 x3 x4 x5 : Int32) : Agree (f_X6_wants x1 x2 x3 x4 x5) (f_X7_wants x1 x2 x3 x4 x5) := agree_of (fun ft tr Sh F rn rf rs hv => by
  have hn := hv.2.1.1
  have hW := hv.2.1.wc
  rcases fish_cases x1 (n := F 0 0) (by omega) with ⟨h1, h2, -⟩ | ⟨f, hf, rfl, h1, h2⟩
  · exact ⟨-1, 0, tr, Sh, F, rn, rf, rs, hv, fun m h => ⟨mset m 0 0 6 0, by simp [f_X6_wants, f_X6_refusalWithFish, f_X6_unknownFish, h1 m h.2.2.2.1.1, bnd], CI_ft h, fun t ht => mset_t ht (by decide)⟩, fun m h => ⟨mset m 30 0 0 0, by simp [f_X7_wants, h2 _ (RI_ft (ft' := 0) h).2.2.2.1.1, bnd], RI_ft h, fun t ht => mset_l ht (by decide)⟩⟩
  obtain ⟨b1, b2⟩ := i5 hf hn
  have rl : ∀ m, RI m ft tr Sh F rn rf rs → f_X7_wants (nI f) x2 x3 x4 x5 m = bnd (f_X7_lay x2 x3 x4 x5 (mset m 30 0 0 0)) (fun r41 m41 => if r41 = 0 then
                    lpk (f_X7_wants_b69 (nI f) (m41 36 0 f)) fuelN ((-9 : Int32), (0 : Int32), m41) (fun t69 =>
                        some (t69.1, (mset t69.2 36 0 f (m41 36 0 f))))
                else
                  some (r41, m41)) := fun m h => by
    unfold f_X7_wants f_X7_lay
    rw [h2 _ (RI_ft (ft' := 0) h).2.2.2.1.1, bnd_some, if_neg (by decide)]
    simp only [b1, b2, if_true]
    rcases refuse_head x2 x3 x5 with ⟨g1, g2⟩ | ⟨g1, g2, g3⟩ | ⟨_, _, _, _, _, _, _, _, _, g1, g2, g3⟩
    · simp [g2, bnd]
    · simp [g2, g3, bnd]
    · rw [g2, bnd_some, bnd_some, if_neg (by decide), if_neg (by decide), g3, bnd_some, bnd_some, if_neg (by decide), if_neg (by decide)]
      cases f_X7_layPasses x2 x3 x4 x5 (mset m 30 0 0 0) <;> rfl
  rcases lay_all (ft := ft) (tr := tr) hv x2 x3 x4 x5 with ⟨r, ft', hr, c1, c2⟩ | ⟨k, la, q, len, c, a, fs, hs, hk, hq, rfl, rfl, rfl, e, hal, hl, hF, hR, c1, c2⟩
  · refine ⟨r, ft', tr, Sh, F, rn, rf, rs, hv, fun m h => ?_, fun m h => ?_⟩
    · obtain ⟨m1, e1, e2, e3⟩ := c1 m h
      refine ⟨m1, ?_, e2, e3⟩
      unfold f_X6_wants f_X6_refusalWithFish
      rw [h1 m h.2.2.2.1.1, bnd_some, if_neg (by decide), e1, bnd_some, bnd_some, if_neg hr]
    · obtain ⟨m1, e1, e2, e3⟩ := c2 _ (RI_ft h)
      refine ⟨m1, ?_, e2, fun t ht => by rw [e3 t ht, mset_l ht (by decide)]⟩
      rw [rl m h, e1, bnd_some, if_neg hr]
  refine ⟨firstS (moreB F fs hs q f) 0 100, 0, tr, Sh, F, rn, rf, rs, hv, fun m h => ?_, fun m h => ?_⟩
  · have h0 := CI_ft (ft' := 0) h
    have hS := h0.2.2.1 k hk
    rw [e] at hS
    obtain ⟨m', w1, w2⟩ := wants_c hf hk hq hv.2.1 h0.2.2.2.1 hS hl hal hR 100 0 fuelN _ rfl (by decide) XF.rf
    refine ⟨m', ?_, w1.ci h0, fun t ht => by rw [w1 t (by omega), mset_t ht (by decide)]⟩
    unfold f_X6_wants f_X6_refusalWithFish
    rw [h1 m h.2.2.2.1.1, bnd_some, if_neg (by decide), c1 m h, bnd_some, bnd_some, if_pos rfl]
    exact w2
  · obtain ⟨m1, e1, e2, e3, e4⟩ := c2 _ (RI_ft h)
    have ho : m1 36 0 f = nI (F 5 f) := (e2.2.2.2.1.2.2.2.2 f hf).2.2.1
    obtain ⟨m', w1, w2⟩ := wants_r hf e2.2.2.2.1 hv.2.1 e3 hq (fun p hp => ⟨(hR p hp).1, (hR p hp).2.1⟩) (fun t69 => some (t69.1, (mset t69.2 36 0 f (m1 36 0 f)))) 100 0 fuelN m1 rfl (by decide) (by rw [mset_id ho]; exact RFr.rf)
    refine ⟨mset m' 36 0 f (m1 36 0 f), ?_, ?_, fun t ht => ?_⟩
    · rw [rl m h, e1, bnd_some, if_pos rfl]
      rw [ho] at w2 ⊢
      exact w2
    · rw [ho]; exact w1.ri e2
    · rw [ho, w1.lo ht, e4 t ht, mset_l ht (by decide)])
