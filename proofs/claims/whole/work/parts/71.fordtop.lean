theorem sheet_neg {Sh : ShT} {k la : Nat} (x y : Int32) (hy : y < 0) (hk : k < 4) (hla : la < 3) (hv : SV (Sh k)) :
    ∃ v, (v = 1 ∨ v = 2 ∨ v = 4) ∧ (∀ m, SC m k (Sh k) → f_X4_faultAt k (nI la) x y m = some (nI v, m)) ∧ ∀ m, SR m k (Sh k) → f_X7_against (nI k) (nI la) x y m = some (nI v, m) := by
  have b1 : inB (nI k) 4 = true := inB_nI hk (by decide)
  have b2 : ix (nI k) = k := ix_nI (by omega)
  have hn0 : ¬ (0 : Int32) ≤ y := fun q => by
    rw [Int32.le_iff_toInt_le] at q
    rw [Int32.lt_iff_toInt_lt] at hy
    omega
  have n4 : nI 4 = 4 := rfl
  cases hs : Sh k with
  | none =>
    refine ⟨1, Or.inl rfl, fun m h => ?_, fun m h => ?_⟩
    · simp [f_X4_faultAt, show m 2 k 1 = 0 from h, nI_1']
    · simp [f_X7_against, f_X7_against_j23, b1, b2, show m 31 0 k = -9 from h, nI_1']
  | some z =>
    obtain ⟨ln, len, c⟩ := z
    rw [hs] at hv
    obtain ⟨v1, v2⟩ := hv
    dsimp only at v1 v2
    have h9 : ¬ nI ln = -9 := m9 (k := ln) (by omega)
    by_cases hl : ln = la
    · subst hl
      refine ⟨4, Or.inr (Or.inr rfl), fun m h => ?_, fun m h => ?_⟩
      · obtain ⟨s1, s2, s3, -⟩ := h
        dsimp only at s2 s3
        simp [f_X4_faultAt, s1, s2, hn0, n4]
      · obtain ⟨s1, s2, -⟩ := h
        dsimp only at s1 s2
        simp [f_X7_against, f_X7_against_j23, b1, b2, s1, h9, hn0, n4]
    · have hl' : ¬ nI ln = nI la := fun q => hl ((nI_eq (by omega) (by omega)).mp q)
      refine ⟨2, Or.inr (Or.inl rfl), fun m h => ?_, fun m h => ?_⟩
      · obtain ⟨s1, s2, s3, -⟩ := h
        dsimp only at s2 s3
        simp [f_X4_faultAt, s1, s2, hl', nI_2']
      · obtain ⟨s1, s2, -⟩ := h
        dsimp only at s1 s2
        simp [f_X7_against, b1, b2, s1, h9, hl', nI_2']
theorem sheet_any {Sh : ShT} {k la : Nat} (x y : Int32) (hk : k < 4) (hla : la < 3) (hv : SV (Sh k)) :
    (∃ v, (v = 1 ∨ v = 2 ∨ v = 3 ∨ v = 4) ∧ (∀ m, SC m k (Sh k) → f_X4_faultAt k (nI la) x y m = some (nI v, m)) ∧ ∀ m, SR m k (Sh k) → f_X7_against (nI k) (nI la) x y m = some (nI v, m)) ∨
    (∃ len c a n, Sh k = some (la, len, c) ∧ x = nI a ∧ y = nI n ∧ a + n ≤ len ∧ len ≤ 60 ∧ (∀ m, SC m k (Sh k) → f_X4_faultAt k (nI la) x y m = some (0, m)) ∧ ∀ m, SR m k (Sh k) → f_X7_against (nI k) (nI la) x y m = some (0, m)) := by
  by_cases hy : y < 0
  · obtain ⟨v, h, h1, h2⟩ := sheet_neg x y hy hk hla hv
    exact Or.inl ⟨v, by omega, h1, h2⟩
  · obtain ⟨n, hn, rfl⟩ := nI_of hy
    rcases sheet_row x hk hla hn hv with ⟨v, h, h1, h2⟩ | ⟨len, c, a, h⟩
    · exact Or.inl ⟨v, by omega, h1, h2⟩
    · exact Or.inr ⟨len, c, a, n, h.1, h.2.1, rfl, h.2.2.1, h.2.2.2.1, h.2.2.2.2.1, h.2.2.2.2.2⟩
theorem RG.ri {m m' : Mem} {ft tr : Int32} {Sh : ShT} {F : FdT} {rn : Nat} {rf rs : Nat → Nat} (h : RG m m') (hi : RI m ft tr Sh F rn rf rs) : RI m' ft tr Sh F rn rf rs := by
  obtain ⟨h1, h2, h3, h4, h5⟩ := hi
  exact ⟨by rw [h.2 0 (by decide)]; exact h1, by rw [h.2 1 (by decide)]; exact h2, SR_cong (h.1 31 (by decide) (by decide)) (h.1 32 (by decide) (by decide)) (h.1 33 (by decide) (by decide)) h3, TR_cong (h.2 5 (by decide)) (h.2 6 (by decide)) (h.2 7 (by decide)) (h.2 8 (by decide)) (h.1 34 (by decide) (by decide)) (h.1 35 (by decide) (by decide)) (h.1 36 (by decide) (by decide)) (h.1 37 (by decide) (by decide)) (h.1 38 (by decide) (by decide)) h4, RR_cong (h.2 32 (by decide)) (h.1 47 (by decide) (by decide)) (h.1 48 (by decide) (by decide)) h5⟩
theorem a_ford (x1 x2 x3 x4 : Int32) : Agree (f_X6_ford x1 x2 x3 x4) (f_X7_ford x1 x2 x3 x4) := agree_of (fun ft tr Sh F rn rf rs hv => by
  rcases sheet_cases x1 with ⟨h1, h2⟩ | ⟨k, hk, rfl, h1, h2⟩
  · exact ⟨-1, 0, tr, Sh, F, rn, rf, rs, hv, fun m h => ⟨mset m 0 0 6 0, by simp [f_X6_ford, h1, bnd], CI_ft h, fun t ht => mset_t ht (by decide)⟩, fun m h => ⟨mset m 30 0 0 0, by simp [f_X7_ford, h2, bnd], RI_ft h, fun t ht => mset_l ht (by decide)⟩⟩
  rcases lane_cases x2 with ⟨l1, l2⟩ | ⟨la, hla, rfl, l1, l2⟩
  · exact ⟨-2, 0, tr, Sh, F, rn, rf, rs, hv, fun m h => ⟨mset m 0 0 6 0, by simp [f_X6_ford, h1, l1, bnd], CI_ft h, fun t ht => mset_t ht (by decide)⟩, fun m h => ⟨mset m 30 0 0 0, by simp [f_X7_ford, h2, l2, bnd], RI_ft h, fun t ht => mset_l ht (by decide)⟩⟩
  have b1 : inB (nI k) 4 = true := inB_nI hk (by decide)
  have b2 : ix (nI k) = k := ix_nI (by omega)
  rcases sheet_any x3 x4 hk hla (hv.1 k hk) with ⟨v, hv4, f1, f2⟩ | ⟨len, c, a, n, e, rfl, rfl, hal, hl, f1, f2⟩
  · have hv0 : ¬ nI v = 0 := fun z => by have := (nI_z (by omega)).mp z; omega
    refine ⟨-10 - nI v, nI v, tr, Sh, F, rn, rf, rs, hv, fun m h => ⟨mset (mset m 0 0 6 0) 0 0 6 (nI v), ?_, CI_ft (CI_ft h), fun t ht => by rw [mset_t ht (by decide), mset_t ht (by decide)]⟩, fun m h => ⟨mset (mset m 30 0 0 0) 30 0 0 (nI v), ?_, RI_ft (RI_ft h), fun t ht => by rw [mset_l ht (by decide), mset_l ht (by decide)]⟩⟩
    · unfold f_X6_ford
      rw [h1, bnd_some, if_neg (by decide), l1, bnd_some, if_neg (by decide), if_pos b1, b2, f1 _ ((CI_ft h).2.2.1 k hk), bnd_some, if_neg hv0]
      rfl
    · unfold f_X7_ford
      rw [h2, bnd_some, if_neg (by decide), l2, bnd_some, if_neg (by decide), f2 _ ((RI_ft h).2.2.1 k hk), bnd_some, if_neg hv0]
      rfl
  have hB : (60 : Int32) * nI k + nI a = nI (60 * k + a) := nI_cell k a
  have hBE : (60 : Int32) * nI k + nI a + nI n = nI (60 * k + a + n) := by rw [hB, nI_add]
  have cl : ∀ m, CI m ft tr Sh F rn rf rs → f_X6_ford (nI k) (nI la) (nI a) (nI n) m = bnd (f_X6_firstFault k (nI a) (nI n) (mset m 0 0 6 0)) (fun r60 m60 => if r60 = (-9 : Int32) then bnd (f_X5_take k (nI a) (nI n) m60) (fun _ m87 => bnd (f_X3_forget (mset m87 20 0 2 (0 : Int32))) (fun _ m102 => some ((m102 4 0 1), m102))) else some (((-100 : Int32) - r60), m60)) := fun m h => by
    unfold f_X6_ford
    rw [h1, bnd_some, if_neg (by decide), l1, bnd_some, if_neg (by decide), if_pos b1, b2, f1 _ ((CI_ft h).2.2.1 k hk), bnd_some, if_pos rfl]
  have hSC : ∀ m, CI m ft tr Sh F rn rf rs → SC (mset m 0 0 6 0) k (some (la, len, c)) := fun m h => by
    have := (CI_ft (ft' := 0) h).2.2.1 k hk
    rw [e] at this
    exact this
  have rl : ∀ m, RI m ft tr Sh F rn rf rs → f_X7_ford (nI k) (nI la) (nI a) (nI n) m = bnd (f_X7_readFord (nI (60 * k + a + n)) (mset (mset m 30 0 0 0) 30 0 14 (nI (60 * k + a)))) (fun r67 m67 =>
                if r67 = 0 then
                  some (((-100 : Int32) - ((m67 30 0 14) - nI (60 * k + a))), m67)
                else
                  lpk (f_X7_ford_b108) fuelN ((0 : Int32), (mset (mset (mset m67 30 0 5 (1 : Int32)) 30 0 6 ((mset m67 30 0 5 (1 : Int32)) 30 0 15)) 30 0 7 ((mset (mset m67 30 0 5 (1 : Int32)) 30 0 6 ((mset m67 30 0 5 (1 : Int32)) 30 0 15)) 30 0 16))) (fun t108 =>
                    some (((mset (mset t108 30 0 8 (0 : Int32)) 30 0 32 (0 : Int32)) 30 0 7), (mset (mset t108 30 0 8 (0 : Int32)) 30 0 32 (0 : Int32))))) := fun m h => by
    unfold f_X7_ford
    rw [h2, bnd_some, if_neg (by decide), l2, bnd_some, if_neg (by decide), f2 _ ((RI_ft h).2.2.1 k hk), bnd_some, if_pos rfl, hBE, hB]
  have rd : ∀ m, RI m ft tr Sh F rn rf rs → _ := fun m h => readFord_r (c := c) (a := a) (B := 60 * k + a) (n := n) (m := mset (mset m 30 0 0 0) 30 0 14 (nI (60 * k + a))) (by omega) (by omega) (fun i hi => by
    have := (RI_ft (ft' := 0) h).2.2.1 k hk
    rw [e] at this
    rw [mset_ne (by decide), Nat.add_assoc]
    exact this.2.2 _ (by omega)) (by simp [mset])
  rcases stop_or c a n with ⟨J, j1, j2, j3, j4⟩ | ⟨i, hi⟩
  · subst j3
    refine ⟨nI J, 0, tr, Sh, fordF c a J, 0, rf, rs, ⟨hv.1, fordF_WF j2 j1 j4, by decide, fun q hq => by omega⟩, fun m h => ?_, fun m h => ?_⟩
    · have h0 := CI_ft (ft' := 0) h
      obtain ⟨m', t1, t2, t3⟩ := take_c (hSC m h) hl hal j2 j1 j4
      have ff := ff_end (hSC m h) hl hal j4
      rw [if_pos ⟨by omega, by omega⟩] at ff
      refine ⟨mset (mset m' 20 0 2 0) 17 0 3 0, ?_, ⟨?_, ?_, ?_, ?_, ?_, ?_⟩, fun t ht => by rw [mset_t ht (by decide), mset_t ht (by decide), t2 t (by omega) (by omega), mset_t ht (by decide)]⟩
      · rw [cl m h, ff, bnd_some, if_pos rfl, t1, bnd_some]
        unfold f_X3_forget
        rw [bnd_some]
        have : mset (mset m' 20 0 2 0) 17 0 3 0 4 0 1 = nI J := by rw [mset_ne (by decide), mset_ne (by decide)]; exact t3.1
        rw [this]
      · rw [mset_ne (by decide), mset_ne (by decide), t2 0 (by decide) (by decide)]; exact h0.1
      · rw [mset_ne (by decide), mset_ne (by decide), t2 0 (by decide) (by decide)]; exact h0.2.1
      · exact SC_cong (by rw [mset_ne (by decide), mset_ne (by decide), t2 2 (by decide) (by decide)]) (by rw [mset_ne (by decide), mset_ne (by decide), t2 3 (by decide) (by decide)]) h0.2.2.1
      · exact TC_cong (by rw [mset_ne (by decide), mset_ne (by decide)]) (by rw [mset_ne (by decide), mset_ne (by decide)]) t3
      · exact ⟨by rw [mset_ne (by decide)]; simp [mset, nI_0], fun q hq => by omega⟩
      · exact Or.inl (by simp [mset])
    · have h0 := RI_ft (ft' := 0) h
      obtain ⟨m1, g1, g2⟩ := rd m h
      rcases g2 with ⟨g2, J', q1, q2, q3, q4, q5, q6, q7⟩ | ⟨g2, i, hs, -⟩
      case inr => exact absurd (hs.not j1 rfl j4) id
      have eJ : J' = J := by omega
      subst eJ
      have hVx : Vals c a (mset (mset (mset m1 30 0 5 (1 : Int32)) 30 0 6 ((mset m1 30 0 5 (1 : Int32)) 30 0 15)) 30 0 7 ((mset (mset m1 30 0 5 (1 : Int32)) 30 0 6 ((mset m1 30 0 5 (1 : Int32)) 30 0 15)) 30 0 16)) J' := fun f hf => by
        have := q7 f hf
        rw [mset_ne (by decide), mset_ne (by decide), mset_ne (by decide)]
        exact this
      obtain ⟨m2, p1, p2, p3⟩ := put_r (c := c) (a := a) q2 j4 hVx (by simp [mset, q6]) (fun t108 => some (((mset (mset t108 30 0 8 (0 : Int32)) 30 0 32 (0 : Int32)) 30 0 7), (mset (mset t108 30 0 8 (0 : Int32)) 30 0 32 (0 : Int32))))
      have hGi : RI m1 0 tr Sh F rn rf rs := g1.ri (by
        obtain ⟨u1, u2, u3, u4, u5⟩ := h0
        exact ⟨by simpa [mset] using u1, by simpa [mset] using u2, SR_cong (mset_ne (by decide)) (mset_ne (by decide)) (mset_ne (by decide)) u3, TR_f (by decide) u4, RR_cong (by simp [mset]) (mset_ne (by decide)) (mset_ne (by decide)) u5⟩)
      have e30 := p2 30 (by decide)
      refine ⟨mset (mset m2 30 0 8 0) 30 0 32 0, ?_, ⟨?_, ?_, ?_, ?_, ?_⟩, fun t ht => ?_⟩
      · rw [rl m h, g2, bnd_some, if_neg (by decide), p1]
        have : mset (mset m2 30 0 8 (0 : Int32)) 30 0 32 (0 : Int32) 30 0 7 = nI J' := by
          simp [mset, e30, q6]
        rw [this]
      · have := hGi.1
        simpa [mset, e30] using this
      · have := hGi.2.1
        simpa [mset, e30] using this
      · exact SR_cong (by rw [mset_ne (by decide), mset_ne (by decide), p2 31 (by decide), mset_ne (by decide), mset_ne (by decide), mset_ne (by decide)]) (by rw [mset_ne (by decide), mset_ne (by decide), p2 32 (by decide), mset_ne (by decide), mset_ne (by decide), mset_ne (by decide)]) (by rw [mset_ne (by decide), mset_ne (by decide), p2 33 (by decide), mset_ne (by decide), mset_ne (by decide), mset_ne (by decide)]) hGi.2.2.1
      · have hJ0 : ¬ J' = 0 := by omega
        refine ⟨by simp [mset, e30, q6, fordF], by simp [mset, e30, q5, fordF], by simp [mset, fordF, nI_0], by simp [mset, e30, fordF, hJ0], fun f hf => ?_⟩
        have := p3 f hf
        unfold PtF at this
        simpa [mset] using this
      · exact ⟨by simp [mset, nI_0], fun q hq => by omega⟩
      · rw [mset_l ht (by decide), mset_l ht (by decide), p2 t (by omega), mset_l ht (by decide), mset_l ht (by decide), mset_l ht (by decide), g1.1 t (by omega) (by omega), mset_l ht (by decide), mset_l ht (by decide)]
  · refine ⟨-100 - nI i, 0, tr, Sh, F, rn, rf, rs, hv, fun m h => ?_, fun m h => ?_⟩
    · refine ⟨mset m 0 0 6 0, ?_, CI_ft h, fun t ht => mset_t ht (by decide)⟩
      have h9 : ¬ nI i = -9 := fun y => absurd (y ▸ nI_pos (show i < 2 ^ 31 by have := hi.2.1; omega)) (by decide)
      have ff : f_X6_firstFault k (nI a) (nI n) (mset m 0 0 6 0) = some (nI i, mset m 0 0 6 0) := by
        by_cases q : i < n
        · exact ff_bad (hSC m h) hl hal q hi.1 (hi.2.2.1 q)
        · have en : i = n := by have := hi.2.1; omega
          subst en
          have := ff_end (hSC m h) hl hal hi.1
          rw [if_neg (hi.2.2.2 rfl)] at this
          exact this
      rw [cl m h, ff, bnd_some, if_neg h9]
    · obtain ⟨m1, g1, g2⟩ := rd m h
      rcases g2 with ⟨g2, J', q1, q2, q3, q4, -⟩ | ⟨g2, i', hs, hpos⟩
      · exact absurd (hi.not q1 q3 q4) id
      have ei : i' = i := hs.uniq hi
      subst ei
      refine ⟨m1, ?_, g1.ri ?_, fun t ht => by rw [g1.1 t (by omega) (by omega), mset_l ht (by decide), mset_l ht (by decide)]⟩
      · rw [rl m h, g2, bnd_some, if_pos rfl, hpos, show nI (60 * k + a + i') - nI (60 * k + a) = nI (60 * k + a + i' - (60 * k + a)) from pk_sub (by omega), show 60 * k + a + i' - (60 * k + a) = i' by omega]
      · obtain ⟨u1, u2, u3, u4, u5⟩ := RI_ft (ft' := 0) h
        exact ⟨by simpa [mset] using u1, by simpa [mset] using u2, SR_cong (mset_ne (by decide)) (mset_ne (by decide)) (mset_ne (by decide)) u3, TR_f (by decide) u4, RR_cong (by simp [mset]) (mset_ne (by decide)) (mset_ne (by decide)) u5⟩)
