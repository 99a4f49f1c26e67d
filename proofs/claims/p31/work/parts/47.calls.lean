/-! ===== the class's calls as the law makes them: what they answer, what stands behind ===== -/
theorem CI.th {m : Mem} {Sh : ShT} {F : FdT} (h : CI m Sh F) : m 4 0 1 = nI (F 0 0) ∧ m 4 0 2 = nI (F 1 0) ∧ m 4 0 3 = nI (F 2 0) := ⟨h.2.1, h.2.2.1, h.2.2.2.1⟩
theorem c_many1 {m : Mem} {Sh : ShT} {F : FdT} (h : CI m Sh F) : f_X6_many 1 m = some (nI (F 1 0), m) := by simp [f_X6_many, h.th.2.1]
theorem c_many2 {m : Mem} {Sh : ShT} {F : FdT} (h : CI m Sh F) : f_X6_many 2 m = some (nI (F 2 0), m) := by simp [f_X6_many, h.th.2.2]
theorem c_dear {m : Mem} {Sh : ShT} {F : FdT} {v : Nat} (h : CI m Sh F) (hn : 1 ≤ F 0 0) (h5 : F 0 0 ≤ 5) (hv : v ≤ 9) : ∃ m', f_X6_dear (nI v) m = some (nI (F 1 0), m') ∧ CI m' Sh (fset F 1 0 v) ∧ CF m m' := by
  have e0 : ¬ nI (F 0 0) = 0 := fun q => by have := (nI_z (by omega)).mp q; omega
  have hw : f_X6_isWithin (nI v) 0 9 m = some (1, m) := wi_in (n := 9) rfl hv (by decide) m
  refine ⟨mset (mset m 4 0 2 (nI v)) 17 0 3 0, ?_, CI_17 ⟨SC_cong (mset_ne (by decide)) (mset_ne (by decide)) h.1, TC_f (i := 1) (Or.inl rfl) rfl h.2⟩, (CF.rf.set (by decide)).set (by decide)⟩
  simp [f_X6_dear, hw, bnd, h.th.1, e0, f_X3_forget, h.th.2.1]
theorem c_hear {m : Mem} {Sh : ShT} {F : FdT} {v : Nat} (h : CI m Sh F) (hn : 1 ≤ F 0 0) (h5 : F 0 0 ≤ 5) (hv : v < 64) : ∃ m', f_X6_hear (nI v) m = some (nI (F 2 0), m') ∧ CI m' Sh (fset F 2 0 v) ∧ CF m m' := by
  have e0 : ¬ nI (F 0 0) = 0 := fun q => by have := (nI_z (by omega)).mp q; omega
  have hw : f_X6_isWithin (nI v) 0 63 m = some (1, m) := wi_in (n := 63) rfl (by omega) (by decide) m
  refine ⟨mset (mset m 4 0 3 (nI v)) 17 0 3 0, ?_, CI_17 ⟨SC_cong (mset_ne (by decide)) (mset_ne (by decide)) h.1, TC_f (i := 2) (Or.inr rfl) rfl h.2⟩, (CF.rf.set (by decide)).set (by decide)⟩
  simp [f_X6_hear, hw, bnd, h.th.1, e0, f_X3_forget, h.th.2.2]
theorem TC_5 {m : Mem} {F : FdT} {f v : Nat} (h : TC m F) : TC (mset m 6 f 2 (nI v)) (fset F 5 f v) := by
  obtain ⟨g1, g2, g3, g4⟩ := h
  refine ⟨by simpa [mset, fset] using g1, by simpa [mset, fset] using g2, by simpa [mset, fset] using g3, fun g hg => ?_⟩
  have := g4 g (by simpa [fset] using hg)
  by_cases e : g = f
  · subst e; simp [mset, fset, this]
  · simpa [mset, fset, e] using this
theorem c_scales {m : Mem} {Sh : ShT} {F : FdT} {f v : Nat} (h : CI m Sh F) (hf : f < F 0 0) (h5 : F 0 0 ≤ 5) (hv : v ≤ 99) : ∃ m', f_X6_scales (nI f) (nI v) m = some (nI (F 5 f), m') ∧ CI m' Sh (fset F 5 f v) ∧ CF m m' := by
  obtain ⟨b1, b2⟩ := i5 hf h5
  have hw : f_X6_isWithin (nI v) 0 99 m = some (1, m) := wi_in (n := 99) rfl hv (by decide) m
  refine ⟨mset (mset m 6 f 2 (nI v)) 17 0 3 0, ?_, CI_17 ⟨SC_cong (mset_ne (by decide)) (mset_ne (by decide)) h.1, TC_5 h.2⟩, (CF.rf.set (by decide)).set (by decide)⟩
  simp [f_X6_scales, has_in hf (by omega) h.th.1, hw, bnd, b1, b2, f_X3_forget, (h.2.2.2.2 f hf).2.2.1]
/-! what is refused of these -/
theorem r_dear (m : Mem) : f_X6_dear 10 m = some (-2, m) ∧ f_X6_dear (-1) m = some (-2, m) := by
  have h1 : f_X6_isWithin 10 0 9 m = some (0, m) := wi_out (k := 10) (n := 9) rfl (by decide) (by decide) m
  have h2 : f_X6_isWithin (-1) 0 9 m = some (0, m) := wi_neg (by decide) m
  exact ⟨by simp [f_X6_dear, h1, bnd], by simp [f_X6_dear, h2, bnd]⟩
theorem r_hear (m : Mem) : f_X6_hear 64 m = some (-2, m) ∧ f_X6_hear (-1) m = some (-2, m) := by
  have h1 : f_X6_isWithin 64 0 63 m = some (0, m) := wi_out (k := 64) (n := 63) rfl (by decide) (by decide) m
  have h2 : f_X6_isWithin (-1) 0 63 m = some (0, m) := wi_neg (by decide) m
  exact ⟨by simp [f_X6_hear, h1, bnd], by simp [f_X6_hear, h2, bnd]⟩
theorem r_scales {m : Mem} {Sh : ShT} {F : FdT} (h : CI m Sh F) (hn : 1 ≤ F 0 0) (h5 : F 0 0 ≤ 5) : f_X6_scales (nI (F 0 0)) 0 m = some (-1, m) ∧ f_X6_scales 0 100 m = some (-2, m) ∧ f_X6_scales 0 (-1) m = some (-2, m) := by
  have h0 : f_X5_has 0 m = some (1, m) := has_in (f := 0) (n := F 0 0) (by omega) (by omega) h.th.1
  have h1 : f_X6_isWithin 100 0 99 m = some (0, m) := wi_out (k := 100) (n := 99) rfl (by decide) (by decide) m
  have h2 : f_X6_isWithin (-1) 0 99 m = some (0, m) := wi_neg (by decide) m
  exact ⟨by simp [f_X6_scales, has_out (Nat.le_refl (F 0 0)) (by omega) h.th.1, bnd], by simp [f_X6_scales, h0, h1, bnd], by simp [f_X6_scales, h0, h2, bnd]⟩
theorem c_ofFish {m : Mem} {Sh : ShT} {F : FdT} {f w : Nat} (h : CI m Sh F) (hf : f < F 0 0) (h5 : F 0 0 ≤ 5) (hw : w < 5) : f_X6_ofFish (nI f) (nI w) m = some (nI (F (3 + w) f), m) := by
  obtain ⟨b1, b2⟩ := i5 hf h5
  have hh := has_in hf (by omega) h.th.1
  obtain ⟨t0, t1, t2, t3, t4⟩ := h.2.2.2.2 f hf
  have : w = 0 ∨ w = 1 ∨ w = 2 ∨ w = 3 ∨ w = 4 := by omega
  rcases this with rfl | rfl | rfl | rfl | rfl
  · simp [f_X6_ofFish, hh, bnd, b1, b2, t0, show nI 0 = 0 from rfl]
  · simp [f_X6_ofFish, hh, bnd, b1, b2, t1, show nI 1 = 1 from rfl]
  · simp [f_X6_ofFish, hh, bnd, b1, b2, t2, show nI 2 = 2 from rfl]
  · simp [f_X6_ofFish, hh, bnd, b1, b2, t3, show nI 3 = 3 from rfl]
  · simp [f_X6_ofFish, hh, bnd, b1, b2, t4, show nI 4 = 4 from rfl]
theorem c_ofFish5 {m : Mem} {Sh : ShT} {F : FdT} {f : Nat} (h : CI m Sh F) (hf : f < F 0 0) (hW : WF F) : f_X6_ofFish (nI f) 5 m = some (nI (shareS F f), m) := by
  obtain ⟨b1, b2⟩ := i5 hf hW.1
  have hh := has_in hf (by have := hW.1; omega) h.th.1
  obtain ⟨t0, t1, -⟩ := h.2.2.2.2 f hf
  obtain ⟨w1, w2, w3, -⟩ := hW.2.2.2 f hf
  simp [f_X6_ofFish, hh, bnd, b1, b2, t0, t1, shareOf_c w1 w2 w3]
theorem r_ofFish {m : Mem} {Sh : ShT} {F : FdT} (h : CI m Sh F) (hn : 1 ≤ F 0 0) (h5 : F 0 0 ≤ 5) : f_X6_ofFish (nI (F 0 0)) 0 m = some (-1, m) ∧ f_X6_ofFish 0 6 m = some (-2, m) := by
  have h0 : f_X5_has 0 m = some (1, m) := has_in (f := 0) (n := F 0 0) (by omega) (by omega) h.th.1
  exact ⟨by simp [f_X6_ofFish, has_out (Nat.le_refl (F 0 0)) (by omega) h.th.1, bnd], by simp [f_X6_ofFish, h0, bnd, show inB 0 5 = true from by decide]⟩
/-! sheets -/
theorem c_sheet {m : Mem} {Sh : ShT} {F : FdT} {k len : Nat} (h : CI m Sh F) (hk : k < 4) (hl : len ≤ 60) : ∃ m', f_X6_sheet (nI k) 0 (nI len) m = some (1, m') ∧ CI m' (upS_ Sh k (some (0, len, fun _ => 0))) F ∧ CF m m' := by
  obtain ⟨b1, b2⟩ := i4 hk
  have h1 := sheet_in hk (mset m 0 0 6 0)
  have h2 : f_X6_isLane 0 (mset m 0 0 6 0) = some (1, mset m 0 0 6 0) := lane_in (k := 0) (by decide) _
  have hz : nI len ≤ 60 := nI_le (b := 60) hl (by decide)
  have h0 : (0 : Int32) ≤ nI len := nI_le (a := 0) (by omega) (by omega)
  refine ⟨mset (mset (mset (mfill (mset m 0 0 6 0) 3 k 0 60 0) 2 k 1 1) 2 k 2 0) 2 k 3 (nI len), ?_, ⟨fun i hi => ?_, TC_cong (by simp [mset_ne, mfill_ne]) (by simp [mset_ne, mfill_ne]) h.2⟩, ?_⟩
  · simp [f_X6_sheet, h1, h2, bnd, hz, h0, b1, b2, f_X4_begin, fill3, clampI (x := nI len) rfl hl]
  · by_cases e : i = k
    · subst e
      simp only [upS_, if_true]
      refine ⟨by simp [mset], by simp [mset, nI_0], by simp [mset], fun j hj => by simp [mset, mfill, hj]⟩
    · have g := h.1 i hi
      simp only [upS_, if_neg e]
      unfold SC at g ⊢
      cases hs : Sh i <;> rw [hs] at g <;> simpa [mset, mfill, e] using g
  · intro t ht
    rw [mset_ne (by omega), mset_ne (by omega), mset_ne (by omega), mfill_ne (by omega), mset_ne (by omega)]
theorem c_put {m : Mem} {Sh : ShT} {F : FdT} {k len j : Nat} {c : Nat → Int32} (v : Int32) (h : CI m Sh F) (hk : k < 4) (hs : Sh k = some (0, len, c)) (hl : len ≤ 60) (hj : j < len) : ∃ m', f_X6_put (nI k) (nI j) v m = some (1, m') ∧ CI m' (upS_ Sh k (some (0, len, fun i => if i = j then v.toInt8.toInt32 else c i))) F ∧ CF m m' := by
  obtain ⟨b1, b2⟩ := i4 hk
  have h1 := sheet_in hk (mset m 0 0 6 0)
  have bj : inB (nI j) 60 = true ∧ ix (nI j) = j := ⟨inB_nI (by omega) (by decide), ix_nI (by omega)⟩
  have g := (CI_ft (ft := 0) h).1 k hk
  rw [hs] at g
  obtain ⟨g1, g2, g3, g4⟩ := g
  have hh := holds_n (n := 1) hl (show j < 2 ^ 31 by omega) (by decide) g3
  rw [if_pos (by omega), show nI 1 = 1 from rfl] at hh
  have hcut : f_X4_cut k v (mset m 0 0 6 0) = some (v.toInt8.toInt32, mset m 0 0 6 0) := by
    unfold f_X4_cut
    rw [g2]
    exact if_pos (show nI 0 = 0 from rfl)
  refine ⟨mset (mset m 0 0 6 0) 3 k j v.toInt8.toInt32, ?_, ⟨fun i hi => ?_, TC_cong (by simp [mset_ne]) (by simp [mset_ne]) h.2⟩, (CF.rf.set (by decide)).set (by decide)⟩
  · simp [f_X6_put, h1, bnd, b1, b2, g1, hh, f_X4_set, hcut, bj]
  · have g := h.1 i hi
    by_cases e : i = k
    · subst e
      rw [hs] at g
      simp only [upS_, if_true]
      refine ⟨by simpa [mset] using g.1, by simpa [mset] using g.2.1, by simpa [mset] using g.2.2.1, fun a ha => ?_⟩
      by_cases ea : a = j
      · subst ea; simp [mset]
      · simpa [mset, ea] using g.2.2.2 a ha
    · simp only [upS_, if_neg e]
      unfold SC at g ⊢
      cases hi2 : Sh i <;> rw [hi2] at g <;> simpa [mset, e] using g
theorem cut_nI {v : Nat} (hv : v < 128) : (nI v).toInt8.toInt32 = nI v := by
  have : ∀ v, v < 128 → (nI v).toInt8.toInt32 = nI v := by decide +kernel
  exact this v hv
/-! the fault of a row -/
theorem fault_0 {m : Mem} {k la a n len : Nat} {c : Nat → Int32} (hS : SC m k (some (la, len, c))) (hl : len ≤ 60) (ha : a + n ≤ len) : f_X4_faultAt k (nI la) (nI a) (nI n) m = some (0, m) := by
  obtain ⟨s1, s2, s3, -⟩ := hS
  dsimp only at s2 s3
  have hn0 : (0 : Int32) ≤ nI n := nI_le (a := 0) (by omega) (by omega)
  have hh := holds_n (n := n) hl (show a < 2 ^ 31 by omega) (by omega) s3
  rw [if_pos ha] at hh
  simp [f_X4_faultAt, s1, s2, hn0, hh, bnd]
theorem fault_3 {m : Mem} {k la a n len : Nat} {c : Nat → Int32} (hS : SC m k (some (la, len, c))) (hl : len ≤ 60) (ha : ¬ a + n ≤ len) (h1 : a < 2 ^ 31) (h2 : n < 2 ^ 31) : f_X4_faultAt k (nI la) (nI a) (nI n) m = some (3, m) := by
  obtain ⟨s1, s2, s3, -⟩ := hS
  dsimp only at s2 s3
  have hn0 : (0 : Int32) ≤ nI n := nI_le (a := 0) (by omega) (by omega)
  have hh := holds_n (n := n) hl h1 h2 s3
  rw [if_neg ha] at hh
  simp [f_X4_faultAt, s1, s2, hn0, hh, bnd]
theorem fault_2 {m : Mem} {k la lb len : Nat} {c : Nat → Int32} (x y : Int32) (hS : SC m k (some (la, len, c))) (h1 : la < 3) (h2 : lb < 3) (hne : la ≠ lb) : f_X4_faultAt k (nI lb) x y m = some (2, m) := by
  obtain ⟨s1, s2, s3, -⟩ := hS
  dsimp only at s2 s3
  have hl' : ¬ nI la = nI lb := fun q => hne ((nI_eq (by omega) (by omega)).mp q)
  simp [f_X4_faultAt, s1, s2, hl']
theorem fault_1 {m : Mem} {k : Nat} (lane x y : Int32) (hS : SC m k none) : f_X4_faultAt k lane x y m = some (1, m) := by
  simp [f_X4_faultAt, show m 2 k 1 = 0 from hS]
/-- a ford is taken -/
theorem c_ford {m : Mem} {Sh : ShT} {F : FdT} {N len : Nat} {c : Nat → Int32} (h : CI m Sh F) (hs : Sh 0 = some (0, len, c)) (hl : len ≤ 60) (hal : 2 + 6 * N ≤ len) (hN : N ≤ 5) (hN1 : 1 ≤ N) (hO : Okto c 0 (2 + 6 * N)) :
    ∃ m', f_X6_ford 0 0 0 (nI (2 + 6 * N)) m = some (nI N, m') ∧ CI m' Sh (fordF c 0 N) ∧ CF m m' := by
  have h0 := CI_ft (ft := 0) h
  have hS := h0.1 0 (by decide)
  rw [hs] at hS
  have h1 : f_X6_isSheet 0 (mset m 0 0 6 0) = some (1, mset m 0 0 6 0) := sheet_in (k := 0) (by decide) _
  have h2 : f_X6_isLane 0 (mset m 0 0 6 0) = some (1, mset m 0 0 6 0) := lane_in (k := 0) (by decide) _
  have f1 : f_X4_faultAt 0 0 0 (nI (2 + 6 * N)) (mset m 0 0 6 0) = some (0, mset m 0 0 6 0) := fault_0 (a := 0) hS hl (by omega)
  have ff : f_X6_firstFault 0 0 (nI (2 + 6 * N)) (mset m 0 0 6 0) = some (-9, mset m 0 0 6 0) := by
    have := ff_end (a := 0) (n := 2 + 6 * N) hS hl (by omega) hO
    rw [if_pos ⟨by omega, by omega⟩] at this
    exact this
  obtain ⟨m', t1, t2, t3⟩ := take_c (a := 0) hS hl (by omega) hN hN1 hO
  have t1 : f_X5_take 0 0 (nI (2 + 6 * N)) (mset m 0 0 6 0) = some ((), m') := t1
  refine ⟨mset (mset m' 20 0 2 0) 17 0 3 0, ?_, CI_cong (m := m') (fun t ht => by rw [mset_ne (by omega), mset_ne (by omega)]) ⟨fun k hk => ?_, t3⟩, fun t ht => by rw [mset_ne (by omega), mset_ne (by omega), t2 t (by omega) (by omega), mset_ne (by omega)]⟩
  · have e : mset (mset m' 20 0 2 0) 17 0 3 0 4 0 1 = nI N := by rw [mset_ne (by decide), mset_ne (by decide)]; exact t3.1
    unfold f_X6_ford
    rw [h1, bnd_some, if_neg (by decide), h2, bnd_some, if_neg (by decide), if_pos (show inB 0 4 = true from by decide), show ix 0 = 0 from by decide, f1, bnd_some, if_pos rfl, ff, bnd_some, if_pos rfl, t1, bnd_some]
    unfold f_X3_forget
    rw [bnd_some, e]
  · exact SC_cong (t2 2 (by decide) (by decide)) (t2 3 (by decide) (by decide)) h0.1 k hk
