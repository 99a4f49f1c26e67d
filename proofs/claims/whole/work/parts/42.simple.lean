/-! ===== what a piece of the memory leaves alone ===== -/
theorem SC_cong {m m' : Mem} {Sh : ShT} (h2 : m' 2 = m 2) (h3 : m' 3 = m 3) (h : ∀ k, k < 4 → SC m k (Sh k)) : ∀ k, k < 4 → SC m' k (Sh k) := fun k hk => by
  have := h k hk
  unfold SC at this ⊢
  rw [h2, h3]
  exact this
theorem SR_cong {m m' : Mem} {Sh : ShT} (h1 : m' 31 = m 31) (h2 : m' 32 = m 32) (h3 : m' 33 = m 33) (h : ∀ k, k < 4 → SR m k (Sh k)) : ∀ k, k < 4 → SR m' k (Sh k) := fun k hk => by
  have := h k hk
  unfold SR at this ⊢
  rw [h1, h2, h3]
  exact this
theorem TC_cong {m m' : Mem} {F : FdT} (h4 : m' 4 = m 4) (h6 : m' 6 = m 6) (h : TC m F) : TC m' F := by
  unfold TC at h ⊢
  rw [h4, h6]
  exact h
theorem TR_cong {m m' : Mem} {F : FdT} (h5 : m' 30 0 5 = m 30 0 5) (h6 : m' 30 0 6 = m 30 0 6) (h7 : m' 30 0 7 = m 30 0 7) (h8 : m' 30 0 8 = m 30 0 8) (a : m' 34 = m 34) (b : m' 35 = m 35) (c : m' 36 = m 36) (d : m' 37 = m 37) (e : m' 38 = m 38) (h : TR m F) : TR m' F := by
  unfold TR at h ⊢
  rw [h5, h6, h7, h8, a, b, c, d, e]
  exact h
theorem RC_cong {m m' : Mem} {rn : Nat} {rf rs : Nat → Nat} (a : m' 20 0 2 = m 20 0 2) (b : m' 21 = m 21) (c : m' 22 = m 22) (h : RC m rn rf rs) : RC m' rn rf rs := by
  unfold RC at h ⊢
  rw [a, b, c]
  exact h
theorem RR_cong {m m' : Mem} {rn : Nat} {rf rs : Nat → Nat} (a : m' 30 0 32 = m 30 0 32) (b : m' 47 = m 47) (c : m' 48 = m 48) (h : RR m rn rf rs) : RR m' rn rf rs := by
  unfold RR at h ⊢
  rw [a, b, c]
  exact h
theorem Cache_cong {m m' : Mem} {F : FdT} (a : m' 17 = m 17) (b : m' 19 = m 19) (h : Cache m F) : Cache m' F := by
  unfold Cache at h ⊢
  rw [a, b]
  exact h
theorem mset_t {m : Mem} {t i j : Nat} {v : Int32} {t' : Nat} (h : 30 ≤ t') (ht : t < 30) : mset m t i j v t' = m t' := mset_ne (by omega)
theorem mset_l {m : Mem} {t i j : Nat} {v : Int32} {t' : Nat} (h : t' < 30) (ht : 30 ≤ t) : mset m t i j v t' = m t' := mset_ne (by omega)
/-- fault alone changes -/
theorem CI_ft {m : Mem} {ft tr ft' : Int32} {Sh : ShT} {F : FdT} {rn : Nat} {rf rs : Nat → Nat} (h : CI m ft tr Sh F rn rf rs) : CI (mset m 0 0 6 ft') ft' tr Sh F rn rf rs :=
  ⟨by simp [mset], by have := h.2.1; simpa [mset] using this, SC_cong (mset_ne (by decide)) (mset_ne (by decide)) h.2.2.1, TC_cong (mset_ne (by decide)) (mset_ne (by decide)) h.2.2.2.1, RC_cong (by rw [mset_ne (by decide)]) (mset_ne (by decide)) (mset_ne (by decide)) h.2.2.2.2.1, Cache_cong (mset_ne (by decide)) (mset_ne (by decide)) h.2.2.2.2.2⟩
theorem CI_tr {m : Mem} {ft tr tr' : Int32} {Sh : ShT} {F : FdT} {rn : Nat} {rf rs : Nat → Nat} (h : CI m ft tr Sh F rn rf rs) : CI (mset m 0 0 5 tr') ft tr' Sh F rn rf rs :=
  ⟨by have := h.1; simpa [mset] using this, by simp [mset], SC_cong (mset_ne (by decide)) (mset_ne (by decide)) h.2.2.1, TC_cong (mset_ne (by decide)) (mset_ne (by decide)) h.2.2.2.1, RC_cong (by rw [mset_ne (by decide)]) (mset_ne (by decide)) (mset_ne (by decide)) h.2.2.2.2.1, Cache_cong (mset_ne (by decide)) (mset_ne (by decide)) h.2.2.2.2.2⟩
/-- a field of the reference's object changes -/
theorem TR_f {m : Mem} {F : FdT} {j : Nat} {v : Int32} (hj : j < 5 ∨ 8 < j) (h : TR m F) : TR (mset m 30 0 j v) F :=
  TR_cong (by simp [mset]; omega) (by simp [mset]; omega) (by simp [mset]; omega) (by simp [mset]; omega) (mset_ne (by decide)) (mset_ne (by decide)) (mset_ne (by decide)) (mset_ne (by decide)) (mset_ne (by decide)) h
theorem RI_ft {m : Mem} {ft tr ft' : Int32} {Sh : ShT} {F : FdT} {rn : Nat} {rf rs : Nat → Nat} (h : RI m ft tr Sh F rn rf rs) : RI (mset m 30 0 0 ft') ft' tr Sh F rn rf rs :=
  ⟨by simp [mset], by have := h.2.1; simpa [mset] using this, SR_cong (mset_ne (by decide)) (mset_ne (by decide)) (mset_ne (by decide)) h.2.2.1, TR_f (by decide) h.2.2.2.1, RR_cong (by simp [mset]) (mset_ne (by decide)) (mset_ne (by decide)) h.2.2.2.2⟩
theorem RI_tr {m : Mem} {ft tr tr' : Int32} {Sh : ShT} {F : FdT} {rn : Nat} {rf rs : Nat → Nat} (h : RI m ft tr Sh F rn rf rs) : RI (mset m 30 0 1 tr') ft tr' Sh F rn rf rs :=
  ⟨by have := h.1; simpa [mset] using this, by simp [mset], SR_cong (mset_ne (by decide)) (mset_ne (by decide)) (mset_ne (by decide)) h.2.2.1, TR_f (by decide) h.2.2.2.1, RR_cong (by simp [mset]) (mset_ne (by decide)) (mset_ne (by decide)) h.2.2.2.2⟩
theorem nI_z {n : Nat} (h : n < 2 ^ 31) : nI n = 0 ↔ n = 0 := by
  rw [← nI_0, nI_eq h (by decide)]
theorem nI_l_iff {a b : Nat} {x y : Int32} (hx : x = nI a) (hy : y = nI b) (ha : a < 2 ^ 31) (hb : b < 2 ^ 31) : (x ≤ y ↔ a ≤ b) ∧ (x < y ↔ a < b) ∧ (x = y ↔ a = b) := by
  subst hx; subst hy
  exact ⟨nI_leI ha hb, nI_ltI ha hb, nI_eq ha hb⟩
theorem i5 {f n : Nat} (hf : f < n) (hn : n ≤ 5) : inB (nI f) 5 = true ∧ ix (nI f) = f := ⟨inB_nI (by omega) (by decide), ix_nI (by omega)⟩
/-! ===== the share ===== -/
theorem shareOf_c {F : FdT} {f : Nat} (hk : F 3 f ≤ 2) (h1 : 1 ≤ F 4 f) (h9 : F 4 f ≤ 9) (m : Mem) : f_X6_shareOf (nI (F 3 f)) (nI (F 4 f)) m = some (nI (shareS F f), m) := by
  unfold f_X6_shareOf shareS
  have e1 : (nI (F 3 f) = 1) ↔ F 3 f = 1 := nI_eq (b := 1) (by omega) (by decide)
  have e2 : (nI (F 3 f) = 2) ↔ F 3 f = 2 := nI_eq (b := 2) (by omega) (by decide)
  have s1 : nI (F 4 f) - 1 = nI (F 4 f - 1) := pk_sub (b := 1) h1
  have d2 : nI (F 4 f - 1) / 2 = nI ((F 4 f - 1) / 2) := pk_div (d := 2) (by omega) (by decide) (by decide)
  by_cases a : F 3 f = 1
  · rw [if_pos (e1.mpr a), s1, if_neg (by omega), if_pos a]
  · rw [if_neg (fun q => a (e1.mp q))]
    by_cases b : F 3 f = 2
    · rw [if_pos (e2.mpr b), if_neg (show ¬ F 3 f = 0 by omega), if_neg a, if_pos (by decide)]
      unfold dv
      rw [s1, d2]
    · rw [if_neg (fun q => b (e2.mp q)), if_pos (by omega)]
theorem share_r {m : Mem} {F : FdT} (hT : TR m F) (hW : WF F) {f : Nat} (hf : f < F 0 0) : f_X7_share (nI f) m = some (nI (shareS F f), m) := by
  obtain ⟨hn, -, -, hq⟩ := hW
  obtain ⟨hk, h1, h9, -⟩ := hq f hf
  obtain ⟨g1, g2, -⟩ := hT.2.2.2.2 f hf
  obtain ⟨b1, b2⟩ := i5 hf hn
  have e0 : (nI (F 3 f) = 0) ↔ F 3 f = 0 := nI_z (by omega)
  have e2 : (nI (F 3 f) = 2) ↔ F 3 f = 2 := nI_eq (b := 2) (by omega) (by decide)
  have s1 : nI (F 4 f) - 1 = nI (F 4 f - 1) := pk_sub (b := 1) h1
  have d2 : nI (F 4 f - 1) / 2 = nI ((F 4 f - 1) / 2) := pk_div (d := 2) (by omega) (by decide) (by decide)
  unfold f_X7_share f_X7_share_j26
  simp only [b1, b2, g1, g2, if_true, e0, e2, s1, d2, dv]
  unfold shareS
  by_cases a : F 3 f = 0
  · simp [a]
  · by_cases b : F 3 f = 2
    · simp [b]
    · have c : F 3 f = 1 := by omega
      simp [c]
theorem a_ofFish (x w : Int32) : Agree (f_X6_ofFish x w) (f_X7_ofFish x w) := agree_same (fun ft tr Sh F rn rf rs hv => by
  have hn := hv.2.1.1
  rcases fish_cases x (n := F 0 0) (by omega) with ⟨h1, h2, -⟩ | ⟨f, hf, rfl, h1, h2⟩
  · exact ⟨-1, fun m h => by simp [f_X6_ofFish, h1 m h.2.2.2.1.1, bnd], fun m h => by simp [f_X7_ofFish, h2 m h.2.2.2.1.1, bnd]⟩
  · obtain ⟨b1, b2⟩ := i5 hf hn
    obtain ⟨hk, q1, q9, -⟩ := hv.2.1.2.2.2 f hf
    by_cases c0 : w = 0
    · exact ⟨nI (F 3 f), fun m h => by simp [f_X6_ofFish, h1 m h.2.2.2.1.1, bnd, b1, b2, c0, (h.2.2.2.1.2.2.2 f hf).1], fun m h => by simp [f_X7_ofFish, h2 m h.2.2.2.1.1, bnd, b1, b2, c0, (h.2.2.2.1.2.2.2.2 f hf).1]⟩
    by_cases c1 : w = 1
    · exact ⟨nI (F 4 f), fun m h => by simp [f_X6_ofFish, h1 m h.2.2.2.1.1, bnd, b1, b2, c1, (h.2.2.2.1.2.2.2 f hf).2.1], fun m h => by simp [f_X7_ofFish, h2 m h.2.2.2.1.1, bnd, b1, b2, c1, (h.2.2.2.1.2.2.2.2 f hf).2.1]⟩
    by_cases c2 : w = 2
    · exact ⟨nI (F 5 f), fun m h => by simp [f_X6_ofFish, h1 m h.2.2.2.1.1, bnd, b1, b2, c2, (h.2.2.2.1.2.2.2 f hf).2.2.1], fun m h => by simp [f_X7_ofFish, h2 m h.2.2.2.1.1, bnd, b1, b2, c2, (h.2.2.2.1.2.2.2.2 f hf).2.2.1]⟩
    by_cases c3 : w = 3
    · exact ⟨nI (F 6 f), fun m h => by simp [f_X6_ofFish, h1 m h.2.2.2.1.1, bnd, b1, b2, c3, (h.2.2.2.1.2.2.2 f hf).2.2.2.1], fun m h => by simp [f_X7_ofFish, h2 m h.2.2.2.1.1, bnd, b1, b2, c3, (h.2.2.2.1.2.2.2.2 f hf).2.2.2.1]⟩
    by_cases c4 : w = 4
    · exact ⟨nI (F 7 f), fun m h => by simp [f_X6_ofFish, h1 m h.2.2.2.1.1, bnd, b1, b2, c4, (h.2.2.2.1.2.2.2 f hf).2.2.2.2], fun m h => by simp [f_X7_ofFish, h2 m h.2.2.2.1.1, bnd, b1, b2, c4, (h.2.2.2.1.2.2.2.2 f hf).2.2.2.2]⟩
    by_cases c5 : w = 5
    · exact ⟨nI (shareS F f), fun m h => by simp [f_X6_ofFish, h1 m h.2.2.2.1.1, bnd, b1, b2, c5, (h.2.2.2.1.2.2.2 f hf).1, (h.2.2.2.1.2.2.2 f hf).2.1, shareOf_c hk q1 q9], fun m h => by simp [f_X7_ofFish, h2 m h.2.2.2.1.1, bnd, c5, share_r h.2.2.2.1 hv.2.1 hf]⟩
    · exact ⟨-2, fun m h => by simp [f_X6_ofFish, h1 m h.2.2.2.1.1, bnd, b1, c0, c1, c2, c3, c4, c5], fun m h => by simp [f_X7_ofFish, h2 m h.2.2.2.1.1, bnd, c0, c1, c2, c3, c4, c5]⟩)
