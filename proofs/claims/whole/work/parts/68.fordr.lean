/-! ===== the reference reads the ford ===== -/
def Vals (c : Nat → Int32) (a : Nat) (m : Mem) (N : Nat) : Prop := ∀ f, f < N → m 39 0 (5 * f) = nI (kindc (c (a + (3 + 6 * f)))) ∧ ∀ s, 1 ≤ s → s < 5 → m 39 0 (5 * f + s) = c (a + (3 + 6 * f + s)) - 48
def Stop (c : Nat → Int32) (a n i : Nat) : Prop := Okto c a i ∧ i ≤ n ∧ (i < n → ¬ fitc i (c (a + i)) = true) ∧ (i = n → ¬ (8 ≤ n ∧ (n - 2) % 6 = 0))
theorem RD.dn {j : Nat} {m m' : Mem} (h : RD j m m') : RD 0 m m' := ⟨h.1, h.2.1, fun p hp => by omega, h.2.2.2⟩
theorem fit_se {j : Nat} {x : Int32} (hj : j < 5) : fitc (2 + 6 * j) x = (x == 59) := by
  unfold fitc
  rw [if_neg (by omega), if_neg (by omega), if_neg (by omega), if_pos (by omega)]
theorem Okto.up {c : Nat → Int32} {a i k : Nat} (h : Okto c a i) (h2 : ∀ u, i ≤ u → u < k → fitc u (c (a + u)) = true) : Okto c a k := fun u hu => by
  by_cases q : u < i
  · exact h u q
  · exact h2 u (by omega) hu
theorem fish_loop {c : Nat → Int32} {a B n : Nat} (hE : B + n ≤ 240) (m : Mem) (hc : ∀ i, i < n → m 33 0 (B + i) = c (a + i)) (K : Mem → Option (Int32 × Mem)) :
    ∀ t j N m0, j + t = 5 → t < N → RD 0 m m0 → Okto c a (2 + 6 * j) → 2 + 6 * j ≤ n → m0 30 0 14 = nI (B + (2 + 6 * j)) → m0 30 0 16 = nI j → Vals c a m0 j →
    ∃ m', RD 0 m m' ∧ ((lpk (f_X7_readFord_b40 (nI (B + n))) N m0 K = K m' ∧ ∃ J, 1 ≤ J ∧ J ≤ 5 ∧ Okto c a (2 + 6 * J) ∧ 2 + 6 * J ≤ n ∧ m' 30 0 14 = nI (B + (2 + 6 * J)) ∧ m' 30 0 16 = nI J ∧ Vals c a m' J ∧ (J = 5 ∨ 2 + 6 * J = n)) ∨
      (lpk (f_X7_readFord_b40 (nI (B + n))) N m0 K = some (0, m') ∧ ∃ i, Stop c a n i ∧ m' 30 0 14 = nI (B + i))) := by
  intro t
  induction t with
  | zero =>
    intro j N m0 hj hN hR hO hn hp h16 hV
    obtain ⟨N, rfl⟩ : ∃ n', N = n' + 1 := ⟨N - 1, by omega⟩
    have e : j = 5 := by omega
    subst e
    refine ⟨m0, hR, Or.inl ⟨?_, 5, by decide, by decide, hO, hn, hp, h16, hV, Or.inl rfl⟩⟩
    have g1 : ¬ m0 30 0 16 = 0 := by rw [h16]; decide
    have g2 : (5 : Int32) ≤ m0 30 0 16 := by rw [h16]; decide
    rw [lpk_s]
    unfold f_X7_readFord_b40
    rw [if_neg g1, if_pos g2]
  | succ t ih =>
    intro j N m0 hj hN hR hO hn hp h16 hV
    obtain ⟨N, rfl⟩ : ∃ n', N = n' + 1 := ⟨N - 1, by omega⟩
    have hj5 : j < 5 := by omega
    have g0 : (m0 30 0 16 = 0) ↔ j = 0 := by rw [h16]; exact nI_z (by omega)
    have g5 : ¬ (5 : Int32) ≤ m0 30 0 16 := by rw [h16]; exact nI_ge (b := 5) hj5 (by decide)
    by_cases hend : 2 + 6 * j = n
    · by_cases hj0 : j = 0
      · subst hj0
        have hs := sign_end (m := m0) (E := B + n) (s := 59) (by rw [hp, hend]) (by omega)
        refine ⟨m0, hR, Or.inr ⟨?_, 2 + 6 * 0, ⟨hO, hn, fun q => by omega, fun q => by omega⟩, hp⟩⟩
        rw [lpk_s]
        unfold f_X7_readFord_b40 f_X7_readFord_j63
        rw [if_pos (g0.mpr rfl), hs, bnd_some, if_pos rfl]
      · have hle : nI (B + n) ≤ m0 30 0 14 := by rw [hp, hend]; exact nI_le (Nat.le_refl _) (by omega)
        refine ⟨m0, hR, Or.inl ⟨?_, j, by omega, by omega, hO, hn, hp, h16, hV, Or.inr hend⟩⟩
        rw [lpk_s]
        unfold f_X7_readFord_b40
        rw [if_neg (fun z => hj0 (g0.mp z)), if_neg g5, if_pos hle]
    have hlt : 2 + 6 * j < n := by omega
    have hge : ¬ nI (B + n) ≤ m0 30 0 14 := by rw [hp]; exact nI_ge (by omega) (by omega)
    have st : ∀ nx, f_X7_readFord_b40 (nI (B + n)) nx K m0 = f_X7_readFord_j63 nx K (nI (B + n)) m0 := fun nx => by
      unfold f_X7_readFord_b40
      by_cases hj0 : j = 0
      · rw [if_pos (g0.mpr hj0)]
      · rw [if_neg (fun z => hj0 (g0.mp z)), if_neg g5, if_neg hge]
    have hcell : m0 33 0 (B + (2 + 6 * j)) = c (a + (2 + 6 * j)) := by rw [hR.1 33 (by decide) (by decide)]; exact hc _ hlt
    have hs := sign_at (s := 59) hp (show B + (2 + 6 * j) < B + n by omega) hE
    rw [hcell] at hs
    by_cases z : c (a + (2 + 6 * j)) = 59
    · rw [if_pos z] at hs
      have hz : fitc (2 + 6 * j) (c (a + (2 + 6 * j))) = true := by rw [fit_se hj5, z]; rfl
      obtain ⟨m2, k1, k2⟩ := readFish_r (c := c) (a := a) (B := B) (n := n) (j := j) (m := mset m0 30 0 14 (nI (B + (2 + 6 * j) + 1))) hj5 hE (fun i hi => by rw [mset_ne (by decide), hR.1 33 (by decide) (by decide)]; exact hc i hi) (by simp [mset]; congr 1; omega) (by simpa [mset] using h16) (by omega)
      have hR2 : RD 0 m m2 := hR.pos.tr k1.dn
      rcases k2 with ⟨f1, f2, f3, f4, f5, f6, f7⟩ | ⟨f1, i, f2, f3, f4, f5, f6, f7⟩
      · have hO2 : Okto c a (2 + 6 * (j + 1)) := hO.up (fun u q1 q2 => by
          by_cases e : u = 2 + 6 * j
          · rw [e]; exact hz
          · exact f3 u (by omega) (by omega))
        have hV2 : Vals c a m2 (j + 1) := fun f hf => by
          by_cases e : f = j
          · subst e
            exact ⟨f4, f5⟩
          · have hv := hV f (by omega)
            refine ⟨by rw [k1.2.2.1 _ (by omega), mset_ne (by decide)]; exact hv.1, fun s q1 q2 => by rw [k1.2.2.1 _ (by omega), mset_ne (by decide)]; exact hv.2 s q1 q2⟩
        obtain ⟨m', r1, r2⟩ := ih (j + 1) N m2 (by omega) (by omega) hR2 hO2 (by omega) (by rw [f6]; congr 1; omega) f7 hV2
        have e : lpk (f_X7_readFord_b40 (nI (B + n))) (N + 1) m0 K = lpk (f_X7_readFord_b40 (nI (B + n))) N m2 K := by
          rw [lpk_s, st]
          unfold f_X7_readFord_j63
          rw [hs, bnd_some, if_neg (by decide), f1, bnd_some, if_neg (by decide)]
        exact ⟨m', r1, by rw [e]; exact r2⟩
      · refine ⟨m2, hR2, Or.inr ⟨?_, i, ⟨hO.up (fun u q1 q2 => ?_), f4, f5, fun q => by omega⟩, f7⟩⟩
        · rw [lpk_s, st]
          unfold f_X7_readFord_j63
          rw [hs, bnd_some, if_neg (by decide), f1, bnd_some, if_pos rfl]
        · by_cases e : u = 2 + 6 * j
          · rw [e]; exact hz
          · exact f6 u (by omega) q2
    · rw [if_neg z] at hs
      refine ⟨m0, hR, Or.inr ⟨?_, 2 + 6 * j, ⟨hO, hn, fun _ => by rw [fit_se hj5]; simpa using z, fun q => by omega⟩, hp⟩⟩
      rw [lpk_s, st]
      unfold f_X7_readFord_j63
      rw [hs, bnd_some, if_pos rfl]
