theorem fit_ke {j : Nat} {x : Int32} (hj : j < 5) : fitc (3 + 6 * j) x = (x == 102 || x == 101 || x == 112) := by
  unfold fitc
  rw [if_neg (by omega), if_neg (by omega), if_neg (by omega), if_neg (by omega), if_pos (by omega)]
theorem j66_r {j : Nat} {s0 E : Int32} {m : Mem} (hj : j < 5) : f_X7_readFish_j66 s0 (nI (5 * j)) E (nI (5 * j)) m = if s0 = -9 then some (0, mset m 39 0 (5 * j) s0) else lpk (f_X7_readFish_b93 E (nI (5 * j))) fuelN (nI 1, mset (mset m 39 0 (5 * j) s0) 30 0 14 (m 30 0 14 + 1)) (fun t93 => some ((1 : Int32), (mset t93 30 0 16 ((t93 30 0 16) + (1 : Int32))))) := by
  have b1 : inB (nI (5 * j)) 25 = true := inB_nI (by omega) (by decide)
  have b2 : ix (nI (5 * j)) = 5 * j := ix_nI (by omega)
  have hm : mset m 39 0 (5 * j) s0 39 0 (5 * j) = s0 := by simp [mset]
  unfold f_X7_readFish_j66
  rw [if_pos b1, b2, hm, if_pos b1]
  rfl
theorem j28_r {j : Nat} {x E : Int32} {m : Mem} (hj : j < 5) : f_X7_readFish_j28 x E (nI (5 * j)) m = f_X7_readFish_j66 (if fitc (3 + 6 * j) x = true then nI (kindc x) else -9) (nI (5 * j)) E (nI (5 * j)) m := by
  rw [fit_ke hj]
  unfold f_X7_readFish_j28 kindc
  by_cases z1 : x = 102
  · subst z1
    rw [if_pos rfl, if_pos (by decide)]; rfl
  by_cases z2 : x = 101
  · subst z2
    rw [if_neg (by decide), if_pos rfl, if_pos (by decide)]; rfl
  by_cases z3 : x = 112
  · subst z3
    rw [if_neg (by decide), if_neg (by decide), if_pos rfl, if_pos (by decide)]; rfl
  · rw [if_neg z1, if_neg z2, if_neg z3, if_neg (by simp [z1, z2, z3])]
theorem readFish_r {c : Nat → Int32} {a B n j : Nat} {m : Mem} (hj : j < 5) (hE : B + n ≤ 240) (hc : ∀ i, i < n → m 33 0 (B + i) = c (a + i)) (hp : m 30 0 14 = nI (B + (3 + 6 * j))) (h16 : m 30 0 16 = nI j) (hn : 3 + 6 * j ≤ n) :
    ∃ m', RD j m m' ∧ ((f_X7_readFish (nI (B + n)) m = some (1, m') ∧ 8 + 6 * j ≤ n ∧ (∀ i, 3 + 6 * j ≤ i → i < 8 + 6 * j → fitc i (c (a + i)) = true) ∧ m' 39 0 (5 * j) = nI (kindc (c (a + (3 + 6 * j)))) ∧ (∀ s, 1 ≤ s → s < 5 → m' 39 0 (5 * j + s) = c (a + (3 + 6 * j + s)) - 48) ∧ m' 30 0 14 = nI (B + (8 + 6 * j)) ∧ m' 30 0 16 = nI (j + 1)) ∨
      (f_X7_readFish (nI (B + n)) m = some (0, m') ∧ ∃ i, 3 + 6 * j ≤ i ∧ i ≤ 7 + 6 * j ∧ i ≤ n ∧ (i < n → ¬ fitc i (c (a + i)) = true) ∧ (∀ u, 3 + 6 * j ≤ u → u < i → fitc u (c (a + u)) = true) ∧ m' 30 0 14 = nI (B + i))) := by
  have e5 : (5 : Int32) * nI j = nI (5 * j) := pk_mul 5 j
  by_cases hend : 3 + 6 * j = n
  · refine ⟨mset m 39 0 (5 * j) (-9), RD.rf.val (Nat.le_refl _), Or.inr ⟨?_, 3 + 6 * j, Nat.le_refl _, by omega, hn, fun q => by omega, fun u q1 q2 => by omega, by simpa [mset] using hp⟩⟩
    have hle : nI (B + n) ≤ m 30 0 14 := by rw [hp, hend]; exact nI_le (Nat.le_refl _) (by omega)
    unfold f_X7_readFish
    rw [if_pos hle, h16, e5, j28_r hj, if_neg (by rw [fit_ke hj]; decide), j66_r hj, if_pos rfl]
  have hlt : 3 + 6 * j < n := by omega
  have hge : ¬ nI (B + n) ≤ m 30 0 14 := by rw [hp]; exact nI_ge (by omega) (by omega)
  have b1 : inB (m 30 0 14) 240 = true := by rw [hp]; exact inB_nI (by omega) (by decide)
  have b2 : ix (m 30 0 14) = B + (3 + 6 * j) := by rw [hp]; exact ix_nI (by omega)
  have rd : f_X7_readFish (nI (B + n)) m = f_X7_readFish_j66 (if fitc (3 + 6 * j) (c (a + (3 + 6 * j))) = true then nI (kindc (c (a + (3 + 6 * j)))) else -9) (nI (5 * j)) (nI (B + n)) (nI (5 * j)) m := by
    unfold f_X7_readFish
    rw [if_neg hge, if_pos b1, b2, h16, e5, j28_r hj, hc _ hlt]
  by_cases z : fitc (3 + 6 * j) (c (a + (3 + 6 * j))) = true
  · rw [if_pos z, j66_r hj] at rd
    have hk : ¬ nI (kindc (c (a + (3 + 6 * j)))) = -9 := m9' (by have := kindc_le (c (a + (3 + 6 * j))); omega)
    rw [if_neg hk] at rd
    have hR1 : RD j m (mset (mset m 39 0 (5 * j) (nI (kindc (c (a + (3 + 6 * j)))))) 30 0 14 (m 30 0 14 + 1)) := (RD.rf.val (Nat.le_refl _)).pos
    obtain ⟨m', g1, g2⟩ := fish_digits (c := c) (a := a) (n := n) hj hE m hc (fun t93 => some ((1 : Int32), (mset t93 30 0 16 ((t93 30 0 16) + (1 : Int32))))) 4 1 fuelN _ (by decide) (by decide) (by decide) hR1 (by simp only [mset]; rw [if_pos (by decide), hp, nI_1]; rfl) (by omega)
    rcases g2 with ⟨k1, k2, k3, k4, k5, k6⟩ | ⟨k1, s, k2, k3, k4, k5, k6, k7⟩
    · refine ⟨mset m' 30 0 16 (m' 30 0 16 + 1), g1.num, Or.inl ⟨by rw [rd]; exact k1, k2, fun i q1 q2 => ?_, ?_, fun s q1 q2 => ?_, by simpa [mset] using k5, ?_⟩⟩
      · by_cases e : i = 3 + 6 * j
        · rw [e]; exact z
        · have := (k3 (i - (3 + 6 * j)) (by omega) (by omega)).1
          rw [show 3 + 6 * j + (i - (3 + 6 * j)) = i by omega] at this
          exact this
      · have := k4 0 (by decide)
        simpa [mset] using this
      · simpa [mset] using (k3 s q1 q2).2
      · have : m' 30 0 16 = nI j := by rw [k6]; simpa [mset] using h16
        rw [this, nI_1]
        simp [mset]
    · refine ⟨m', g1, Or.inr ⟨by rw [rd]; exact k1, 3 + 6 * j + s, by omega, by omega, k4, k5, fun u q1 q2 => ?_, k7⟩⟩
      by_cases e : u = 3 + 6 * j
      · rw [e]; exact z
      · have := k6 (u - (3 + 6 * j)) (by omega) (by omega)
        rw [show 3 + 6 * j + (u - (3 + 6 * j)) = u by omega] at this
        exact this
  · rw [if_neg z, j66_r hj, if_pos rfl] at rd
    exact ⟨mset m 39 0 (5 * j) (-9), RD.rf.val (Nat.le_refl _), Or.inr ⟨rd, 3 + 6 * j, Nat.le_refl _, by omega, hn, fun _ => z, fun u q1 q2 => by omega, by simpa [mset] using hp⟩⟩
