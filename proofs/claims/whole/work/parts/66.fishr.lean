/-! ===== the reference reads one fish ===== -/
def loR (r : Nat) : Int32 := if r = 1 then 1 else 0
def hiR (r : Nat) : Int32 := if r = 3 then 6 else if r = 4 then 5 else 9
theorem fit_r {j r : Nat} {x : Int32} (hj : j < 5) (h1 : 1 ≤ r) (hr : r < 5) : fitc (3 + 6 * j + r) x = dgB (loR r) (hiR r) x := by
  have hc : r = 1 ∨ r = 2 ∨ r = 3 ∨ r = 4 := by omega
  unfold fitc
  rw [if_neg (by omega), if_neg (by omega), if_neg (by omega), if_neg (by omega), if_neg (by omega)]
  rcases hc with rfl | rfl | rfl | rfl
  · rw [if_pos (by omega)]; rfl
  · rw [if_neg (by omega), if_pos (by omega)]; rfl
  · rw [if_neg (by omega), if_neg (by omega), if_pos (by omega)]; rfl
  · rw [if_neg (by omega), if_neg (by omega), if_neg (by omega)]; rfl
theorem fish_step {E : Int32} {j r : Nat} {m : Mem} (hj : j < 5) (h1 : 1 ≤ r) (hr : r < 5) (K : Mem → Option (Int32 × Mem)) (nx : Int32 × Mem → Option (Int32 × Mem)) :
    f_X7_readFish_b93 E (nI (5 * j)) nx K (nI r, m) = bnd (f_X7_digit E (loR r) (hiR r) m) (fun v m1 => if v = -9 then some (0, mset m1 39 0 (5 * j + r) v) else nx (nI (r + 1), mset m1 39 0 (5 * j + r) v)) := by
  have b1 : inB (nI (5 * j + r)) 25 = true := inB_nI (by omega) (by decide)
  have b2 : ix (nI (5 * j + r)) = 5 * j + r := ix_nI (by omega)
  have hc : r = 1 ∨ r = 2 ∨ r = 3 ∨ r = 4 := by omega
  have hm : ∀ (m1 : Mem) (v : Int32), mset m1 39 0 (5 * j + r) v 39 0 (5 * j + r) = v := fun m1 v => by simp [mset]
  unfold f_X7_readFish_b93 f_X7_readFish_j122 f_X7_readFish_j145
  dsimp only
  simp only [nI_add, b1, b2, if_true, hm, nI_1]
  rcases hc with rfl | rfl | rfl | rfl
  · rw [if_neg (by decide), if_neg (by decide), if_neg (by decide), if_pos (by decide)]; rfl
  · rw [if_neg (by decide), if_neg (by decide), if_neg (by decide), if_neg (by decide)]; rfl
  · rw [if_neg (by decide), if_pos (by decide), if_neg (by decide)]; rfl
  · rw [if_neg (by decide), if_neg (by decide), if_pos (by decide), if_neg (by decide)]; rfl
/-- what reading leaves alone -/
def RD (j : Nat) (m m' : Mem) : Prop := (∀ t, t ≠ 30 → t ≠ 39 → m' t = m t) ∧ (∀ p, p < 14 ∨ 16 < p → m' 30 0 p = m 30 0 p) ∧ (∀ p, p < 5 * j → m' 39 0 p = m 39 0 p) ∧ m' 30 0 15 = m 30 0 15
theorem RD.rf {j : Nat} {m : Mem} : RD j m m := ⟨fun _ _ _ => rfl, fun _ _ => rfl, fun _ _ => rfl, rfl⟩
theorem RD.tr {j : Nat} {a b c : Mem} (h : RD j a b) (h' : RD j b c) : RD j a c := ⟨fun t h1 h2 => (h'.1 t h1 h2).trans (h.1 t h1 h2), fun p hp => (h'.2.1 p hp).trans (h.2.1 p hp), fun p hp => (h'.2.2.1 p hp).trans (h.2.2.1 p hp), h'.2.2.2.trans h.2.2.2⟩
theorem RD.pos {j : Nat} {m m' : Mem} {v : Int32} (h : RD j m m') : RD j m (mset m' 30 0 14 v) := h.tr ⟨fun t h1 _ => mset_ne h1, fun p hp => by simp [mset]; omega, fun p _ => by simp [mset], by simp [mset]⟩
theorem RD.num {j : Nat} {m m' : Mem} {v : Int32} (h : RD j m m') : RD j m (mset m' 30 0 16 v) := h.tr ⟨fun t h1 _ => mset_ne h1, fun p hp => by simp [mset]; omega, fun p _ => by simp [mset], by simp [mset]⟩
theorem RD.val {j p : Nat} {m m' : Mem} {v : Int32} (hp : 5 * j ≤ p) (h : RD j m m') : RD j m (mset m' 39 0 p v) := h.tr ⟨fun t _ h2 => mset_ne h2, fun p' hp' => by simp [mset], fun p' hp' => by simp [mset]; omega, by simp [mset]⟩
theorem fish_digits {c : Nat → Int32} {a B n j : Nat} (hj : j < 5) (hE : B + n ≤ 240) (m : Mem) (hc : ∀ i, i < n → m 33 0 (B + i) = c (a + i)) (K : Mem → Option (Int32 × Mem)) :
    ∀ t r N m0, r + t = 5 → 1 ≤ r → t < N → RD j m m0 → m0 30 0 14 = nI (B + (3 + 6 * j + r)) → 3 + 6 * j + r ≤ n →
    ∃ m', RD j m m' ∧ ((lpk (f_X7_readFish_b93 (nI (B + n)) (nI (5 * j))) N (nI r, m0) K = K m' ∧ 8 + 6 * j ≤ n ∧ (∀ s, r ≤ s → s < 5 → fitc (3 + 6 * j + s) (c (a + (3 + 6 * j + s))) = true ∧ m' 39 0 (5 * j + s) = c (a + (3 + 6 * j + s)) - 48) ∧ (∀ s, s < r → m' 39 0 (5 * j + s) = m0 39 0 (5 * j + s)) ∧ m' 30 0 14 = nI (B + (8 + 6 * j)) ∧ m' 30 0 16 = m0 30 0 16) ∨
      (lpk (f_X7_readFish_b93 (nI (B + n)) (nI (5 * j))) N (nI r, m0) K = some (0, m') ∧ ∃ s, r ≤ s ∧ s < 5 ∧ 3 + 6 * j + s ≤ n ∧ (3 + 6 * j + s < n → ¬ fitc (3 + 6 * j + s) (c (a + (3 + 6 * j + s))) = true) ∧ (∀ u, r ≤ u → u < s → fitc (3 + 6 * j + u) (c (a + (3 + 6 * j + u))) = true) ∧ m' 30 0 14 = nI (B + (3 + 6 * j + s)))) := by
  intro t
  induction t with
  | zero =>
    intro r N m0 hr h1 hN hR hp hn
    obtain ⟨N, rfl⟩ : ∃ n', N = n' + 1 := ⟨N - 1, by omega⟩
    have e : r = 5 := by omega
    subst e
    refine ⟨m0, hR, Or.inl ⟨?_, by omega, fun s h2 h3 => by omega, fun s _ => rfl, by rw [hp, show 3 + 6 * j + 5 = 8 + 6 * j by omega], rfl⟩⟩
    rw [lpk_s]
    unfold f_X7_readFish_b93
    dsimp only
    rw [if_pos (by decide)]
  | succ t ih =>
    intro r N m0 hr h1 hN hR hp hn
    obtain ⟨N, rfl⟩ : ∃ n', N = n' + 1 := ⟨N - 1, by omega⟩
    by_cases hend : 3 + 6 * j + r = n
    · have hd := digit_end (m := m0) (E := B + n) (lo := loR r) (hi := hiR r) (by rw [hp, hend]) (by omega)
      refine ⟨mset m0 39 0 (5 * j + r) (-9), hR.val (by omega), Or.inr ⟨?_, r, Nat.le_refl _, by omega, hn, fun q => by omega, fun u q1 q2 => by omega, by simpa [mset] using hp⟩⟩
      rw [lpk_s, fish_step hj h1 (by omega), hd, bnd_some, if_pos rfl]
    have hlt : 3 + 6 * j + r < n := by omega
    have hcell : m0 33 0 (B + (3 + 6 * j + r)) = c (a + (3 + 6 * j + r)) := by rw [hR.1 33 (by decide) (by decide)]; exact hc _ hlt
    have hd := digit_at (lo := loR r) (hi := hiR r) hp (show B + (3 + 6 * j + r) < B + n by omega) hE
    rw [hcell] at hd
    by_cases z : dgB (loR r) (hiR r) (c (a + (3 + 6 * j + r))) = true
    · rw [if_pos z] at hd
      have hv : ¬ c (a + (3 + 6 * j + r)) - 48 = -9 := by
        have hcs : r = 1 ∨ r = 2 ∨ r = 3 ∨ r = 4 := by omega
        have : ∃ l h, l ≤ 9 ∧ h ≤ 9 ∧ loR r = nI l ∧ hiR r = nI h := by
          rcases hcs with rfl | rfl | rfl | rfl
          · exact ⟨1, 9, by decide, by decide, rfl, rfl⟩
          · exact ⟨0, 9, by decide, by decide, rfl, rfl⟩
          · exact ⟨0, 6, by decide, by decide, rfl, rfl⟩
          · exact ⟨0, 5, by decide, by decide, rfl, rfl⟩
        obtain ⟨l, h, hl, hh, el, eh⟩ := this
        rw [el, eh] at z
        have g := dg_at hh hl z
        rw [g.1]
        exact m9' (by omega)
      obtain ⟨m', g1, g2⟩ := ih (r + 1) N (mset (mset m0 30 0 14 (nI (B + (3 + 6 * j + r) + 1))) 39 0 (5 * j + r) (c (a + (3 + 6 * j + r)) - 48)) (by omega) (by omega) (by omega) (hR.pos.val (by omega)) (by simp [mset]; rfl) (by omega)
      have st : lpk (f_X7_readFish_b93 (nI (B + n)) (nI (5 * j))) (N + 1) (nI r, m0) K = lpk (f_X7_readFish_b93 (nI (B + n)) (nI (5 * j))) N (nI (r + 1), mset (mset m0 30 0 14 (nI (B + (3 + 6 * j + r) + 1))) 39 0 (5 * j + r) (c (a + (3 + 6 * j + r)) - 48)) K := by
        rw [lpk_s, fish_step hj h1 (by omega), hd, bnd_some, if_neg hv]
      refine ⟨m', g1, ?_⟩
      rw [st]
      rcases g2 with ⟨k1, k2, k3, k4, k5, k6⟩ | ⟨k1, s, k2, k3, k4, k5, k6, k7⟩
      · refine Or.inl ⟨k1, k2, fun s h2 h3 => ?_, fun s h2 => ?_, k5, ?_⟩
        · by_cases e : s = r
          · subst e
            refine ⟨by rw [fit_r hj h1 (by omega)]; exact z, ?_⟩
            rw [k4 s (by omega)]
            simp [mset]
          · exact k3 s (by omega) h3
        · rw [k4 s (by omega)]
          have : ¬ s = r := by omega
          simp [mset, this]
        · rw [k6]; simp [mset]
      · refine Or.inr ⟨k1, s, by omega, k3, k4, k5, fun u q1 q2 => ?_, k7⟩
        by_cases e : u = r
        · subst e
          rw [fit_r hj h1 (by omega)]; exact z
        · exact k6 u (by omega) q2
    · rw [if_neg z] at hd
      refine ⟨mset m0 39 0 (5 * j + r) (-9), hR.val (by omega), Or.inr ⟨?_, r, Nat.le_refl _, by omega, hn, fun _ => by rw [fit_r hj h1 (by omega)]; exact z, fun u q1 q2 => by omega, by simpa [mset] using hp⟩⟩
      rw [lpk_s, fish_step hj h1 (by omega), hd, bnd_some, if_pos rfl]
