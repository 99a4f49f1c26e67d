/-! ===== least ===== -/
theorem ways_cases (x : Int32) : ((∀ m, f_X6_isWithin x 1 15 m = some (0, m)) ∧ (∀ m, f_X7_within x 1 15 m = some (0, m))) ∨ (∃ w, 1 ≤ w ∧ w ≤ 15 ∧ x = nI w ∧ (∀ m, f_X6_isWithin x 1 15 m = some (1, m)) ∧ ∀ m, f_X7_within x 1 15 m = some (1, m)) := by
  by_cases h1 : x < 1
  · exact Or.inl ⟨fun m => by simp [f_X6_isWithin, h1], fun m => by simp [f_X7_within, h1]⟩
  · by_cases h2 : (15 : Int32) < x
    · exact Or.inl ⟨fun m => by simp [f_X6_isWithin, h1, h2], fun m => by simp [f_X7_within, h1, h2]⟩
    · have h0 : ¬ x < 0 := fun z => by
        rw [Int32.lt_iff_toInt_lt] at z h1
        have e0 : (0 : Int32).toInt = 0 := by decide
        have e1 : (1 : Int32).toInt = 1 := by decide
        omega
      obtain ⟨w, hw, e⟩ := nI_rng (b := 15) (n := 15) rfl (by decide) h0 h2
      refine Or.inr ⟨w, ?_, hw, e, fun m => by simp [f_X6_isWithin, h1, h2], fun m => by simp [f_X7_within, h1, h2]⟩
      by_cases z : w = 0
      · subst z
        rw [e] at h1
        exact absurd (by decide) h1
      · omega
theorem k_cases {x : Int32} (h : (-1 : Int32) ≤ x) : x = -1 ∨ ∃ k, k < 2 ^ 31 ∧ x = nI k := by
  by_cases h0 : x < 0
  · refine Or.inl ?_
    rw [Int32.lt_iff_toInt_lt] at h0
    rw [Int32.le_iff_toInt_le] at h
    have e0 : (0 : Int32).toInt = 0 := by decide
    have e1 : (-1 : Int32).toInt = -1 := by decide
    exact Int32.toInt_inj.mp (by omega)
  · exact Or.inr (nI_of h0)
theorem dig_r {m : Mem} {k : Nat} {K : Int32 × Mem → Option (Int32 × Mem)} : ∀ t fu v, t < fu → k + t < 2 ^ 31 → v < 2 ^ 31 → lpk (f_X7_least_b78 (nI k)) fu (nI v, nI (k + t), m) K = K (nI (v / 50 ^ t), m)
  | 0, fu, v, hfu, ht, hv => by
    obtain ⟨fu, rfl⟩ : ∃ n', fu = n' + 1 := ⟨fu - 1, by omega⟩
    rw [lpk_s]
    unfold f_X7_least_b78
    dsimp only
    rw [if_pos (nI_le (a := k + 0) (b := k) (Nat.le_refl _) (by omega)), Nat.pow_zero, Nat.div_one]
  | t + 1, fu, v, hfu, ht, hv => by
    obtain ⟨fu, rfl⟩ : ∃ n', fu = n' + 1 := ⟨fu - 1, by omega⟩
    have st : ∀ next, f_X7_least_b78 (nI k) next K (nI v, nI (k + (t + 1)), m) = next (nI (v / 50), nI (k + t), m) := fun next => by
      unfold f_X7_least_b78 dv
      dsimp only
      rw [if_neg (nI_ge (by omega) (by omega)), if_pos (by decide), show (50 : Int32) = nI 50 from rfl, pk_div hv (by decide) (by decide), show k + (t + 1) = (k + t) + 1 from rfl, pk_m1]
    have := Nat.div_le_self v 50
    rw [lpk_s, st, dig_r t fu (v / 50) (by omega) (by omega) (by omega), Nat.div_div_eq_div_mul, Nat.pow_succ, Nat.mul_comm]
def ansS (n : Nat) (z : Option (Nat × List Nat)) (x : Int32) : Int32 := match z with
  | none => -9
  | some q => if x < nI n then (if x = -1 then nI q.1 else nI (q.2.getD (ix x) 0)) else -9
theorem a_least (x1 x2 : Int32) : Agree (f_X6_least x1 x2) (f_X7_least x1 x2) := agree_of (fun ft tr Sh F rn rf rs hv => by
  have hn := hv.2.1.1
  have hW := hv.2.1.wc
  by_cases hk : (-1 : Int32) ≤ x2
  case neg =>
    exact ⟨-1, ft, tr, Sh, F, rn, rf, rs, hv, fun m h => ⟨m, by unfold f_X6_least; rw [if_neg hk], h, fun _ _ => rfl⟩, fun m h => ⟨m, by unfold f_X7_least; rw [if_neg hk], h, fun _ _ => rfl⟩⟩
  rcases ways_cases x1 with ⟨h1, h2⟩ | ⟨w, hw1, hw2, rfl, h1, h2⟩
  · exact ⟨-2, ft, tr, Sh, F, rn, rf, rs, hv, fun m h => ⟨m, by unfold f_X6_least; rw [if_pos hk, h1, bnd_some, if_pos rfl], h, fun _ _ => rfl⟩, fun m h => ⟨m, by unfold f_X7_least; rw [if_pos hk, h2, bnd_some, if_pos rfl], h, fun _ _ => rfl⟩⟩
  by_cases hF : F 0 0 = 0
  · refine ⟨-3, ft, tr, Sh, F, rn, rf, rs, hv, fun m h => ⟨m, ?_, h, fun _ _ => rfl⟩, fun m h => ⟨m, ?_, h, fun _ _ => rfl⟩⟩
    · have c : m 4 0 1 = 0 := by rw [h.2.2.2.1.1, hF, nI_0]
      unfold f_X6_least
      rw [if_pos hk, h1, bnd_some, if_neg (by decide), if_pos c]
    · have c : m 30 0 5 = 0 := by rw [h.2.2.2.1.2.2.2.1, if_pos hF]
      unfold f_X7_least
      rw [if_pos hk, h2, bnd_some, if_neg (by decide), if_pos c]
  have hF1 : 1 ≤ F 0 0 := by omega
  refine ⟨ansS (F 0 0) (zS F w) x2, ft, tr, Sh, F, rn, rf, rs, hv, fun m h => ?_, fun m h => ?_⟩
  · have c : ¬ m 4 0 1 = 0 := by rw [h.2.2.2.1.1]; exact nI_ne0 (by omega) (by omega)
    obtain ⟨m1, e1, e2, e3, e4⟩ := find_c hW hw1 hw2 hF1 h
    refine ⟨m1, ?_, e2, e3⟩
    have q1 := e2.2.2.2.1.1
    unfold f_X6_least
    rw [if_pos hk, h1, bnd_some, if_neg (by decide), if_neg c, e1, bnd_some]
    unfold ansS
    cases hz : zS F w with
    | none =>
      rw [hz] at e4
      have e4 : (1000000 : Int32) ≤ m1 17 0 4 := e4
      rw [if_pos e4]
    | some q =>
      rw [hz] at e4
      obtain ⟨g1, g2, g3⟩ := e4
      have e5 : ¬ (1000000 : Int32) ≤ m1 17 0 4 := by rw [g1, nI_m]; exact nI_ge g2 (by decide)
      rw [if_neg e5]
      dsimp only
      by_cases d : x2 < nI (F 0 0)
      · have d' : x2 < m1 4 0 1 := by rw [q1]; exact d
        rw [if_pos d', if_pos d]
        rcases k_cases hk with rfl | ⟨k, hk1, rfl⟩
        · rw [if_neg (by decide), if_pos rfl, g1]
        · have hkn : k < F 0 0 := (nI_ltI hk1 (by omega)).mp d
          obtain ⟨b1, b2⟩ := i5 hkn hn
          have n1 : ¬ nI k = -1 := fun q => by
            have h := nI_toInt hk1
            rw [q] at h
            have : (-1 : Int32).toInt = -1 := by decide
            omega
          rw [if_pos (nI_pos' hk1), if_pos b1, if_neg n1, b2, g3 k hkn]
      · have d' : ¬ x2 < m1 4 0 1 := by rw [q1]; exact d
        rw [if_neg d', if_neg d]
  · have c : ¬ m 30 0 5 = 0 := by rw [h.2.2.2.1.2.2.2.1, if_neg hF]; decide
    obtain ⟨m1, e1, e2, e4⟩ := find_r (w := w) hW (by omega) hF1 h.2.2.2.1
    refine ⟨m1, ?_, e2.ri h, fun t ht => e2.lo ht⟩
    have q1 := (e2.T h.2.2.2.1).1
    unfold f_X7_least
    rw [if_pos hk, h2, bnd_some, if_neg (by decide), if_neg c, e1, bnd_some]
    unfold ansS
    cases hz : zS F w with
    | none =>
      rw [hz] at e4
      have e4 : m1 30 0 28 = -9 := e4
      rw [if_pos e4]
    | some q =>
      rw [hz] at e4
      obtain ⟨g1, g2, g3, g4, g5⟩ := e4
      have hb := num_b (by omega) g5
      have e5 : ¬ m1 30 0 28 = -9 := by rw [g1]; exact nn9 hb
      rw [if_neg e5]
      dsimp only
      by_cases d : x2 < nI (F 0 0)
      · have d' : x2 < m1 30 0 7 := by rw [q1]; exact d
        rw [if_pos d', if_pos d]
        rcases k_cases hk with rfl | ⟨k, hk1, rfl⟩
        · rw [if_pos rfl, if_pos rfl, g2]
        · have hkn : k < F 0 0 := (nI_ltI hk1 (by omega)).mp d
          have n1 : ¬ nI k = -1 := fun q => by
            have h := nI_toInt hk1
            rw [q] at h
            have : (-1 : Int32).toInt = -1 := by decide
            omega
          rw [if_neg n1, if_neg n1, g1, q1, (nI_m2 _ (by omega) hF1).2, ix_nI hk1]
          have := dig_r (m := m1) (k := k) (K := fun t78 => if ¬ (50 : Int32) = 0 then dv (t78.1 - t78.1 / (50 : Int32) * (50 : Int32)) (fun q98 => some (q98, t78.2)) else none) (F 0 0 - 1 - k) fuelN (numS 0 q.2) (by unfold fuelN; omega) (by omega) hb
          rw [show k + (F 0 0 - 1 - k) = F 0 0 - 1 by omega] at this
          rw [this, if_pos (by decide)]
          unfold dv
          have hb2 := Nat.div_le_self (numS 0 q.2) (50 ^ (F 0 0 - 1 - k))
          have ha := num_at q.2 0 k g5 (by omega)
          rw [g3] at ha
          dsimp only
          rw [show (50 : Int32) = nI 50 from rfl, pk_rem (by omega) (by decide) (by decide), ha]
      · have d' : ¬ x2 < m1 30 0 7 := by rw [q1]; exact d
        rw [if_neg d', if_neg d])
