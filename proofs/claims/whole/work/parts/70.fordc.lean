theorem okto_or (c : Nat → Int32) (a : Nat) : ∀ n, Okto c a n ∨ ∃ i, i < n ∧ Okto c a i ∧ ¬ fitc i (c (a + i)) = true
  | 0 => Or.inl (fun j hj => by omega)
  | n + 1 => by
    rcases okto_or c a n with h | ⟨i, h1, h2, h3⟩
    · by_cases z : fitc n (c (a + n)) = true
      · exact Or.inl (h.up (fun u q1 q2 => by
          have e : u = n := by omega
          subst e; exact z))
      · exact Or.inr ⟨n, by omega, h, z⟩
    · exact Or.inr ⟨i, by omega, h2, h3⟩
theorem stop_or (c : Nat → Int32) (a n : Nat) : (∃ J, 1 ≤ J ∧ J ≤ 5 ∧ n = 2 + 6 * J ∧ Okto c a n) ∨ ∃ i, Stop c a n i := by
  rcases okto_or c a n with h | ⟨i, h1, h2, h3⟩
  · by_cases q : 8 ≤ n ∧ (n - 2) % 6 = 0
    · by_cases g : n ≤ 32
      · exact Or.inl ⟨(n - 2) / 6, by omega, by omega, by omega, h⟩
      · have := h 32 (by omega)
        cases this
    · exact Or.inr ⟨n, h, Nat.le_refl _, fun q => by omega, fun _ => q⟩
  · exact Or.inr ⟨i, h2, by omega, fun _ => h3, fun q => by omega⟩
theorem Stop.uniq {c : Nat → Int32} {a n i j : Nat} (h : Stop c a n i) (h' : Stop c a n j) : i = j := by
  have key : ∀ {i j : Nat}, Stop c a n i → Stop c a n j → ¬ i < j := fun {i j} h h' q => h.2.2.1 (by have := h'.2.1; omega) (h'.1 i q)
  have := key h h'
  have := key h' h
  omega
theorem Stop.not {c : Nat → Int32} {a n i J : Nat} (h : Stop c a n i) (h1 : 1 ≤ J) (hn : n = 2 + 6 * J) (hO : Okto c a n) : False := by
  by_cases q : i < n
  · exact h.2.2.1 q (hO i q)
  · exact h.2.2.2 (by have := h.2.1; omega) (by omega)
/-- the ford read is put in place -/
def PtF (m : Mem) (F : FdT) (f : Nat) : Prop := m 34 0 f = nI (F 3 f) ∧ m 35 0 f = nI (F 4 f) ∧ m 36 0 f = nI (F 5 f) ∧ m 37 0 f = nI (F 6 f) ∧ m 38 0 f = nI (F 7 f)
theorem put_r {c : Nat → Int32} {a J : Nat} {m : Mem} (hJ : J ≤ 5) (hO : Okto c a (2 + 6 * J)) (hV : Vals c a m J) (h7 : m 30 0 7 = nI J) (K : Mem → Option (Int32 × Mem)) :
    ∃ m', lpk f_X7_ford_b108 fuelN ((0 : Int32), m) K = K m' ∧ (∀ t, t < 34 ∨ 38 < t → m' t = m t) ∧ ∀ f, f < J → PtF m' (fordF c a J) f := by
  have key : ∀ (t f n : Nat) (m0 : Mem), f + t = J → t < n → (∀ t, t < 34 ∨ 38 < t → m0 t = m t) → (∀ x, x < f → PtF m0 (fordF c a J) x) → ∃ m1, lpk f_X7_ford_b108 n (nI f, m0) K = K m1 ∧ (∀ t, t < 34 ∨ 38 < t → m1 t = m t) ∧ ∀ x, x < J → PtF m1 (fordF c a J) x := by
    intro t
    induction t with
    | zero =>
      intro f n m0 hf hn hF h
      obtain ⟨n, rfl⟩ : ∃ n', n = n' + 1 := ⟨n - 1, by omega⟩
      have e : f = J := by omega
      subst e
      refine ⟨m0, ?_, hF, h⟩
      have hle : m0 30 0 7 ≤ nI f := by rw [hF 30 (by decide), h7]; exact nI_le (Nat.le_refl _) (by omega)
      rw [lpk_s]
      unfold f_X7_ford_b108
      dsimp only
      rw [if_pos hle]
    | succ t ih =>
      intro f n m0 hf hn hF h
      obtain ⟨n, rfl⟩ : ∃ n', n = n' + 1 := ⟨n - 1, by omega⟩
      have hge : ¬ m0 30 0 7 ≤ nI f := by rw [hF 30 (by decide), h7]; exact nI_ge (by omega) (by omega)
      obtain ⟨b1, b2⟩ := i5 (f := f) (n := J) (by omega) hJ
      have e5 : (5 : Int32) * nI f = nI (5 * f) := pk_mul 5 f
      have i0 : inB (nI (5 * f)) 25 = true := inB_nI (by omega) (by decide)
      have i1 : inB (nI (5 * f + 1)) 25 = true := inB_nI (by omega) (by decide)
      have i2 : inB (nI (5 * f + 2)) 25 = true := inB_nI (by omega) (by decide)
      have i3 : inB (nI (5 * f + 3)) 25 = true := inB_nI (by omega) (by decide)
      have i4 : inB (nI (5 * f + 4)) 25 = true := inB_nI (by omega) (by decide)
      have x0 : ix (nI (5 * f)) = 5 * f := ix_nI (by omega)
      have x1 : ix (nI (5 * f + 1)) = 5 * f + 1 := ix_nI (by omega)
      have x2 : ix (nI (5 * f + 2)) = 5 * f + 2 := ix_nI (by omega)
      have x3 : ix (nI (5 * f + 3)) = 5 * f + 3 := ix_nI (by omega)
      have x4 : ix (nI (5 * f + 4)) = 5 * f + 4 := ix_nI (by omega)
      have p1 : nI (5 * f) + 1 = nI (5 * f + 1) := nI_add (5 * f) 1
      have p2 : nI (5 * f) + 2 = nI (5 * f + 2) := nI_add (5 * f) 2
      have p3 : nI (5 * f) + 3 = nI (5 * f + 3) := nI_add (5 * f) 3
      have p4 : nI (5 * f) + 4 = nI (5 * f + 4) := nI_add (5 * f) 4
      obtain ⟨v0, vs⟩ := hV f (by omega)
      have h4' := (dg_at (by decide) (by decide) (fit_4 (f := f) (by omega) (hO (4 + 6 * f) (by omega)))).1
      have h5' := (dg_at (by decide) (by decide) (fit_5 (f := f) (by omega) (hO (5 + 6 * f) (by omega)))).1
      have h6' := (dg_at (by decide) (by decide) (fit_6 (f := f) (by omega) (hO (6 + 6 * f) (by omega)))).1
      have h7' := (dg_at (by decide) (by decide) (fit_7 (f := f) (by omega) (hO (7 + 6 * f) (by omega)))).1
      have v1 := vs 1 (by decide) (by decide)
      have v2 := vs 2 (by decide) (by decide)
      have v3 := vs 3 (by decide) (by decide)
      have v4 := vs 4 (by decide) (by decide)
      rw [show 3 + 6 * f + 1 = 4 + 6 * f by omega, h4'] at v1
      rw [show 3 + 6 * f + 2 = 5 + 6 * f by omega, h5'] at v2
      rw [show 3 + 6 * f + 3 = 6 + 6 * f by omega, h6'] at v3
      rw [show 3 + 6 * f + 4 = 7 + 6 * f by omega, h7'] at v4
      rw [← hF 39 (by decide)] at v0 v1 v2 v3 v4
      obtain ⟨m1, e1, e2, e3⟩ := ih (f + 1) n (mset (mset (mset (mset (mset m0 34 0 f (m0 39 0 (5 * f))) 35 0 f (m0 39 0 (5 * f + 1))) 36 0 f (m0 39 0 (5 * f + 2))) 37 0 f (m0 39 0 (5 * f + 3))) 38 0 f (m0 39 0 (5 * f + 4))) (by omega) (by omega)
        (fun t ht => by rw [mset_ne (by omega), mset_ne (by omega), mset_ne (by omega), mset_ne (by omega), mset_ne (by omega), hF t ht])
        (fun x hx => by
          by_cases e : x = f
          · subst e
            exact ⟨by simp [mset, fordF, v0], by simp [mset, fordF, v1], by simp [mset, fordF, v2], by simp [mset, fordF, v3], by simp [mset, fordF, v4]⟩
          · have := h x (by omega)
            unfold PtF at this ⊢
            simpa [mset, e] using this)
      refine ⟨m1, ?_, e2, e3⟩
      rw [← e1, lpk_s]
      have st : ∀ nx, f_X7_ford_b108 nx K (nI f, m0) = nx (nI (f + 1), mset (mset (mset (mset (mset m0 34 0 f (m0 39 0 (5 * f))) 35 0 f (m0 39 0 (5 * f + 1))) 36 0 f (m0 39 0 (5 * f + 2))) 37 0 f (m0 39 0 (5 * f + 3))) 38 0 f (m0 39 0 (5 * f + 4))) := fun nx => by
        unfold f_X7_ford_b108
        dsimp only
        rw [if_neg hge, e5]
        simp only [p1, p2, p3, p4, i0, i1, i2, i3, i4, b1, b2, x0, x1, x2, x3, x4, if_true, nI_1]
      rw [st]
  exact key J 0 fuelN m (by omega) (by unfold fuelN; omega) (fun _ _ => rfl) (fun x hx => by omega)
