def TF (m m' : Mem) : Prop := ∀ t, t ≠ 4 → t ≠ 6 → m' t = m t
def TkF (m : Mem) (F : FdT) (f : Nat) : Prop := m 6 f 0 = nI (F 3 f) ∧ m 6 f 1 = nI (F 4 f) ∧ m 6 f 2 = nI (F 5 f) ∧ m 6 f 3 = nI (F 6 f) ∧ m 6 f 4 = nI (F 7 f)
theorem take_c {m : Mem} {k a la len N : Nat} {c : Nat → Int32} (hS : SC m k (some (la, len, c))) (hl : len ≤ 60) (hal : a + (2 + 6 * N) ≤ len) (hN : N ≤ 5) (hN1 : 1 ≤ N) (hO : Okto c a (2 + 6 * N)) :
    ∃ m', f_X5_take k (nI a) (nI (2 + 6 * N)) m = some ((), m') ∧ TF m m' ∧ TC m' (fordF c a N) := by
  have hSx : ∀ m', TF m m' → SC m' k (some (la, len, c)) := fun m' h => by
    unfold SC at hS ⊢
    rw [h 2 (by decide) (by decide), h 3 (by decide) (by decide)]
    exact hS
  have key : ∀ (t f n : Nat) (m0 : Mem), f + t = N → t < n → TF m m0 → (∀ j, m0 4 0 1 = nI N ∧ m0 4 0 2 = nI (fordF c a N 1 j) ∧ m0 4 0 3 = 0) → (∀ x, x < f → TkF m0 (fordF c a N) x) → ∃ m1, lpk (f_X5_take_b36 k (nI a)) n (nI f, m0) (fun t36 => some ((), t36)) = some ((), m1) ∧ TF m m1 ∧ (∀ j, m1 4 0 1 = nI N ∧ m1 4 0 2 = nI (fordF c a N 1 j) ∧ m1 4 0 3 = 0) ∧ ∀ x, x < N → TkF m1 (fordF c a N) x := by
    intro t
    induction t with
    | zero =>
      intro f n m0 hf hn hF h4 h
      obtain ⟨n, rfl⟩ : ∃ n', n = n' + 1 := ⟨n - 1, by omega⟩
      have e : f = N := by omega
      subst e
      refine ⟨m0, ?_, hF, h4, h⟩
      have hle : nI f ≤ nI f := nI_le (Nat.le_refl _) (by omega)
      simp [lpk_s, f_X5_take_b36, (h4 0).1, hle]
    | succ t ih =>
      intro f n m0 hf hn hF h4 h
      obtain ⟨n, rfl⟩ : ∃ n', n = n' + 1 := ⟨n - 1, by omega⟩
      have hge : ¬ nI N ≤ nI f := nI_ge (by omega) (by omega)
      obtain ⟨b1, b2⟩ := i5 (f := f) (n := N) (by omega) hN
      have ei : nI a + 2 + nI f * 6 = nI (a + (2 + 6 * f)) := by
        rw [show nI a + 2 = nI (a + 2) from nI_add a 2, show nI f * 6 = nI (f * 6) from pk_mul f 6, nI_add, show a + 2 + f * 6 = a + (2 + 6 * f) by omega]
      have h4' := (dg_at (by decide) (by decide) (fit_4 (f := f) (by omega) (hO (4 + 6 * f) (by omega)))).1
      have h5' := (dg_at (by decide) (by decide) (fit_5 (f := f) (by omega) (hO (5 + 6 * f) (by omega)))).1
      have h6' := (dg_at (by decide) (by decide) (fit_6 (f := f) (by omega) (hO (6 + 6 * f) (by omega)))).1
      have h7' := (dg_at (by decide) (by decide) (fit_7 (f := f) (by omega) (hO (7 + 6 * f) (by omega)))).1
      have tk := take1 (a := a) (f := f) (hSx m0 hF) hl (by omega)
      rw [h4', h5', h6', h7'] at tk
      obtain ⟨m1, e1, e2, e3, e4⟩ := ih (f + 1) n (mset (mset (mset (mset (mset m0 6 f 0 (nI (kindc (c (a + (3 + 6 * f)))))) 6 f 1 (nI (dg (c (a + (4 + 6 * f)))))) 6 f 2 (nI (dg (c (a + (5 + 6 * f)))))) 6 f 3 (nI (dg (c (a + (6 + 6 * f)))))) 6 f 4 (nI (dg (c (a + (7 + 6 * f)))))) (by omega) (by omega)
        (fun t h1 h2 => by rw [mset_ne h2, mset_ne h2, mset_ne h2, mset_ne h2, mset_ne h2, hF t h1 h2])
        (fun j => by simpa [mset] using h4 j)
        (fun x hx => by
          by_cases e : x = f
          · subst e
            exact ⟨by simp [mset, fordF], by simp [mset, fordF], by simp [mset, fordF], by simp [mset, fordF], by simp [mset, fordF]⟩
          · have := h x (by omega)
            unfold TkF at this ⊢
            simpa [mset, e] using this)
      refine ⟨m1, ?_, e2, e3, e4⟩
      rw [← e1, lpk_s]
      have st : ∀ nx, f_X5_take_b36 k (nI a) nx (fun t36 => some ((), t36)) (nI f, m0) = nx (nI (f + 1), mset (mset (mset (mset (mset m0 6 f 0 (nI (kindc (c (a + (3 + 6 * f)))))) 6 f 1 (nI (dg (c (a + (4 + 6 * f)))))) 6 f 2 (nI (dg (c (a + (5 + 6 * f)))))) 6 f 3 (nI (dg (c (a + (6 + 6 * f)))))) 6 f 4 (nI (dg (c (a + (7 + 6 * f)))))) := fun nx => by
        unfold f_X5_take_b36
        dsimp only
        have hge' : ¬ m0 4 0 1 ≤ nI f := by rw [(h4 0).1]; exact hge
        rw [if_neg hge', if_pos b1, b2, ei, tk, bnd_some, nI_1]
      rw [st]
  have a1 : f_X4_at k (nI a + 1) m = some (c (a + 1), m) := by rw [nI_1]; exact at_c hS hl (by omega)
  have hd := (dg_at (by decide) (by decide) (fit_1 (hO 1 (by omega)))).1
  have h6 : ¬ (6 : Int32) = 0 := by decide
  have eq : (nI (2 + 6 * N) - 2) / 6 = nI N := by
    rw [show nI (2 + 6 * N) - 2 = nI (2 + 6 * N - 2) from pk_sub (b := 2) (by omega)]
    rw [show nI (2 + 6 * N - 2) / 6 = nI ((2 + 6 * N - 2) / 6) from pk_div (d := 6) (by omega) (by decide) (by decide)]
    rw [show (2 + 6 * N - 2) / 6 = N by omega]
  have h5n : ¬ (5 : Int32) < nI N := fun z => by have := (nI_ltI (a := 5) (by decide) (by omega)).mp z; omega
  obtain ⟨m1, e1, e2, e3, e4⟩ := key N 0 fuelN (mset (mset (mset m 4 0 2 (nI (dg (c (a + 1))))) 4 0 3 0) 4 0 1 (nI N)) (by omega) (by unfold fuelN; omega)
    (fun t h1 h2 => by rw [mset_ne h1, mset_ne h1, mset_ne h1]) (fun j => by simp [mset, fordF]) (fun x hx => by omega)
  refine ⟨m1, ?_, e2, (e3 0).1, (e3 0).2.1, ?_, fun f hf => e4 f hf⟩
  · unfold f_X5_take
    rw [a1, bnd_some, if_pos h6, eq, hd]
    unfold dv
    dsimp only
    rw [if_neg h5n]
    exact e1
  · rw [(e3 0).2.2]; rfl
