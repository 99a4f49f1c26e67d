def RG (m m' : Mem) : Prop := (∀ t, t ≠ 30 → t ≠ 39 → m' t = m t) ∧ ∀ p, p < 14 ∨ 16 < p → m' 30 0 p = m 30 0 p
theorem RG.tr {a b c : Mem} (h : RG a b) (h' : RG b c) : RG a c := ⟨fun t h1 h2 => (h'.1 t h1 h2).trans (h.1 t h1 h2), fun p hp => (h'.2 p hp).trans (h.2 p hp)⟩
theorem RG.at {m : Mem} {p : Nat} {v : Int32} (hp : 14 ≤ p ∧ p ≤ 16) : RG m (mset m 30 0 p v) := ⟨fun t h1 _ => mset_ne h1, fun q hq => by simp [mset]; omega⟩
theorem fit_0e {x : Int32} : fitc 0 x = (x == 104) := rfl
theorem fit_1e {x : Int32} : fitc 1 x = dgB 0 9 x := rfl
theorem readFord_r {c : Nat → Int32} {a B n : Nat} {m : Mem} (hE : B + n ≤ 240) (hn : n ≤ 60) (hc : ∀ i, i < n → m 33 0 (B + i) = c (a + i)) (hp : m 30 0 14 = nI B) :
    ∃ m', RG m m' ∧ ((f_X7_readFord (nI (B + n)) m = some (1, m') ∧ ∃ J, 1 ≤ J ∧ J ≤ 5 ∧ n = 2 + 6 * J ∧ Okto c a n ∧ m' 30 0 15 = nI (dg (c (a + 1))) ∧ m' 30 0 16 = nI J ∧ Vals c a m' J) ∨
      (f_X7_readFord (nI (B + n)) m = some (0, m') ∧ ∃ i, Stop c a n i ∧ m' 30 0 14 = nI (B + i))) := by
  have hp0 : mset m 30 0 16 0 30 0 14 = nI B := by simpa [mset] using hp
  have r0 : RG m (mset m 30 0 16 0) := RG.at (by decide)
  have hO0 : Okto c a 0 := fun j hj => by omega
  by_cases hn0 : n = 0
  · subst hn0
    refine ⟨mset m 30 0 16 0, r0, Or.inr ⟨?_, 0, ⟨hO0, Nat.le_refl _, fun q => by omega, fun _ => by omega⟩, hp0⟩⟩
    unfold f_X7_readFord
    rw [sign_end (E := B + 0) (s := 104) hp0 (by omega), bnd_some, if_pos rfl]
  have hs := sign_at (s := 104) hp0 (show B < B + n by omega) hE
  have hcell : mset m 30 0 16 0 33 0 B = c (a + 0) := by rw [mset_ne (by decide)]; exact hc 0 (by omega)
  rw [hcell] at hs
  by_cases z : c (a + 0) = 104
  case neg =>
    rw [if_neg z] at hs
    refine ⟨mset m 30 0 16 0, r0, Or.inr ⟨?_, 0, ⟨hO0, by omega, fun _ => by rw [fit_0e]; simpa using z, fun q => by omega⟩, hp0⟩⟩
    unfold f_X7_readFord
    rw [hs, bnd_some, if_pos rfl]
  rw [if_pos z] at hs
  have hO1 : Okto c a 1 := hO0.up (fun u q1 q2 => by
    have e : u = 0 := by omega
    subst e
    rw [fit_0e, z]; rfl)
  have hp1 : mset (mset m 30 0 16 0) 30 0 14 (nI (B + 1)) 30 0 14 = nI (B + 1) := by simp [mset]
  have r1 : RG m (mset (mset m 30 0 16 0) 30 0 14 (nI (B + 1))) := r0.tr (RG.at (by decide))
  by_cases hn1 : n = 1
  · subst hn1
    refine ⟨mset (mset (mset m 30 0 16 0) 30 0 14 (nI (B + 1))) 30 0 15 (-9), r1.tr (RG.at (by decide)), Or.inr ⟨?_, 1, ⟨hO1, Nat.le_refl _, fun q => by omega, fun _ => by omega⟩, by simp [mset]⟩⟩
    unfold f_X7_readFord
    rw [hs, bnd_some, if_neg (by decide), digit_end (E := B + 1) hp1 (by omega), bnd_some, if_pos (by simp [mset])]
  have hd := digit_at (lo := 0) (hi := 9) hp1 (show B + 1 < B + n by omega) hE
  have hcell1 : mset (mset m 30 0 16 0) 30 0 14 (nI (B + 1)) 33 0 (B + 1) = c (a + 1) := by rw [mset_ne (by decide), mset_ne (by decide)]; exact hc 1 (by omega)
  rw [hcell1] at hd
  by_cases z1 : dgB 0 9 (c (a + 1)) = true
  case neg =>
    rw [if_neg z1] at hd
    refine ⟨mset (mset (mset m 30 0 16 0) 30 0 14 (nI (B + 1))) 30 0 15 (-9), r1.tr (RG.at (by decide)), Or.inr ⟨?_, 1, ⟨hO1, by omega, fun _ => by rw [fit_1e]; exact z1, fun q => by omega⟩, by simp [mset]⟩⟩
    unfold f_X7_readFord
    rw [hs, bnd_some, if_neg (by decide), hd, bnd_some, if_pos (by simp [mset])]
  rw [if_pos z1] at hd
  have g := dg_at (l := 0) (h := 9) (by decide) (by decide) z1
  rw [g.1] at hd
  have hO2 : Okto c a (2 + 6 * 0) := hO1.up (fun u q1 q2 => by
    have e : u = 1 := by omega
    subst e
    rw [fit_1e]; exact z1)
  have hv : ¬ nI (dg (c (a + 1))) = -9 := m9' (by omega)
  obtain ⟨m', k1, k2⟩ := fish_loop (c := c) (a := a) (n := n) hE (mset (mset (mset (mset m 30 0 16 0) 30 0 14 (nI (B + 1))) 30 0 14 (nI (B + 1 + 1))) 30 0 15 (nI (dg (c (a + 1))))) (fun i hi => by rw [mset_ne (by decide), mset_ne (by decide), mset_ne (by decide), mset_ne (by decide)]; exact hc i hi)
    (fun t40 => if (t40 30 0 14) = nI (B + n) then some ((1 : Int32), t40) else some ((0 : Int32), t40)) 5 0 fuelN _ rfl (by decide) RD.rf hO2 (by omega) (by simp [mset]) (by simp [mset, nI_0]) (fun f hf => by omega)
  have hG : RG m m' := ((r1.tr (RG.at (by decide))).tr (RG.at (by decide))).tr ⟨k1.1, k1.2.1⟩
  have e : f_X7_readFord (nI (B + n)) m = lpk (f_X7_readFord_b40 (nI (B + n))) fuelN (mset (mset (mset (mset m 30 0 16 0) 30 0 14 (nI (B + 1))) 30 0 14 (nI (B + 1 + 1))) 30 0 15 (nI (dg (c (a + 1))))) (fun t40 => if (t40 30 0 14) = nI (B + n) then some ((1 : Int32), t40) else some ((0 : Int32), t40)) := by
    unfold f_X7_readFord
    rw [hs, bnd_some, if_neg (by decide), hd, bnd_some, if_neg (by simpa [mset] using hv)]
  refine ⟨m', hG, ?_⟩
  rw [e]
  rcases k2 with ⟨f1, J, f2, f3, f4, f5, f6, f7, f8, f9⟩ | ⟨f1, i, f2, f3⟩
  · by_cases hJ : 2 + 6 * J = n
    · refine Or.inl ⟨by rw [f1, if_pos (by rw [f6, hJ])], J, f2, f3, hJ.symm, by rw [← hJ]; exact f4, ?_, f7, f8⟩
      rw [k1.2.2.2]; simp [mset]
    · have hJ5 : J = 5 := by omega
      subst hJ5
      refine Or.inr ⟨by rw [f1, if_neg (by rw [f6]; exact fun q => hJ (by have := (nI_eq (by omega) (by omega)).mp q; omega))], 2 + 6 * 5, ⟨f4, f5, fun _ => ?_, fun q => absurd q hJ⟩, f6⟩
      have : fitc (2 + 6 * 5) (c (a + (2 + 6 * 5))) = false := rfl
      rw [this]; decide
  · exact Or.inr ⟨f1, i, f2, f3⟩
