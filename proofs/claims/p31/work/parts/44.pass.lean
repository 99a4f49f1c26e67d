def payI (p : Nat) : Int32 := if p = 5 then -1 else nI p
theorem XR.fr {m m' : Mem} {w : Nat} {F C : FdT} (h : XR m w F C) (e : ∀ t, 7 ≤ t → t ≤ 14 → ∀ j, m' t w j = m t w j) (e2 : ∀ f g, f < 5 → m' 14 (5 * w + f) g = m 14 (5 * w + f) g) (hn : F 0 0 ≤ 5) : XR m' w F C := by
  obtain ⟨q0, q1, q2, q3, q4, q5, q6⟩ := h
  refine ⟨by rw [e 7 (by decide) (by decide)]; exact q0, by rw [e 7 (by decide) (by decide)]; exact q1, by rw [e 7 (by decide) (by decide)]; exact q2, by rw [e 7 (by decide) (by decide)]; exact q3, by rw [e 7 (by decide) (by decide)]; exact q4, by rw [e 7 (by decide) (by decide)]; exact q5, fun f hf => ?_⟩
  obtain ⟨p1, p2, p3, p4, p5, p6⟩ := q6 f hf
  exact ⟨by rw [e 8 (by decide) (by decide)]; exact p1, by rw [e 9 (by decide) (by decide)]; exact p2, by rw [e 10 (by decide) (by decide)]; exact p3, by rw [e 11 (by decide) (by decide)]; exact p4, by rw [e 12 (by decide) (by decide)]; exact p5, fun g hg => by rw [e2 f g (by omega)]; exact p6 g hg⟩
/-- above: a fish's bit turns -/
theorem XR_up {m : Mem} {w f : Nat} {F C : FdT} {g : Nat} (hX : XR m w F C) (hB : CB C g) (hf : f < 5) : XR (mset m 7 w 12 ((m 7 w 12) ^^^ ((1 : Int32) <<< (nI f &&& 31)))) w F (upS C f) := by
  obtain ⟨q0, q1, q2, q3, q4, q5, q6⟩ := hX
  have e := (bit_x (C 2 0) (by have := hB.2.2.1; omega) f (by omega)).1
  refine ⟨by simpa [mset] using q0, by simpa [mset] using q1, by simpa [mset, upS, fset] using q2, by simpa [mset, upS, fset] using q3, by simp [mset, upS, fset, q4, e], by simpa [mset, upS, fset] using q5, fun x hx => ?_⟩
  have := q6 x hx
  simpa [mset, upS, fset, o5] using this
theorem XR_song {m : Mem} {w f : Nat} {F C : FdT} {g : Nat} (hX : XR m w F C) (hB : CB C g) (hf : f < F 0 0) (h6 : F 6 f < 6) : XR (mset m 7 w 10 ((m 7 w 10) ^^^ ((1 : Int32) <<< ((m 11 w f) &&& 31)))) w F (fset C 0 0 (C 0 0 ^^^ 2 ^ F 6 f)) := by
  obtain ⟨q0, q1, q2, q3, q4, q5, q6⟩ := hX
  have e := (bit_x (C 0 0) hB.1 (F 6 f) h6).1
  have p4 := (q6 f hf).2.2.2.1
  refine ⟨by simpa [mset] using q0, by simpa [mset] using q1, by simp [mset, fset, q2, p4, e], by simpa [mset, fset] using q3, by simpa [mset, fset] using q4, by simpa [mset, fset] using q5, fun x hx => ?_⟩
  have := q6 x hx
  simpa [mset, fset, o5] using this
theorem XR_secret {m : Mem} {w f : Nat} {F C : FdT} {g : Nat} (hX : XR m w F C) (hB : CB C g) (hf : f < F 0 0) (h7 : F 7 f < 5) : XR (mset m 7 w 11 ((m 7 w 11) ^^^ ((1 : Int32) <<< ((m 12 w f) &&& 31)))) w F (fset C 1 0 (C 1 0 ^^^ 2 ^ F 7 f)) := by
  obtain ⟨q0, q1, q2, q3, q4, q5, q6⟩ := hX
  have e := (bit_x (C 1 0) (by have := hB.2.1; omega) (F 7 f) (by omega)).1
  have p5 := (q6 f hf).2.2.2.2.1
  refine ⟨by simpa [mset] using q0, by simpa [mset] using q1, by simpa [mset, fset] using q2, by simp [mset, fset, q3, p5, e], by simpa [mset, fset] using q4, by simpa [mset, fset] using q5, fun x hx => ?_⟩
  have := q6 x hx
  simpa [mset, fset, o5] using this
/-- p pays for f -/
theorem pay_c {m : Mem} {w f p t : Nat} {F C : FdT} (hX : XR m w F C) (hn : F 0 0 ≤ 5) (hf : f < F 0 0) (hp : p < F 0 0) (ht : t ≤ C 4 p) : ∃ m', f_X0_pay w (nI f) (nI p) (nI t) m = some ((), m') ∧ XF m m' ∧
    XR m' w F (if p = f then fset (fset C 4 f (C 4 f - t)) 3 0 (C 3 0 + t) else fset (fset (fset C 4 p (C 4 p - t)) 3 0 (C 3 0 + t)) (5 + f) p (C (5 + f) p + t)) := by
  obtain ⟨q0, q1, q2, q3, q4, q5, q6⟩ := hX
  obtain ⟨b1, b2⟩ := i5 hp hn
  obtain ⟨c1, c2⟩ := i5 hf hn
  have e1 : nI (C 4 p) - nI t = nI (C 4 p - t) := pk_sub ht
  have e2 : nI (C 3 0) + nI t = nI (C 3 0 + t) := nI_add _ _
  have e3 : nI (C (5 + f) p) + nI t = nI (C (5 + f) p + t) := nI_add _ _
  have ee : (nI p = nI f) ↔ p = f := nI_eq (by omega) (by omega)
  have p3 := (q6 p hp).2.2.1
  have p6 := (q6 f hf).2.2.2.2.2 p hp
  unfold f_X0_pay
  by_cases c : p = f
  · subst c
    rw [if_pos rfl]
    refine ⟨mset (mset m 10 w p (nI (C 4 p - t))) 7 w 13 (nI (C 3 0 + t)), ?_, (XF.rf.set (by decide) (by decide)).set (by decide) (by decide), ?_⟩
    · simp [b1, b2, p3, q5, e1, e2]
    · refine ⟨by simpa [mset] using q0, by simpa [mset] using q1, by simpa [mset, fset] using q2, by simpa [mset, fset] using q3, by simpa [mset, fset] using q4, by simp [mset, fset], fun x hx => ?_⟩
      have := q6 x hx
      by_cases ex : x = p
      · subst ex
        simp [mset, fset, o5, this]
        exact this.2.2.2.2.2
      · simpa [mset, fset, o5, ex] using this
  · rw [if_neg c]
    have c' : ¬ nI p = nI f := fun q => c (ee.mp q)
    refine ⟨mset (mset (mset m 10 w p (nI (C 4 p - t))) 7 w 13 (nI (C 3 0 + t))) 14 (5 * w + f) p (nI (C (5 + f) p + t)), ?_, ((XF.rf.set (by decide) (by decide)).set (by decide) (by decide)).set (by decide) (by decide), ?_⟩
    · simp [b1, b2, c1, c2, c', p3, q5, p6, e1, e2, e3]
    · refine ⟨by simpa [mset] using q0, by simpa [mset] using q1, by simpa [mset, fset, o5] using q2, by simpa [mset, fset, o5] using q3, by simpa [mset, fset, o5] using q4, by simp [mset, fset, o5], fun x hx => ?_⟩
      obtain ⟨r1, r2, r3, r4, r5, r6⟩ := q6 x hx
      refine ⟨by simpa [mset, fset, o5] using r1, by simpa [mset, fset, o5] using r2, ?_, by simpa [mset, fset, o5] using r4, by simpa [mset, fset, o5] using r5, fun y hy => ?_⟩
      · by_cases ex : x = p
        · subst ex; simp [mset, fset, o5]
        · simpa [mset, fset, o5, ex] using r3
      · have := r6 y hy
        by_cases ex : x = f ∧ y = p
        · obtain ⟨rfl, rfl⟩ := ex
          simp [mset, fset, o5]
        · have ex' : ¬ (5 + x = 5 + f ∧ y = p) := fun z => ex ⟨by omega, z.2⟩
          have ex2 : ¬ (5 * w + x = 5 * w + f ∧ y = p) := fun z => ex ⟨by omega, z.2⟩
          simp only [mset, fset, o5, if_neg ex', if_neg ex2]
          simpa [o5, ex, ex2] using this
/-- a pass of the class's Crossing -/
theorem pass_c {m : Mem} {w f how : Nat} {F C : FdT} {g : Nat} (hX : XR m w F C) (hW : WC F) (hB : CB C g) (hf : f < F 0 0) (hh : how < 4) : match passS F C f how with
    | some q => q.2 ≤ 5 ∧ ∃ m', f_X0_pass w (nI f) (nI how) m = some (payI q.2, m') ∧ XF m m' ∧ XR m' w F q.1
    | none => f_X0_pass w (nI f) (nI how) m = some (-2, m) := by
  have hn := hW.1
  obtain ⟨b1, b2⟩ := i5 hf hn
  have ht := tollS_le hW C hf
  have q0 := hX.1
  have p3 := (hX.2.2.2.2.2.2 f hf).2.2.1
  have p4 := (hX.2.2.2.2.2.2 f hf).2.2.2.1
  have p5 := (hX.2.2.2.2.2.2 f hf).2.2.2.2.1
  have h1 : ¬ nI f < 0 := nI_pos (by omega)
  have h2 : nI f < nI (F 0 0) := nI_lt hf (by omega)
  have htoll := toll_c hX hW hB hf
  have n2 : ∀ k : Nat, k < 2 ^ 31 → ¬ nI k = -2 := fun k hk q => by
    have h := nI_toInt hk
    rw [q] at h
    have : (-2 : Int32).toInt = -2 := by decide
    omega
  have n1 : ∀ k : Nat, k < 2 ^ 31 → ¬ nI k = -1 := fun k hk q => by
    have h := nI_toInt hk
    rw [q] at h
    have : (-1 : Int32).toInt = -1 := by decide
    omega
  unfold passS
  by_cases k0 : how = 0
  · subst k0
    have e2 : (nI (C 4 f) < nI (tollS F C f)) ↔ C 4 f < tollS F C f := nI_ltI (by have := hB.2.2.2.2.1 f (by omega); omega) (by omega)
    by_cases c : tollS F C f ≤ C 4 f
    · rw [if_pos rfl, if_pos c]
      have c' : ¬ nI (C 4 f) < nI (tollS F C f) := fun q => by have := e2.mp q; omega
      obtain ⟨m1, r1, r2, r3⟩ := pay_c hX hn hf hf c
      rw [if_pos rfl] at r3
      refine ⟨by omega, _, ?_, r2.set (by decide) (by decide), XR_up r3 (g := g + 36) (CB_pay0 hB hW hf) (by omega)⟩
      simp [f_X0_pass, f_X0_payerOf, h1, q0, h2, htoll, bnd, nI_0, b1, b2, p3, c', n2 f (by omega), n1 f (by omega), r1, f_X0_pass_j41, payI, show ¬ f = 5 by omega]
    · rw [if_pos rfl, if_neg c]
      have c' : nI (C 4 f) < nI (tollS F C f) := e2.mpr (by omega)
      simp [f_X0_pass, f_X0_payerOf, h1, q0, h2, htoll, bnd, nI_0, b1, b2, p3, c']
  rw [if_neg k0]
  by_cases k1 : how = 1
  · subst k1
    have hs := song_c hX hW hB hf
    rw [if_pos rfl]
    by_cases c : F 6 f < 6 ∧ (C 0 0).testBit (F 6 f) = false
    · rw [if_pos c]
      rw [if_pos c] at hs
      refine ⟨by omega, _, ?_, (XF.rf.set (by decide) (by decide)).set (by decide) (by decide), XR_up (XR_song hX hB hf c.1) (g := g) (CB_song hB c.1) (by omega)⟩
      simp [f_X0_pass, f_X0_payerOf, h1, q0, h2, htoll, bnd, show nI 1 = 1 from rfl, hs, f_X0_turnWord, b1, b2, f_X0_pass_j41, payI]
    · rw [if_neg c]
      rw [if_neg c] at hs
      simp [f_X0_pass, f_X0_payerOf, h1, q0, h2, htoll, bnd, show nI 1 = 1 from rfl, hs]
  rw [if_neg k1]
  by_cases k2 : how = 2
  · subst k2
    have hs := secret_c hX hW hB hf
    rw [if_pos rfl]
    by_cases c : F 7 f ≠ f ∧ F 7 f < F 0 0 ∧ (C 1 0).testBit (F 7 f) = false
    · rw [if_pos c]
      rw [if_pos c] at hs
      refine ⟨by omega, _, ?_, (XF.rf.set (by decide) (by decide)).set (by decide) (by decide), XR_up (XR_secret hX hB hf (by omega)) (g := g) (CB_secret hB (by omega)) (by omega)⟩
      simp [f_X0_pass, f_X0_payerOf, h1, q0, h2, htoll, bnd, show nI 2 = 2 from rfl, hs, f_X0_turnWord, b1, b2, f_X0_pass_j41, payI]
    · rw [if_neg c]
      rw [if_neg c] at hs
      simp [f_X0_pass, f_X0_payerOf, h1, q0, h2, htoll, bnd, show nI 2 = 2 from rfl, hs]
  rw [if_neg k2]
  have k3 : how = 3 := by omega
  subst k3
  have hl := lender_c hX hW hB hf (toll := tollS F C f) (by omega)
  cases hx : lendS F C f (tollS F C f) 0 (F 0 0) with
  | none =>
    rw [hx] at hl
    simp [f_X0_pass, f_X0_payerOf, h1, q0, h2, htoll, bnd, show nI 3 = 3 from rfl, hl]
  | some x =>
    rw [hx] at hl
    obtain ⟨l1, l2, l3, l4, l5⟩ := lendS_at _ _ _ hx
    obtain ⟨m1, r1, r2, r3⟩ := pay_c hX hn hf (show x < F 0 0 by omega) l5
    rw [if_neg l3] at r3
    refine ⟨by show x ≤ 5; omega, _, ?_, r2.set (by decide) (by decide), XR_up r3 (g := g + 36) (CB_pay3 hB hW hf) (by omega)⟩
    simp [f_X0_pass, f_X0_payerOf, h1, q0, h2, htoll, bnd, show nI 3 = 3 from rfl, hl, n2 x (by omega), n1 x (by omega), r1, f_X0_pass_j41, payI, show ¬ x = 5 by omega]
