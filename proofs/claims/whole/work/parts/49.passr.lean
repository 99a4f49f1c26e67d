/-! ===== the reference's passes ===== -/
def RX (m : Mem) (F C : FdT) : Prop := m 30 0 22 = nI (C 0 0) ∧ m 30 0 21 = nI (C 1 0) ∧ m 30 0 20 = nI (C 2 0) ∧ m 30 0 23 = nI (C 3 0) ∧ ∀ f, f < F 0 0 → m 40 0 f = nI (C 4 f) ∧ ∀ g, g < F 0 0 → m 41 0 (5 * f + g) = nI (C (5 + f) g)
def RFr (m m' : Mem) : Prop := (∀ t, t ≠ 30 → t ≠ 40 → t ≠ 41 → m' t = m t) ∧ ∀ j, j < 20 ∨ 23 < j → m' 30 0 j = m 30 0 j
theorem RFr.rf {m : Mem} : RFr m m := ⟨fun _ _ _ _ => rfl, fun _ _ => rfl⟩
theorem RFr.tr {a b c : Mem} (h : RFr a b) (h' : RFr b c) : RFr a c := ⟨fun t h1 h2 h3 => (h'.1 t h1 h2 h3).trans (h.1 t h1 h2 h3), fun j hj => (h'.2 j hj).trans (h.2 j hj)⟩
theorem RFr.s30 {m m' : Mem} {j : Nat} {v : Int32} (h : RFr m m') (h1 : 20 ≤ j) (h2 : j ≤ 23) : RFr m (mset m' 30 0 j v) := ⟨fun t q1 q2 q3 => (mset_ne (by omega)).trans (h.1 t q1 q2 q3), fun j' hj => by
  rw [← h.2 j' hj]
  simp [mset]
  omega⟩
theorem RFr.s40 {m m' : Mem} {i j : Nat} {v : Int32} (h : RFr m m') : RFr m (mset m' 40 i j v) := ⟨fun t q1 q2 q3 => (mset_ne (by omega)).trans (h.1 t q1 q2 q3), fun j' hj => by rw [← h.2 j' hj]; simp [mset]⟩
theorem RFr.s41 {m m' : Mem} {i j : Nat} {v : Int32} (h : RFr m m') : RFr m (mset m' 41 i j v) := ⟨fun t q1 q2 q3 => (mset_ne (by omega)).trans (h.1 t q1 q2 q3), fun j' hj => by rw [← h.2 j' hj]; simp [mset]⟩
theorem RFr.T {m m' : Mem} {F : FdT} (h : RFr m m') (hT : TR m F) : TR m' F :=
  TR_cong (h.2 5 (by decide)) (h.2 6 (by decide)) (h.2 7 (by decide)) (h.2 8 (by decide)) (h.1 34 (by decide) (by decide) (by decide)) (h.1 35 (by decide) (by decide) (by decide)) (h.1 36 (by decide) (by decide) (by decide)) (h.1 37 (by decide) (by decide) (by decide)) (h.1 38 (by decide) (by decide) (by decide)) hT
theorem RFr.ri {m m' : Mem} {ft tr : Int32} {Sh : ShT} {F : FdT} {rn : Nat} {rf rs : Nat → Nat} (h : RFr m m') (hi : RI m ft tr Sh F rn rf rs) : RI m' ft tr Sh F rn rf rs :=
  ⟨by rw [h.2 0 (by decide)]; exact hi.1, by rw [h.2 1 (by decide)]; exact hi.2.1, SR_cong (h.1 31 (by decide) (by decide) (by decide)) (h.1 32 (by decide) (by decide) (by decide)) (h.1 33 (by decide) (by decide) (by decide)) hi.2.2.1, h.T hi.2.2.2.1, RR_cong (h.2 32 (by decide)) (h.1 47 (by decide) (by decide) (by decide)) (h.1 48 (by decide) (by decide) (by decide)) hi.2.2.2.2⟩
theorem RFr.lo {m m' : Mem} (h : RFr m m') {t : Nat} (ht : t < 30) : m' t = m t := h.1 t (by omega) (by omega) (by omega)
theorem share_rc {m : Mem} {F : FdT} (hT : TR m F) (hW : WC F) {f : Nat} (hf : f < F 0 0) : f_X7_share (nI f) m = some (nI (shareS F f), m) := by
  obtain ⟨hn, -, -, hq⟩ := hW
  obtain ⟨hk, h1, h9, -⟩ := hq f hf
  obtain ⟨g1, g2, -⟩ := hT.2.2.2.2 f hf
  obtain ⟨b1, b2⟩ := i5 hf hn
  have e0 : (nI (F 3 f) = 0) ↔ F 3 f = 0 := nI_z (by omega)
  have e2 : (nI (F 3 f) = 2) ↔ F 3 f = 2 := nI_eq (b := 2) (by omega) (by decide)
  have s1 : nI (F 4 f) - 1 = nI (F 4 f - 1) := pk_sub (b := 1) h1
  have d2 : nI (F 4 f - 1) / 2 = nI ((F 4 f - 1) / 2) := pk_div (d := 2) (by omega) (by decide) (by decide)
  unfold f_X7_share f_X7_share_j26
  simp only [b1, b2, g1, g2, if_true, e0, e2, s1, d2, dv]
  unfold shareS
  by_cases a : F 3 f = 0
  · simp [a]
  · by_cases b : F 3 f = 2
    · simp [b]
    · have c : F 3 f = 1 := by omega
      simp [c]
theorem toll_r {m : Mem} {f : Nat} {F C : FdT} {g : Nat} (hT : TR m F) (hX : RX m F C) (hW : WC F) (hB : CB C g) (hf : f < F 0 0) : f_X7_tollNow (nI f) m = some (nI (tollS F C f), m) := by
  have hn := hW.1
  have hsh := share_rc hT hW hf
  obtain ⟨q2, q3, q4, q5, q6⟩ := hX
  have hb := (bit_1 (s := C 1 0) (k := f) (by have := hB.2.1; omega) (by omega)).1
  have hb2 := (bit_1 (s := C 2 0) (k := f) (by have := hB.2.2.1; omega) (by omega)).1
  have e2 : nI (shareS F f) + nI (F 1 0) = nI (shareS F f + F 1 0) := nI_add _ _
  have e3 : ∀ a, (2 : Int32) * nI a = nI (2 * a) := fun a => pk_mul 2 a
  unfold f_X7_tollNow tollS
  dsimp only
  rw [q4]
  by_cases c : (C 2 0).testBit f = true
  · rw [if_pos (hb2.mpr c), if_pos c, hsh, bnd_some]
    unfold f_X7_tollNow_j30
    rw [q3]
    by_cases d : (C 1 0).testBit f = true
    · rw [if_pos (hb.mpr d), if_pos d, e3]; rfl
    · rw [if_neg (fun q => d (hb.mp q)), if_neg d]; rfl
  · rw [if_neg (fun q => c (hb2.mp q)), if_neg c, hsh, bnd_some, hT.2.1, e2]
    unfold f_X7_tollNow_j30
    rw [q3]
    by_cases d : (C 1 0).testBit f = true
    · rw [if_pos (hb.mpr d), if_pos d, e3]
    · rw [if_neg (fun q => d (hb.mp q)), if_neg d]
theorem lender_r {m : Mem} {f toll : Nat} {F C : FdT} {g : Nat} (hT : TR m F) (hX : RX m F C) (hW : WC F) (hB : CB C g) (hf : f < F 0 0) (ht : toll < 2 ^ 31) : f_X7_lender (nI f) (nI toll) m = some (match lendS F C f toll 0 (F 0 0) with
    | some x => nI x
    | none => -9, m) := by
  have hn := hW.1
  have q0 := hT.1
  obtain ⟨-, -, -, -, q6⟩ := hX
  unfold f_X7_lender
  refine lpk_ind (fun k s => ∃ x, x + k = F 0 0 ∧ s = (nI x, m) ∧ lendS F C f toll x k = lendS F C f toll 0 (F 0 0)) ?_ (F 0 0) fuelN _ (by unfold fuelN; omega) ⟨0, by omega, rfl, rfl⟩
  rintro k s ⟨x, hx, rfl, hl⟩
  unfold f_X7_lender_b2
  cases k with
  | zero =>
    refine Or.inr fun next => ?_
    have e : x = F 0 0 := by omega
    subst e
    have hle : nI (F 0 0) ≤ nI (F 0 0) := nI_le (Nat.le_refl _) (by omega)
    rw [← hl]
    simp [q0, hle, lendS]
  | succ k =>
    obtain ⟨b1, b2⟩ := i5 (f := x) (n := F 0 0) (by omega) hn
    have p1 := (hT.2.2.2.2 x (by omega)).1
    have p3 := (q6 x (by omega)).1
    have wk := (hW.2.2.2 x (by omega)).1
    have c4 := hB.2.2.2.2.1 x (by omega)
    have e0 : (nI (F 3 x) ≤ 0) ↔ F 3 x = 0 := by rw [← nI_0, nI_leI (by omega) (by decide)]; omega
    have e1 : (nI x = nI f) ↔ x = f := nI_eq (by omega) (by omega)
    have e2 : (nI (C 4 x) < nI toll) ↔ C 4 x < toll := nI_ltI (by omega) ht
    have hge : ¬ nI (F 0 0) ≤ nI x := nI_ge (by omega) (by omega)
    rw [lendS_s] at hl
    by_cases c1 : x = f
    · refine Or.inl ⟨k, (nI (x + 1), m), rfl, ⟨x + 1, by omega, rfl, by rw [← hl, if_neg (fun q => q.1 c1)]⟩, fun next => ?_⟩
      subst c1
      simp [q0, hge, f_X7_lender_j36, nI_succ]
    have c1' : ¬ nI x = nI f := fun q => c1 (e1.mp q)
    by_cases c2 : F 3 x = 0
    · refine Or.inl ⟨k, (nI (x + 1), m), rfl, ⟨x + 1, by omega, rfl, by rw [← hl, if_neg (fun q => q.2.1 c2)]⟩, fun next => ?_⟩
      simp [q0, hge, c1', b1, b2, p1, e0.mpr c2, f_X7_lender_j36, nI_succ]
    have c2' : ¬ nI (F 3 x) ≤ 0 := fun q => c2 (e0.mp q)
    by_cases c3 : C 4 x < toll
    · refine Or.inl ⟨k, (nI (x + 1), m), rfl, ⟨x + 1, by omega, rfl, by rw [← hl, if_neg (fun q => by have := q.2.2; omega)]⟩, fun next => ?_⟩
      simp [q0, hge, c1', b1, b2, p1, c2', p3, e2.mpr c3, f_X7_lender_j36, nI_succ]
    · have c3' : ¬ nI (C 4 x) < nI toll := fun q => c3 (e2.mp q)
      refine Or.inr fun next => ?_
      rw [if_pos ⟨c1, c2, by omega⟩] at hl
      rw [← hl]
      simp [q0, hge, c1', b1, b2, p1, c2', p3, c3']
theorem RX_up {m : Mem} {f : Nat} {F C : FdT} {g : Nat} (hX : RX m F C) (hB : CB C g) (hf : f < 5) : RX (mset m 30 0 20 ((m 30 0 20) ^^^ ((1 : Int32) <<< (nI f &&& 31)))) F (upS C f) := by
  obtain ⟨q2, q3, q4, q5, q6⟩ := hX
  have e := (bit_x (C 2 0) (by have := hB.2.2.1; omega) f (by omega)).1
  refine ⟨by simpa [mset, upS, fset] using q2, by simpa [mset, upS, fset] using q3, by simp [mset, upS, fset, q4, e], by simpa [mset, upS, fset] using q5, fun x hx => ?_⟩
  have := q6 x hx
  simpa [mset, upS, fset, o5] using this
theorem x0 (x : Int32) : x ^^^ 0 = x := Int32.xor_zero
theorem j43_0 (x : Int32) (m : Mem) : f_X7_pass_j43 0 x m = some (0, mset m 30 0 20 (m 30 0 20)) := by
  simp [f_X7_pass_j43]
theorem j43_1 (x : Int32) (m : Mem) : f_X7_pass_j43 1 x m = some (1, mset m 30 0 20 ((m 30 0 20) ^^^ ((1 : Int32) <<< (x &&& 31)))) := by
  simp [f_X7_pass_j43]
theorem cell41 {f p : Nat} (hf : f < 5) (hp : p < 5) : (5 : Int32) * nI f + nI p = nI (5 * f + p) ∧ inB (nI (5 * f + p)) 25 = true ∧ ix (nI (5 * f + p)) = 5 * f + p :=
  ⟨by rw [show (5 : Int32) = nI 5 from rfl, pk_mul, nI_add], inB_nI (by omega) (by decide), ix_nI (by omega)⟩
theorem pass_r {m : Mem} {f how : Nat} {F C : FdT} {g : Nat} (hT : TR m F) (hX : RX m F C) (hW : WC F) (hB : CB C g) (hf : f < F 0 0) (hh : how < 4) : match passS F C f how with
    | some q => ∃ m', f_X7_pass (nI f) (nI how) m = some (1, m') ∧ RFr m m' ∧ RX m' F q.1
    | none => ∃ m', f_X7_pass (nI f) (nI how) m = some (0, m') ∧ RFr m m' := by
  have hn := hW.1
  obtain ⟨b1, b2⟩ := i5 hf hn
  have ht := tollS_le hW C hf
  have htoll := toll_r hT hX hW hB hf
  have hX0 := hX
  obtain ⟨q2, q3, q4, q5, q6⟩ := hX
  obtain ⟨p3, p6⟩ := q6 f hf
  obtain ⟨g1, g2, g3, g4, g5⟩ := hT.2.2.2.2 f hf
  obtain ⟨w1, w2, w3, w4, w6, w7⟩ := hW.2.2.2 f hf
  unfold passS
  by_cases k0 : how = 0
  · subst k0
    have e2 : (nI (tollS F C f) ≤ nI (C 4 f)) ↔ tollS F C f ≤ C 4 f := nI_leI (by omega) (by have := hB.2.2.2.2.1 f (by omega); omega)
    by_cases c : tollS F C f ≤ C 4 f
    · rw [if_pos rfl, if_pos c]
      have c' := e2.mpr c
      have e1 : nI (C 4 f) - nI (tollS F C f) = nI (C 4 f - tollS F C f) := pk_sub c
      have e3 : nI (C 3 0) + nI (tollS F C f) = nI (C 3 0 + tollS F C f) := nI_add _ _
      refine ⟨_, by simp [f_X7_pass, f_X7_payScales, nI_0, htoll, bnd, b1, b2, p3, c', e1, j43_1]; rfl, ((RFr.rf.s40).s30 (by decide) (by decide)).s30 (by decide) (by decide), RX_up (g := g + 36) ?_ (CB_pay0 hB hW hf) (by omega)⟩
      refine ⟨by simpa [mset, fset] using q2, by simpa [mset, fset] using q3, by simpa [mset, fset] using q4, by simp [mset, fset, q5, e3], fun x hx => ?_⟩
      have := q6 x hx
      by_cases ex : x = f
      · subst ex
        simp [mset, fset, o5]
        exact this.2
      · simpa [mset, fset, o5, ex] using this
    · rw [if_pos rfl, if_neg c]
      have c' : ¬ nI (tollS F C f) ≤ nI (C 4 f) := fun q => c (e2.mp q)
      exact ⟨_, by simp [f_X7_pass, f_X7_payScales, nI_0, htoll, bnd, b1, b2, p3, c', j43_0]; rfl, RFr.rf.s30 (by decide) (by decide)⟩
  rw [if_neg k0]
  have k0' : ¬ nI how = 0 := fun q => k0 ((nI_z (by omega)).mp q)
  by_cases k1 : how = 1
  · subst k1
    rw [if_pos rfl]
    have e6 : (nI (F 6 f) = 6) ↔ F 6 f = 6 := nI_eq (b := 6) (by omega) (by decide)
    by_cases c : F 6 f < 6 ∧ (C 0 0).testBit (F 6 f) = false
    · rw [if_pos c]
      have hb := (bit_1 (s := C 0 0) (k := F 6 f) hB.1 c.1).1
      have c1 : ¬ nI (F 6 f) = 6 := fun q => by have := e6.mp q; omega
      have c2 : ¬ ((nI (C 0 0) >>> (nI (F 6 f) &&& 31)) &&& 1) = 1 := fun q => by have := hb.mp q; rw [c.2] at this; cases this
      have e := bit_o (C 0 0) hB.1 (F 6 f) c.1 c.2
      refine ⟨_, by simp [f_X7_pass, f_X7_paySong, show nI 1 = 1 from rfl, bnd, b1, b2, g4, c1, q2, c2, e, j43_1]; rfl, (RFr.rf.s30 (by decide) (by decide)).s30 (by decide) (by decide), RX_up (g := g) ?_ (CB_song hB c.1) (by omega)⟩
      refine ⟨by simp [mset, fset], by simpa [mset, fset] using q3, by simpa [mset, fset] using q4, by simpa [mset, fset] using q5, fun x hx => ?_⟩
      have := q6 x hx
      simpa [mset, fset, o5] using this
    · rw [if_neg c]
      by_cases c1 : nI (F 6 f) = 6
      · exact ⟨_, by simp [f_X7_pass, f_X7_paySong, show nI 1 = 1 from rfl, bnd, b1, b2, g4, c1, j43_0]; rfl, RFr.rf.s30 (by decide) (by decide)⟩
      · have c0 : F 6 f < 6 := by have : ¬ F 6 f = 6 := fun q => c1 (e6.mpr q); omega
        have hb := (bit_1 (s := C 0 0) (k := F 6 f) hB.1 c0).1
        have c2 : ((nI (C 0 0) >>> (nI (F 6 f) &&& 31)) &&& 1) = 1 := hb.mpr (by
          cases hz : (C 0 0).testBit (F 6 f) with
          | true => rfl
          | false => exact absurd ⟨c0, hz⟩ c)
        exact ⟨_, by simp [f_X7_pass, f_X7_paySong, show nI 1 = 1 from rfl, bnd, b1, b2, g4, c1, q2, c2, j43_0]; rfl, RFr.rf.s30 (by decide) (by decide)⟩
  rw [if_neg k1]
  have k1' : ¬ nI how = 1 := fun q => k1 ((nI_eq (b := 1) (by omega) (by decide)).mp q)
  by_cases k2 : how = 2
  · subst k2
    rw [if_pos rfl]
    have e : (nI (F 7 f) = nI f) ↔ F 7 f = f := nI_eq (by omega) (by omega)
    rcases fish_cases (nI (F 7 f)) (n := F 0 0) (by omega) with ⟨-, z2, z3⟩ | ⟨x, hx, ex, -, z2⟩
    · have c0 : ¬ F 7 f < F 0 0 := fun q => z3 _ q rfl
      rw [if_neg (fun q => c0 q.2.1)]
      exact ⟨_, by simp [f_X7_pass, f_X7_paySecret, show nI 2 = 2 from rfl, bnd, b1, b2, g5, z2 m hT.1, j43_0]; rfl, RFr.rf.s30 (by decide) (by decide)⟩
    have hx7 : F 7 f = x := (nI_eq (by omega) (by omega)).mp ex
    have c0 : F 7 f < F 0 0 := by omega
    by_cases c1 : F 7 f = f
    · rw [if_neg (fun q => q.1 c1)]
      have c1' := e.mpr c1
      have z2' := z2 m hT.1
      rw [c1'] at z2'
      exact ⟨_, by simp [f_X7_pass, f_X7_paySecret, show nI 2 = 2 from rfl, bnd, b1, b2, g5, c1', z2', j43_0]; rfl, RFr.rf.s30 (by decide) (by decide)⟩
    have c1' : ¬ nI (F 7 f) = nI f := fun q => c1 (e.mp q)
    have hb := (bit_1 (s := C 1 0) (k := F 7 f) (by have := hB.2.1; omega) (by omega)).1
    cases hz : (C 1 0).testBit (F 7 f) with
    | true =>
      rw [if_neg (fun q => by cases q.2.2)]
      have c2 := hb.mpr hz
      exact ⟨_, by simp [f_X7_pass, f_X7_paySecret, show nI 2 = 2 from rfl, bnd, b1, b2, g5, c1', z2 m hT.1, q3, c2, j43_0]; rfl, RFr.rf.s30 (by decide) (by decide)⟩
    | false =>
      rw [if_pos ⟨c1, c0, rfl⟩]
      have c2 : ¬ ((nI (C 1 0) >>> (nI (F 7 f) &&& 31)) &&& 1) = 1 := fun q => by have := hb.mp q; rw [hz] at this; cases this
      have e := bit_o (C 1 0) (by have := hB.2.1; omega) (F 7 f) (by omega) hz
      refine ⟨_, by simp [f_X7_pass, f_X7_paySecret, show nI 2 = 2 from rfl, bnd, b1, b2, g5, c1', z2 m hT.1, q3, c2, e, j43_1]; rfl, (RFr.rf.s30 (by decide) (by decide)).s30 (by decide) (by decide), RX_up (g := g) ?_ (CB_secret hB (by omega)) (by omega)⟩
      refine ⟨by simpa [mset, fset] using q2, by simp [mset, fset], by simpa [mset, fset] using q4, by simpa [mset, fset] using q5, fun x hx => ?_⟩
      have := q6 x hx
      simpa [mset, fset, o5] using this
  rw [if_neg k2]
  have k2' : ¬ nI how = 2 := fun q => k2 ((nI_eq (b := 2) (by omega) (by decide)).mp q)
  have hl := lender_r hT hX0 hW hB hf (toll := tollS F C f) (by omega)
  cases hx : lendS F C f (tollS F C f) 0 (F 0 0) with
  | none =>
    rw [hx] at hl
    exact ⟨_, by simp [f_X7_pass, f_X7_payCredit, k0', k1', k2', htoll, bnd, hl, j43_0]; rfl, RFr.rf.s30 (by decide) (by decide)⟩
  | some x =>
    rw [hx] at hl
    obtain ⟨l1, l2, l3, l4, l5⟩ := lendS_at _ _ _ hx
    obtain ⟨d1, d2⟩ := i5 (show x < F 0 0 by omega) hn
    obtain ⟨s1, s2, s3⟩ := cell41 (show f < 5 by omega) (show x < 5 by omega)
    have n9 := m9 (k := x) (by omega)
    have r3 := (q6 x (by omega)).1
    have r6 := p6 x (by omega)
    have e1 : nI (C 4 x) - nI (tollS F C f) = nI (C 4 x - tollS F C f) := pk_sub l5
    have e3 : nI (C 3 0) + nI (tollS F C f) = nI (C 3 0 + tollS F C f) := nI_add _ _
    have e4 : nI (C (5 + f) x) + nI (tollS F C f) = nI (C (5 + f) x + tollS F C f) := nI_add _ _
    refine ⟨_, by simp [f_X7_pass, f_X7_payCredit, k0', k1', k2', htoll, bnd, hl, n9, d1, d2, s1, s2, s3, r3, r6, q5, e1, e3, e4, j43_1]; rfl, (((RFr.rf.s40).s30 (by decide) (by decide)).s41).s30 (by decide) (by decide), RX_up (g := g + 36) ?_ (CB_pay3 hB hW hf) (by omega)⟩
    refine ⟨by simpa [mset, fset, o5] using q2, by simpa [mset, fset, o5] using q3, by simpa [mset, fset, o5] using q4, by simp [mset, fset, o5], fun y hy => ⟨?_, fun z hz => ?_⟩⟩
    · have := (q6 y hy).1
      by_cases ey : y = x
      · subst ey; simp [mset, fset, o5]
      · simpa [mset, fset, o5, ey] using this
    · have := (q6 y hy).2 z hz
      by_cases ey : y = f ∧ z = x
      · obtain ⟨rfl, rfl⟩ := ey
        simp [mset, fset, o5]
      · have ey1 : ¬ (5 + y = 5 + f ∧ z = x) := fun q => ey ⟨by omega, q.2⟩
        have ey2 : ¬ (5 * y + z = 5 * f + x) := fun q => ey (by omega)
        simp only [mset, fset, o5, if_neg ey1, ey2]
        simpa [o5, ey] using this
