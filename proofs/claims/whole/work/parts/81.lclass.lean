/-! ===== least, the class: what is still due; a pass taken back ===== -/
theorem mayBe_c {w h : Nat} (hw : w < 64) (hh : h < 6) (m : Mem) : f_X6_mayBe (nI w) (nI h) m = some (if w.testBit h = true then 1 else 0, m) := by
  have hb := (bit_1 hw hh).1
  unfold f_X6_mayBe
  by_cases c : w.testBit h = true
  · rw [if_pos (hb.mpr c), if_pos c]
  · rw [if_neg (fun q => c (hb.mp q)), if_neg c]
abbrev wayS (F : FdT) (w : Nat) (C : FdT) (f : Nat) : Prop := (w.testBit 0 = true ∧ tollS F C f ≤ C 4 f) ∨ (w.testBit 3 = true ∧ (lendS F C f (tollS F C f) 0 (F 0 0)).isSome = true)
abbrev secS (F : FdT) (w : Nat) (C : FdT) (f : Nat) : Prop := w.testBit 2 = true ∧ F 7 f ≠ f ∧ F 7 f < F 0 0 ∧ (C 1 0).testBit (F 7 f) = false
abbrev sonS (F : FdT) (w : Nat) (C : FdT) (f : Nat) : Prop := w.testBit 1 = true ∧ F 6 f < 6 ∧ (C 0 0).testBit (F 6 f) = false
theorem nI_m : (1000000 : Int32) = nI 1000000 := rfl
theorem nn2 {k : Nat} (hk : k < 2 ^ 31) : ¬ nI k = -2 := fun q => by
  have h := nI_toInt hk
  rw [q] at h
  have : (-2 : Int32).toInt = -2 := by decide
  omega
theorem cheapest_c {m : Mem} {cw w f : Nat} {F C : FdT} {g : Nat} (hX : XR m cw F C) (hW : WC F) (hB : CB C g) (hf : f < F 0 0) (hw : w < 64) : f_X0_cheapest cw (nI f) (nI w) m = some (nI (cheapS F w C f), m) := by
  have hn := hW.1
  obtain ⟨b1, b2⟩ := i5 hf hn
  have ht := tollS_le hW C hf
  have p3 := (hX.2.2.2.2.2.2 f hf).2.2.1
  have c4 := hB.2.2.2.2.1 f (by omega)
  have hs := song_c hX hW hB hf
  have he := secret_c hX hW hB hf
  have htl := toll_c hX hW hB hf
  have hl := lender_c hX hW hB hf (toll := tollS F C f) (by omega)
  have m0 := mayBe_c (h := 0) hw (by omega) m
  have m1 := mayBe_c (h := 1) hw (by omega) m
  have m2 := mayBe_c (h := 2) hw (by omega) m
  have m3 := mayBe_c (h := 3) hw (by omega) m
  rw [nI_0] at m0
  rw [nI_1'] at m1
  rw [nI_2'] at m2
  rw [nI_3'] at m3
  have j63 : f_X0_cheapest_j63 cw 0 (nI f) (nI w) (nI (tollS F C f)) m = some (nI (if w.testBit 3 = true ∧ (lendS F C f (tollS F C f) 0 (F 0 0)).isSome = true then tollS F C f else 1000000), m) := by
    unfold f_X0_cheapest_j63
    rw [if_pos rfl, m3, bnd_some]
    by_cases c : w.testBit 3 = true
    · rw [if_pos c, if_neg (by decide), hl]
      cases hx : lendS F C f (tollS F C f) 0 (F 0 0) with
      | none =>
        rw [if_neg (fun z => absurd z.2 (by decide))]
        rfl
      | some x =>
        have hx2 := (lendS_at _ _ _ hx).2.1
        rw [if_pos ⟨c, rfl⟩]
        dsimp only
        rw [bnd_some, if_neg (nn2 (by omega))]
    · rw [if_neg c, if_pos rfl, if_neg (fun z => c z.1), nI_m]
  have j34 : f_X0_cheapest_j34 cw (nI f) (nI w) m = some (nI (if wayS F w C f then tollS F C f else 1000000), m) := by
    unfold f_X0_cheapest_j34 f_X0_cheapest_j62
    rw [htl, bnd_some, m0, bnd_some]
    by_cases c : w.testBit 0 = true
    · rw [if_pos c, if_neg (by decide), if_pos b1]
      have hp : m 10 cw (ix (nI f)) = nI (C 4 f) := by rw [b2]; exact p3
      by_cases d : tollS F C f ≤ C 4 f
      · have d' : ¬ m 10 cw (ix (nI f)) < nI (tollS F C f) := by rw [hp]; exact nI_nlt d (by omega)
        rw [if_neg d', if_pos (show wayS F w C f from Or.inl ⟨c, d⟩)]
        unfold f_X0_cheapest_j63
        rw [if_neg (by decide)]
      · have d' : m 10 cw (ix (nI f)) < nI (tollS F C f) := by rw [hp]; exact nI_lt (by omega) (by omega)
        rw [if_pos d', j63]
        by_cases e : w.testBit 3 = true ∧ (lendS F C f (tollS F C f) 0 (F 0 0)).isSome = true
        · rw [if_pos e, if_pos (show wayS F w C f from Or.inr e)]
        · rw [if_neg e, if_neg (fun z : wayS F w C f => z.elim (fun y => d y.2) e)]
    · rw [if_neg c, if_pos rfl, j63]
      by_cases e : w.testBit 3 = true ∧ (lendS F C f (tollS F C f) 0 (F 0 0)).isSome = true
      · rw [if_pos e, if_pos (show wayS F w C f from Or.inr e)]
      · rw [if_neg e, if_neg (fun z : wayS F w C f => z.elim (fun y => c y.1) e)]
  have j16 : f_X0_cheapest_j16 cw (nI f) (nI w) m = some (nI (if w.testBit 2 = true ∧ F 7 f ≠ f ∧ F 7 f < F 0 0 ∧ (C 1 0).testBit (F 7 f) = false then 0 else if wayS F w C f then tollS F C f else 1000000), m) := by
    unfold f_X0_cheapest_j16
    rw [m2, bnd_some]
    by_cases c : w.testBit 2 = true
    · rw [if_pos c, if_neg (by decide), he, bnd_some]
      by_cases d : F 7 f ≠ f ∧ F 7 f < F 0 0 ∧ (C 1 0).testBit (F 7 f) = false
      · rw [if_pos d, if_neg (by decide), if_pos ⟨c, d⟩, nI_0]
      · rw [if_neg d, if_pos rfl, j34, if_neg (fun z : secS F w C f => d z.2)]
    · rw [if_neg c, if_pos rfl, j34, if_neg (fun z : secS F w C f => c z.1)]
  unfold f_X0_cheapest
  rw [m1, bnd_some]
  unfold cheapS
  by_cases c : w.testBit 1 = true
  · rw [if_pos c, if_neg (by decide), hs, bnd_some]
    by_cases d : F 6 f < 6 ∧ (C 0 0).testBit (F 6 f) = false
    · rw [if_pos d, if_neg (by decide), if_pos (Or.inl ⟨c, d⟩), nI_0]
    · rw [if_neg d, if_pos rfl, j16]
      by_cases e : w.testBit 2 = true ∧ F 7 f ≠ f ∧ F 7 f < F 0 0 ∧ (C 1 0).testBit (F 7 f) = false
      · rw [if_pos e, if_pos (Or.inr e)]
      · rw [if_neg e, if_neg (fun z : sonS F w C f ∨ secS F w C f => z.elim (fun y => d y.2) e)]
  · rw [if_neg c, if_pos rfl, j16]
    by_cases e : w.testBit 2 = true ∧ F 7 f ≠ f ∧ F 7 f < F 0 0 ∧ (C 1 0).testBit (F 7 f) = false
    · rw [if_pos e, if_pos (Or.inr e)]
    · rw [if_neg e, if_neg (fun z : sonS F w C f ∨ secS F w C f => z.elim (fun y => c y.1) e)]
theorem due_c {m : Mem} {cw w : Nat} {F C : FdT} {g : Nat} (hX : XR m cw F C) (hW : WC F) (hB : CB C g) (hw : w < 64) : f_X0_stillDue cw (nI w) m = some (nI (dueS F w C 0 (F 0 0)), m) := by
  have hn := hW.1
  have key : ∀ k f fu acc, f + k = F 0 0 → k < fu → lpk (f_X0_stillDue_b4 cw (nI w)) fu (nI acc, nI f, m) (fun t4 => some (t4.1, t4.2)) = some (nI (acc + dueS F w C f k), m) := by
    intro k
    induction k with
    | zero =>
      intro f fu acc hf hfu
      obtain ⟨fu, rfl⟩ : ∃ n', fu = n' + 1 := ⟨fu - 1, by omega⟩
      have hle : m 7 cw 8 ≤ nI f := by rw [hX.1]; exact nI_le (by omega) (by omega)
      rw [lpk_s]
      unfold f_X0_stillDue_b4
      dsimp only
      rw [if_pos hle]
      rfl
    | succ k ih =>
      intro f fu acc hf hfu
      obtain ⟨fu, rfl⟩ : ∃ n', fu = n' + 1 := ⟨fu - 1, by omega⟩
      have hge : ¬ m 7 cw 8 ≤ nI f := by rw [hX.1]; exact nI_ge (by omega) (by omega)
      have st : ∀ next exit, f_X0_stillDue_b4 cw (nI w) next exit (nI acc, nI f, m) = next (nI (acc + (if (C 2 0).testBit f = true then 0 else cheapS F w C f)), nI (f + 1), m) := fun next exit => by
        unfold f_X0_stillDue_b4 f_X0_stillDue_j29
        dsimp only
        rw [if_neg hge, below_c hX hB (by omega), bnd_some]
        by_cases c : (C 2 0).testBit f = true
        · rw [if_pos c, if_pos rfl, if_pos c, nI_1]
          rfl
        · rw [if_neg c, if_neg (by decide), if_neg c, cheapest_c hX hW hB (by omega) hw, bnd_some, nI_add, nI_1]
      rw [lpk_s, st, ih (f + 1) fu _ (by omega) (by omega), dueS_s, Nat.add_assoc]
  unfold f_X0_stillDue
  have := key (F 0 0) 0 fuelN 0 (by omega) (by unfold fuelN; omega)
  rw [Nat.zero_add] at this
  exact this
/-! taken back -/
theorem fset_id {C : FdT} {i j v : Nat} (h : v = C i j) : fset C i j v = C := by
  funext a b
  unfold fset
  split
  · rename_i c
    rw [c.1, c.2, h]
  · rfl
theorem fset_fset {C : FdT} {i j v u : Nat} : fset (fset C i j v) i j u = fset C i j u := by
  funext a b
  unfold fset
  split <;> rfl
theorem upS_upS {C : FdT} {f : Nat} : upS (upS C f) f = C := by
  unfold upS
  rw [fset_fset]
  refine fset_id ?_
  simp [fset, Nat.xor_assoc]
theorem toll_cg {F C C' : FdT} {f : Nat} (h1 : C' 1 0 = C 1 0) (h2 : C' 2 0 = C 2 0) : tollS F C' f = tollS F C f := by
  unfold tollS
  rw [h1, h2]
theorem unpay_c {m : Mem} {w f p t : Nat} {F C : FdT} (hn : F 0 0 ≤ 5) (hf : f < F 0 0) (hp : p < F 0 0) (ht : t ≤ C 4 p)
    (hX : XR m w F (if p = f then fset (fset C 4 f (C 4 f - t)) 3 0 (C 3 0 + t) else fset (fset (fset C 4 p (C 4 p - t)) 3 0 (C 3 0 + t)) (5 + f) p (C (5 + f) p + t))) :
    ∃ m', f_X0_pay w (nI f) (nI p) (-(nI t)) m = some ((), m') ∧ XF m m' ∧ XR m' w F C := by
  obtain ⟨q0, q1, q2, q3, q4, q5, q6⟩ := hX
  obtain ⟨b1, b2⟩ := i5 hp hn
  obtain ⟨c1, c2⟩ := i5 hf hn
  have e1 : nI (C 4 p - t) - -(nI t) = nI (C 4 p) := by rw [Int32.sub_neg, nI_add, Nat.sub_add_cancel ht]
  have e2 : ∀ a, nI (a + t) + -(nI t) = nI a := fun a => by rw [← Int32.sub_eq_add_neg, pk_sub (by omega), Nat.add_sub_cancel]
  have ee : (nI p = nI f) ↔ p = f := nI_eq (by omega) (by omega)
  unfold f_X0_pay
  by_cases c : p = f
  · subst c
    simp only [if_true] at q0 q1 q2 q3 q4 q5 q6
    have p3 : m 10 w p = nI (C 4 p - t) := by have := (q6 p hp).2.2.1; simpa [fset] using this
    have q5' : m 7 w 13 = nI (C 3 0 + t) := by simpa [fset] using q5
    refine ⟨mset (mset m 10 w p (nI (C 4 p))) 7 w 13 (nI (C 3 0)), ?_, (XF.rf.set (by decide) (by decide)).set (by decide) (by decide), ?_⟩
    · simp [b1, b2, p3, q5', e1, e2]
    · refine ⟨by simpa [mset] using q0, by simpa [mset] using q1, by simpa [mset, fset] using q2, by simpa [mset, fset] using q3, by simpa [mset, fset] using q4, by simp [mset], fun x hx => ?_⟩
      obtain ⟨r1, r2, r3, r4, r5, r6⟩ := q6 x hx
      refine ⟨by simpa [mset] using r1, by simpa [mset] using r2, ?_, by simpa [mset] using r4, by simpa [mset] using r5, fun y hy => ?_⟩
      · by_cases ex : x = p
        · subst ex; simp [mset]
        · simpa [mset, fset, ex] using r3
      · have := r6 y hy
        simpa [mset, fset, o5] using this
  · simp only [if_neg c] at q0 q1 q2 q3 q4 q5 q6
    have c' : ¬ nI p = nI f := fun q => c (ee.mp q)
    have p3 : m 10 w p = nI (C 4 p - t) := by have := (q6 p hp).2.2.1; simpa [fset, o5] using this
    have q5' : m 7 w 13 = nI (C 3 0 + t) := by simpa [fset, o5] using q5
    have p6 : m 14 (5 * w + f) p = nI (C (5 + f) p + t) := by have := (q6 f hf).2.2.2.2.2 p hp; simpa [fset, o5] using this
    refine ⟨mset (mset (mset m 10 w p (nI (C 4 p))) 7 w 13 (nI (C 3 0))) 14 (5 * w + f) p (nI (C (5 + f) p)), ?_, ((XF.rf.set (by decide) (by decide)).set (by decide) (by decide)).set (by decide) (by decide), ?_⟩
    · simp [b1, b2, c1, c2, c', p3, q5', p6, e1, e2]
    · refine ⟨by simpa [mset] using q0, by simpa [mset] using q1, by simpa [mset, fset, o5] using q2, by simpa [mset, fset, o5] using q3, by simpa [mset, fset, o5] using q4, by simp [mset], fun x hx => ?_⟩
      obtain ⟨r1, r2, r3, r4, r5, r6⟩ := q6 x hx
      refine ⟨by simpa [mset] using r1, by simpa [mset] using r2, ?_, by simpa [mset] using r4, by simpa [mset] using r5, fun y hy => ?_⟩
      · by_cases ex : x = p
        · subst ex; simp [mset]
        · simpa [mset, fset, o5, ex] using r3
      · have := r6 y hy
        by_cases ex : x = f ∧ y = p
        · obtain ⟨rfl, rfl⟩ := ex
          simp [mset]
        · have ex' : ¬ (5 + x = 5 + f ∧ y = p) := fun z => ex ⟨by omega, z.2⟩
          have ex2 : ¬ (5 * w + x = 5 * w + f ∧ y = p) := fun z => ex ⟨by omega, z.2⟩
          simp only [mset, fset, o5, if_neg ex', if_neg ex2] at this ⊢
          simpa [o5, ex, ex2] using this
theorem CB_unup {C : FdT} {f g : Nat} (hB : CB (upS C f) g) (hf : f < 5) : CB C g := by
  have := CB_up hB hf
  rw [upS_upS] at this
  exact this
/-- a pass taken back -/
theorem unpass_c {m : Mem} {cw f how : Nat} {F C : FdT} {q : FdT × Nat} {g : Nat} (hW : WC F) (hB : CB C g) (hf : f < F 0 0) (hh : how < 4) (hq : passS F C f how = some q) (hX : XR m cw F q.1) :
    ∃ m', f_X0_unpass cw (nI f) (nI how) (payI q.2) m = some ((), m') ∧ XF m m' ∧ XR m' cw F C := by
  have hn := hW.1
  obtain ⟨b1, b2⟩ := i5 hf hn
  have ht := tollS_le hW C hf
  have hBq := passS_CB (p := q.2) hW hf hB hq
  have hX1 := XR_up hX hBq (f := f) (by omega)
  have n1 : ∀ k : Nat, k < 2 ^ 31 → ¬ nI k = -1 := fun k hk q => by
    have h := nI_toInt hk
    rw [q] at h
    have : (-1 : Int32).toInt = -1 := by decide
    omega
  have hF1 : XF m (mset m 7 cw 12 ((m 7 cw 12) ^^^ ((1 : Int32) <<< (nI f &&& 31)))) := XF.rf.set (by decide) (by decide)
  have d : how = 0 ∨ how = 1 ∨ how = 2 ∨ how = 3 := by omega
  unfold f_X0_unpass
  unfold passS at hq
  rcases d with rfl | rfl | rfl | rfl
  · rw [if_pos rfl] at hq
    split at hq
    case isFalse => cases hq
    rename_i c
    cases hq
    dsimp only at hX1 hBq ⊢
    rw [upS_upS] at hX1
    have htl := toll_c hX1 hW (CB_pay0 hB hW hf) hf
    rw [toll_cg (C := C) (by simp [fset]) (by simp [fset])] at htl
    obtain ⟨m', r1, r2, r3⟩ := unpay_c (m := mset m 7 cw 12 ((m 7 cw 12) ^^^ ((1 : Int32) <<< (nI f &&& 31)))) (w := cw) (p := f) (t := tollS F C f) (F := F) (C := C) hn hf hf c (by rw [if_pos rfl]; exact hX1)
    refine ⟨m', ?_, hF1.tr r2, r3⟩
    have hp : payI f = nI f := by unfold payI; rw [if_neg (by omega)]
    rw [hp, if_neg (n1 f (by omega)), htl, bnd_some, r1, bnd_some]
  · rw [if_neg (by decide), if_pos rfl] at hq
    split at hq
    case isFalse => cases hq
    rename_i c
    cases hq
    dsimp only at hX1 hBq ⊢
    rw [upS_upS] at hX1
    have h2 := XR_song hX1 (CB_song hB c.1) hf c.1
    have e : fset (fset C 0 0 (C 0 0 ^^^ 2 ^ F 6 f)) 0 0 ((fset C 0 0 (C 0 0 ^^^ 2 ^ F 6 f)) 0 0 ^^^ 2 ^ F 6 f) = C := by
      rw [fset_fset]
      exact fset_id (by simp [fset, Nat.xor_assoc])
    rw [e] at h2
    refine ⟨_, ?_, hF1.set (by decide) (by decide), h2⟩
    simp [payI, f_X0_turnWord, bnd, b1, b2, nI_1']
  · rw [if_neg (by decide), if_neg (by decide), if_pos rfl] at hq
    split at hq
    case isFalse => cases hq
    rename_i c
    cases hq
    dsimp only at hX1 hBq ⊢
    rw [upS_upS] at hX1
    have h2 := XR_secret hX1 (CB_secret hB (by omega)) hf (by omega)
    have e : fset (fset C 1 0 (C 1 0 ^^^ 2 ^ F 7 f)) 1 0 ((fset C 1 0 (C 1 0 ^^^ 2 ^ F 7 f)) 1 0 ^^^ 2 ^ F 7 f) = C := by
      rw [fset_fset]
      exact fset_id (by simp [fset, Nat.xor_assoc])
    rw [e] at h2
    refine ⟨_, ?_, hF1.set (by decide) (by decide), h2⟩
    simp [payI, f_X0_turnWord, bnd, b1, b2, nI_2']
  · rw [if_neg (by decide), if_neg (by decide), if_neg (by decide)] at hq
    split at hq
    case h_2 => cases hq
    rename_i x hx
    cases hq
    obtain ⟨l1, l2, l3, l4, l5⟩ := lendS_at _ _ _ hx
    dsimp only at hX1 hBq ⊢
    rw [upS_upS] at hX1
    have htl := toll_c hX1 hW (CB_pay3 hB hW hf) hf
    rw [toll_cg (C := C) (by simp [fset, o5]) (by simp [fset, o5])] at htl
    obtain ⟨m', r1, r2, r3⟩ := unpay_c (m := mset m 7 cw 12 ((m 7 cw 12) ^^^ ((1 : Int32) <<< (nI f &&& 31)))) (w := cw) (p := x) (t := tollS F C f) (F := F) (C := C) hn hf (by omega) l5 (by rw [if_neg l3]; exact hX1)
    refine ⟨m', ?_, hF1.tr r2, r3⟩
    have hp : payI x = nI x := by unfold payI; rw [if_neg (by omega)]
    rw [hp, if_neg (n1 x (by omega)), htl, bnd_some, r1, bnd_some]
