/-! ===== bits ===== -/
theorem bit_r : ∀ s, s < 64 → ∀ k, k < 6 → (((nI s >>> (nI k &&& 31)) &&& 1) = (if s.testBit k then 1 else 0)) := by decide +kernel
theorem bit_x : ∀ s, s < 64 → ∀ k, k < 6 → (nI s ^^^ ((1 : Int32) <<< (nI k &&& 31))) = nI (s ^^^ 2 ^ k) ∧ s ^^^ 2 ^ k < 64 := by decide +kernel
theorem bit_o : ∀ s, s < 64 → ∀ k, k < 6 → s.testBit k = false → (nI s ||| ((1 : Int32) <<< (nI k &&& 31))) = nI (s ^^^ 2 ^ k) := by decide +kernel
theorem bit_5 : ∀ s, s < 32 → ∀ k, k < 5 → s ^^^ 2 ^ k < 32 := by decide +kernel
theorem bit_1 {s k : Nat} (hs : s < 64) (hk : k < 6) : ((((nI s >>> (nI k &&& 31)) &&& 1) = 1) ↔ s.testBit k = true) ∧ ((((nI s >>> (nI k &&& 31)) &&& 1) = 0) ↔ s.testBit k = false) := by
  rw [bit_r s hs k hk]
  cases s.testBit k <;> simp
/-! ===== what is given in passes: within bounds ===== -/
def WC (F : FdT) : Prop := F 0 0 ≤ 5 ∧ F 1 0 ≤ 9 ∧ F 2 0 < 64 ∧ ∀ f, f < F 0 0 → F 3 f ≤ 2 ∧ 1 ≤ F 4 f ∧ F 4 f ≤ 9 ∧ F 5 f ≤ 198 ∧ F 6 f ≤ 6 ∧ F 7 f ≤ 5
theorem WF.wc {F : FdT} (h : WF F) : WC F := ⟨h.1, h.2.1, h.2.2.1, fun f hf => by have := h.2.2.2 f hf; omega⟩
/-- the numbers of a state are small: what was given at most g -/
def CB (C : FdT) (g : Nat) : Prop := C 0 0 < 64 ∧ C 1 0 < 32 ∧ C 2 0 < 32 ∧ C 3 0 ≤ g ∧ (∀ f, f < 5 → C 4 f ≤ 198) ∧ ∀ f x, C (5 + f) x ≤ g
theorem CB.mono {C : FdT} {g g' : Nat} (h : CB C g) (hg : g ≤ g') : CB C g' := ⟨h.1, h.2.1, h.2.2.1, by have := h.2.2.2.1; omega, h.2.2.2.2.1, fun f x => by have := h.2.2.2.2.2 f x; omega⟩
theorem shareS_le {F : FdT} (h : WC F) {f : Nat} (hf : f < F 0 0) : shareS F f ≤ 9 := by
  have := h.2.2.2 f hf
  unfold shareS
  split
  · omega
  · split <;> omega
theorem tollS_le {F : FdT} (h : WC F) (C : FdT) {f : Nat} (hf : f < F 0 0) : tollS F C f ≤ 36 := by
  have h1 := shareS_le h hf
  have h2 := h.2.1
  unfold tollS
  dsimp only
  split <;> split <;> omega
theorem o5 (x : Nat) : ((5 + x = 0) = False ∧ (5 + x = 1) = False ∧ (5 + x = 2) = False ∧ (5 + x = 3) = False ∧ (5 + x = 4) = False) ∧ ((0 = 5 + x) = False ∧ (1 = 5 + x) = False ∧ (2 = 5 + x) = False ∧ (3 = 5 + x) = False ∧ (4 = 5 + x) = False) := by
  simp only [eq_iff_iff, iff_false]
  omega
theorem CB_start {F : FdT} (h : WC F) {g : Nat} : CB (startS F) g := by
  refine ⟨by simpa [startS] using h.2.2.1, by simp [startS], by simp [startS], by simp [startS], fun f hf => ?_, fun f x => by simp [startS, o5]⟩
  by_cases e : f < F 0 0
  · have := h.2.2.2 f e; simp [startS, e]; omega
  · simp [startS, e]
theorem lendS_s {F C : FdT} {f toll x k : Nat} : lendS F C f toll x (k + 1) = if x ≠ f ∧ F 3 x ≠ 0 ∧ toll ≤ C 4 x then some x else lendS F C f toll (x + 1) k := rfl
theorem lendS_at {F C : FdT} {f toll : Nat} : ∀ (k x y : Nat), lendS F C f toll x k = some y → x ≤ y ∧ y < x + k ∧ y ≠ f ∧ F 3 y ≠ 0 ∧ toll ≤ C 4 y
  | 0, x, y, h => by cases h
  | k + 1, x, y, h => by
    unfold lendS at h
    split at h
    case isTrue c => cases h; exact ⟨Nat.le_refl _, by omega, c⟩
    case isFalse c =>
      obtain ⟨a, b, d⟩ := lendS_at k (x + 1) y h
      exact ⟨by omega, by omega, d⟩
theorem CB_pay0 {F C : FdT} {f g : Nat} (hB : CB C g) (hW : WC F) (hf : f < F 0 0) : CB (fset (fset C 4 f (C 4 f - tollS F C f)) 3 0 (C 3 0 + tollS F C f)) (g + 36) := by
  obtain ⟨h0, h1, h2, h3, h4, h5⟩ := hB
  have ht := tollS_le hW C hf
  refine ⟨by simpa [fset] using h0, by simpa [fset] using h1, by simpa [fset] using h2, by simp [fset]; omega, fun x hx => ?_, fun x y => ?_⟩
  · have := h4 x hx
    by_cases e : x = f
    · subst e; simp [fset]; omega
    · simpa [fset, e] using this
  · have := h5 x y
    simp [fset, o5]; omega
theorem CB_song {C : FdT} {s g : Nat} (hB : CB C g) (hs : s < 6) : CB (fset C 0 0 (C 0 0 ^^^ 2 ^ s)) g := by
  obtain ⟨h0, h1, h2, h3, h4, h5⟩ := hB
  have := (bit_x _ h0 s hs).2
  exact ⟨by simpa [fset] using this, by simpa [fset] using h1, by simpa [fset] using h2, by simpa [fset] using h3, fun x hx => by simpa [fset] using h4 x hx, fun x y => by simpa [fset, o5] using h5 x y⟩
theorem CB_secret {C : FdT} {s g : Nat} (hB : CB C g) (hs : s < 5) : CB (fset C 1 0 (C 1 0 ^^^ 2 ^ s)) g := by
  obtain ⟨h0, h1, h2, h3, h4, h5⟩ := hB
  have := bit_5 _ h1 s hs
  exact ⟨by simpa [fset] using h0, by simpa [fset] using this, by simpa [fset] using h2, by simpa [fset] using h3, fun x hx => by simpa [fset] using h4 x hx, fun x y => by simpa [fset, o5] using h5 x y⟩
theorem CB_pay3 {F C : FdT} {f p g : Nat} (hB : CB C g) (hW : WC F) (hf : f < F 0 0) : CB (fset (fset (fset C 4 p (C 4 p - tollS F C f)) 3 0 (C 3 0 + tollS F C f)) (5 + f) p (C (5 + f) p + tollS F C f)) (g + 36) := by
  obtain ⟨h0, h1, h2, h3, h4, h5⟩ := hB
  have ht := tollS_le hW C hf
  refine ⟨by simpa [fset, o5] using h0, by simpa [fset, o5] using h1, by simpa [fset, o5] using h2, by simp [fset, o5]; omega, fun y hy => ?_, fun y z => ?_⟩
  · have := h4 y hy
    by_cases e : y = p
    · subst e; simp [fset, o5]; omega
    · simpa [fset, o5, e] using this
  · have := h5 y z
    have := h5 f p
    simp [fset, o5]
    split <;> omega
theorem CB_up {C : FdT} {f g : Nat} (hB : CB C g) (hf : f < 5) : CB (upS C f) g := by
  obtain ⟨h0, h1, h2, h3, h4, h5⟩ := hB
  have := bit_5 _ h2 f hf
  exact ⟨by simpa [upS, fset] using h0, by simpa [upS, fset] using h1, by simpa [upS, fset] using this, by simpa [upS, fset] using h3, fun x hx => by simpa [upS, fset] using h4 x hx, fun x y => by simpa [upS, fset, o5] using h5 x y⟩
theorem passS_CB {F C C' : FdT} {f how p g : Nat} (hW : WC F) (hf : f < F 0 0) (hB : CB C g) (h : passS F C f how = some (C', p)) : CB C' (g + 36) := by
  have hn := hW.1
  unfold passS at h
  split at h
  · split at h
    case isFalse => cases h
    cases h
    exact CB_up (CB_pay0 hB hW hf) (by omega)
  split at h
  · split at h
    case isFalse => cases h
    rename_i c
    cases h
    exact (CB_up (CB_song hB c.1) (by omega)).mono (by omega)
  split at h
  · split at h
    case isFalse => cases h
    rename_i c
    cases h
    exact (CB_up (CB_secret hB (by omega)) (by omega)).mono (by omega)
  · split at h
    case h_2 => cases h
    cases h
    exact CB_up (CB_pay3 hB hW hf) (by omega)
/-! ===== a Crossing of the class, w: 0 the object's, 1 the search's ===== -/
def XR (m : Mem) (w : Nat) (F C : FdT) : Prop := m 7 w 8 = nI (F 0 0) ∧ m 7 w 9 = nI (F 1 0) ∧ m 7 w 10 = nI (C 0 0) ∧ m 7 w 11 = nI (C 1 0) ∧ m 7 w 12 = nI (C 2 0) ∧ m 7 w 13 = nI (C 3 0) ∧
  ∀ f, f < F 0 0 → m 8 w f = nI (F 3 f) ∧ m 9 w f = nI (F 4 f) ∧ m 10 w f = nI (C 4 f) ∧ m 11 w f = nI (F 6 f) ∧ m 12 w f = nI (F 7 f) ∧ ∀ g, g < F 0 0 → m 14 (5 * w + f) g = nI (C (5 + f) g)
def XF (m m' : Mem) : Prop := ∀ t, t < 7 ∨ 16 < t → m' t = m t
theorem XF.rf {m : Mem} : XF m m := fun _ _ => rfl
theorem XF.tr {a b c : Mem} (h : XF a b) (h' : XF b c) : XF a c := fun t ht => (h' t ht).trans (h t ht)
theorem XF.set {m m' : Mem} {t i j : Nat} {v : Int32} (h : XF m m') (h1 : 7 ≤ t) (h2 : t ≤ 16) : XF m (mset m' t i j v) := fun t' ht => (mset_ne (by omega)).trans (h t' ht)
theorem XF.ci {m m' : Mem} {Sh : ShT} {F : FdT} (h : XF m m') (hi : CI m Sh F) : CI m' Sh F := CI_cong (fun t ht => h t (by omega)) hi
theorem XF.cf {m m' : Mem} (h : XF m m') : CF m m' := fun t ht => h t (by omega)
theorem below_c {m : Mem} {w f : Nat} {F C : FdT} {g : Nat} (hX : XR m w F C) (hB : CB C g) (hf : f < 5) : f_X0_isBelow w (nI f) m = some (if (C 2 0).testBit f then 0 else 1, m) := by
  unfold f_X0_isBelow
  have hb := (bit_1 (s := C 2 0) (k := f) (by have := hB.2.2.1; omega) (by omega)).2
  rw [hX.2.2.2.2.1]
  by_cases c : (C 2 0).testBit f
  · rw [if_neg (fun q => by rw [hb.mp q] at c; cases c), if_pos c]
  · rw [if_pos (hb.mpr (by simpa using c)), if_neg c]
theorem toll_c {m : Mem} {w f : Nat} {F C : FdT} {g : Nat} (hX : XR m w F C) (hW : WC F) (hB : CB C g) (hf : f < F 0 0) : f_X0_tollOf w (nI f) m = some (nI (tollS F C f), m) := by
  have hn := hW.1
  obtain ⟨b1, b2⟩ := i5 hf hn
  obtain ⟨q0, q1, q2, q3, q4, q5, q6⟩ := hX
  obtain ⟨p1, p2, p3, p4, p5, p6⟩ := q6 f hf
  obtain ⟨w1, w2, w3, -⟩ := hW.2.2.2 f hf
  have hsh := shareOf_c w1 w2 w3 m
  have hbl := below_c ⟨q0, q1, q2, q3, q4, q5, q6⟩ hB (show f < 5 by omega)
  have hb := (bit_1 (s := C 1 0) (k := f) (by have := hB.2.1; omega) (by omega)).1
  unfold f_X0_tollOf
  simp only [b1, b2, if_true, p1, p2, hsh, bnd_some, hbl]
  unfold tollS f_X0_tollOf_j31
  dsimp only
  rw [q3, q1]
  have e1 : nI (shareS F f) + 0 = nI (shareS F f + 0) := by rw [← nI_0, nI_add]
  have e2 : nI (shareS F f) + nI (F 1 0) = nI (shareS F f + F 1 0) := nI_add _ _
  have e3 : ∀ a, (2 : Int32) * nI a = nI (2 * a) := fun a => pk_mul 2 a
  by_cases c : (C 2 0).testBit f
  · rw [if_pos c, if_pos rfl, if_pos c, e1]
    by_cases d : (C 1 0).testBit f
    · rw [if_pos (hb.mpr d), if_pos d, e3]
    · rw [if_neg (fun q => d (hb.mp q)), if_neg d]
  · rw [if_neg c, if_neg (by decide), if_neg c, e2]
    by_cases d : (C 1 0).testBit f
    · rw [if_pos (hb.mpr d), if_pos d, e3]
    · rw [if_neg (fun q => d (hb.mp q)), if_neg d]
theorem song_c {m : Mem} {w f : Nat} {F C : FdT} {g : Nat} (hX : XR m w F C) (hW : WC F) (hB : CB C g) (hf : f < F 0 0) : f_X0_hasNewSong w (nI f) m = some (if F 6 f < 6 ∧ (C 0 0).testBit (F 6 f) = false then 1 else 0, m) := by
  obtain ⟨b1, b2⟩ := i5 hf hW.1
  obtain ⟨q0, q1, q2, q3, q4, q5, q6⟩ := hX
  obtain ⟨p1, p2, p3, p4, p5, p6⟩ := q6 f hf
  have w6 := (hW.2.2.2 f hf).2.2.2.2.1
  unfold f_X0_hasNewSong
  simp only [b1, b2, if_true, p4, q2]
  have e : ((6 : Int32) ≤ nI (F 6 f)) ↔ 6 ≤ F 6 f := nI_leI (a := 6) (by decide) (by omega)
  by_cases c : F 6 f < 6
  · have hb := (bit_1 (s := C 0 0) (k := F 6 f) hB.1 c).2
    rw [if_neg (fun q => by have := e.mp q; omega)]
    by_cases d : (C 0 0).testBit (F 6 f) = false
    · rw [if_pos (hb.mpr d), if_pos ⟨c, d⟩]
    · rw [if_neg (fun q => d (hb.mp q)), if_neg (fun q => d q.2)]
  · rw [if_pos (e.mpr (by omega)), if_neg (fun q => c q.1)]
theorem secret_c {m : Mem} {w f : Nat} {F C : FdT} {g : Nat} (hX : XR m w F C) (hW : WC F) (hB : CB C g) (hf : f < F 0 0) : f_X0_hasSecret w (nI f) m = some (if F 7 f ≠ f ∧ F 7 f < F 0 0 ∧ (C 1 0).testBit (F 7 f) = false then 1 else 0, m) := by
  have hn := hW.1
  obtain ⟨b1, b2⟩ := i5 hf hW.1
  obtain ⟨q0, q1, q2, q3, q4, q5, q6⟩ := hX
  obtain ⟨p1, p2, p3, p4, p5, p6⟩ := q6 f hf
  have w7 := (hW.2.2.2 f hf).2.2.2.2.2
  unfold f_X0_hasSecret
  simp only [b1, b2, if_true, p5, q0, q3]
  have e : (nI (F 7 f) = nI f) ↔ F 7 f = f := nI_eq (by omega) (by omega)
  have e2 : (nI (F 0 0) ≤ nI (F 7 f)) ↔ F 0 0 ≤ F 7 f := nI_leI (by omega) (by omega)
  by_cases c : F 7 f = f
  · rw [if_pos (e.mpr c), if_neg (fun q => q.1 c)]
  rw [if_neg (fun q => c (e.mp q))]
  by_cases c2 : F 7 f < F 0 0
  · have hb := (bit_1 (s := C 1 0) (k := F 7 f) (by have := hB.2.1; omega) (by omega)).2
    rw [if_neg (fun q => by have := e2.mp q; omega)]
    by_cases d : (C 1 0).testBit (F 7 f) = false
    · rw [if_pos (hb.mpr d), if_pos ⟨c, c2, d⟩]
    · rw [if_neg (fun q => d (hb.mp q)), if_neg (fun q => d q.2.2)]
  · rw [if_pos (e2.mpr (by omega)), if_neg (fun q => c2 q.2.1)]
theorem lender_c {m : Mem} {w f toll : Nat} {F C : FdT} {g : Nat} (hX : XR m w F C) (hW : WC F) (hB : CB C g) (hf : f < F 0 0) (ht : toll < 2 ^ 31) : f_X0_lenderFor w (nI f) (nI toll) m = some (match lendS F C f toll 0 (F 0 0) with
    | some x => nI x
    | none => -2, m) := by
  have hn := hW.1
  obtain ⟨q0, q1, q2, q3, q4, q5, q6⟩ := hX
  unfold f_X0_lenderFor
  refine lpk_ind (fun k s => ∃ x, x + k = F 0 0 ∧ s = (nI x, m) ∧ lendS F C f toll x k = lendS F C f toll 0 (F 0 0)) ?_ (F 0 0) fuelN _ (by unfold fuelN; omega) ⟨0, by omega, rfl, rfl⟩
  rintro k s ⟨x, hx, rfl, hl⟩
  unfold f_X0_lenderFor_b2
  cases k with
  | zero =>
    refine Or.inr fun next => ?_
    have e : x = F 0 0 := by omega
    subst e
    have hle : nI (F 0 0) ≤ nI (F 0 0) := nI_le (Nat.le_refl _) (by omega)
    rw [← hl]
    simp [q0, hle, lendS]
  | succ k =>
    obtain ⟨b1, b2⟩ := i5 (f := x) (n := F 0 0) (by omega) hn
    obtain ⟨p1, p2, p3, p4, p5, p6⟩ := q6 x (by omega)
    have wk := (hW.2.2.2 x (by omega)).1
    have c4 := hB.2.2.2.2.1 x (by omega)
    have e0 : (nI (F 3 x) = 0) ↔ F 3 x = 0 := nI_z (by omega)
    have e1 : (nI x = nI f) ↔ x = f := nI_eq (by omega) (by omega)
    have e2 : (nI (C 4 x) < nI toll) ↔ C 4 x < toll := nI_ltI (by omega) ht
    have hge : ¬ nI (F 0 0) ≤ nI x := nI_ge (by omega) (by omega)
    rw [lendS_s] at hl
    by_cases c1 : x = f
    · refine Or.inl ⟨k, (nI (x + 1), m), rfl, ⟨x + 1, by omega, rfl, by rw [← hl, if_neg (fun q => q.1 c1)]⟩, fun next => ?_⟩
      simp [q0, hge, e1, c1, f_X0_lenderFor_j36, nI_succ]
      subst c1
      simp [hge]
    have c1' : ¬ nI x = nI f := fun q => c1 (e1.mp q)
    by_cases c2 : F 3 x = 0
    · refine Or.inl ⟨k, (nI (x + 1), m), rfl, ⟨x + 1, by omega, rfl, by rw [← hl, if_neg (fun q => q.2.1 c2)]⟩, fun next => ?_⟩
      simp [q0, hge, c1', b1, b2, p1, e0.mpr c2, f_X0_lenderFor_j36, nI_succ]
    have c2' : ¬ nI (F 3 x) = 0 := fun q => c2 (e0.mp q)
    by_cases c3 : C 4 x < toll
    · refine Or.inl ⟨k, (nI (x + 1), m), rfl, ⟨x + 1, by omega, rfl, by rw [← hl, if_neg (fun q => by have := q.2.2; omega)]⟩, fun next => ?_⟩
      simp [q0, hge, c1', b1, b2, p1, c2', p3, e2.mpr c3, f_X0_lenderFor_j36, nI_succ]
    · have c3' : ¬ nI (C 4 x) < nI toll := fun q => c3 (e2.mp q)
      refine Or.inr fun next => ?_
      rw [if_pos ⟨c1, c2, by omega⟩] at hl
      rw [← hl]
      simp [q0, hge, c1', b1, b2, p1, c2', p3, c3']
