/-! ===== least, in numbers: all rows that go on from a state, in their order ===== -/
def howsS (F : FdT) (w : Nat) (rc : FdT → List (Nat × List Nat)) (C : FdT) (f : Nat) : Nat → Nat → List (Nat × List Nat)
  | _, 0 => []
  | h, t + 1 => (if w.testBit h = true then (match passS F C f h with
      | some q => (rc q.1).map (fun x => (x.1, (10 * f + h) :: x.2))
      | none => []) else []) ++ howsS F w rc C f (h + 1) t
def fishS (F : FdT) (w : Nat) (rc : FdT → List (Nat × List Nat)) (C : FdT) : Nat → Nat → List (Nat × List Nat)
  | _, 0 => []
  | f, t + 1 => (if (C 2 0).testBit f = true then [] else howsS F w rc C f 0 4) ++ fishS F w rc C (f + 1) t
def extS (F : FdT) (w : Nat) : Nat → FdT → List (Nat × List Nat)
  | 0, C => [(C 3 0, [])]
  | k + 1, C => fishS F w (extS F w k) C 0 (F 0 0)
theorem howsS_s {F : FdT} {w : Nat} {rc : FdT → List (Nat × List Nat)} {C : FdT} {f h t : Nat} : howsS F w rc C f h (t + 1) = (if w.testBit h = true then (match passS F C f h with
      | some q => (rc q.1).map (fun x => (x.1, (10 * f + h) :: x.2))
      | none => []) else []) ++ howsS F w rc C f (h + 1) t := rfl
theorem fishS_s {F : FdT} {w : Nat} {rc : FdT → List (Nat × List Nat)} {C : FdT} {f t : Nat} : fishS F w rc C f (t + 1) = (if (C 2 0).testBit f = true then [] else howsS F w rc C f 0 4) ++ fishS F w rc C (f + 1) t := rfl
theorem mem_hows {F : FdT} {w : Nat} {rc : FdT → List (Nat × List Nat)} {C : FdT} {f : Nat} {x : Nat × List Nat} : ∀ t h, x ∈ howsS F w rc C f h t ↔ ∃ h', h ≤ h' ∧ h' < h + t ∧ w.testBit h' = true ∧ ∃ q, passS F C f h' = some q ∧ ∃ y, y ∈ rc q.1 ∧ x = (y.1, (10 * f + h') :: y.2)
  | 0, h => by
    constructor
    · intro q; cases q
    · rintro ⟨h', h1, h2, _⟩; omega
  | t + 1, h => by
    rw [howsS_s, List.mem_append, mem_hows t (h + 1)]
    constructor
    · rintro (q | ⟨h', h1, h2, h3⟩)
      · split at q
        case isFalse => cases q
        rename_i hw
        split at q
        case h_2 => cases q
        rename_i z hz
        obtain ⟨y, hy, rfl⟩ := List.mem_map.mp q
        exact ⟨h, Nat.le_refl _, by omega, hw, z, hz, y, hy, rfl⟩
      · exact ⟨h', by omega, by omega, h3⟩
    · rintro ⟨h', h1, h2, hw, z, hz, y, hy, rfl⟩
      by_cases e : h' = h
      · subst e
        refine Or.inl ?_
        rw [if_pos hw, hz]
        exact List.mem_map.mpr ⟨y, hy, rfl⟩
      · exact Or.inr ⟨h', by omega, by omega, hw, z, hz, y, hy, rfl⟩
theorem mem_fish {F : FdT} {w : Nat} {rc : FdT → List (Nat × List Nat)} {C : FdT} {x : Nat × List Nat} : ∀ t f, x ∈ fishS F w rc C f t ↔ ∃ f', f ≤ f' ∧ f' < f + t ∧ (C 2 0).testBit f' = false ∧ x ∈ howsS F w rc C f' 0 4
  | 0, f => by
    constructor
    · intro q; cases q
    · rintro ⟨f', h1, h2, _⟩; omega
  | t + 1, f => by
    rw [fishS_s, List.mem_append, mem_fish t (f + 1)]
    constructor
    · rintro (q | ⟨f', h1, h2, h3⟩)
      · split at q
        case isTrue => cases q
        rename_i hw
        exact ⟨f, Nat.le_refl _, by omega, by simpa using hw, q⟩
      · exact ⟨f', by omega, by omega, h3⟩
    · rintro ⟨f', h1, h2, hb, hx⟩
      by_cases e : f' = f
      · subst e
        refine Or.inl ?_
        rw [if_neg (by rw [hb]; decide)]
        exact hx
      · exact Or.inr ⟨f', by omega, by omega, hb, hx⟩
/-- what a pass does to above -/
theorem pass_up {F C : FdT} {f h : Nat} {q : FdT × Nat} (e : passS F C f h = some q) : q.1 2 0 = C 2 0 ^^^ 2 ^ f := by
  unfold passS at e
  split at e
  · split at e
    · cases e; simp [upS, fset]
    · cases e
  split at e
  · split at e
    · cases e; simp [upS, fset]
    · cases e
  split at e
  · split at e
    · cases e; simp [upS, fset]
    · cases e
  · split at e
    · cases e; simp [upS, fset, o5]
    · cases e
theorem up_bit {A f : Nat} (h : A.testBit f = false) (g : Nat) : (A ^^^ 2 ^ f).testBit g = if g = f then true else A.testBit g := by
  rw [Nat.testBit_xor, Nat.testBit_two_pow]
  by_cases e : g = f
  · subst e; simp [h]
  · have e' : ¬ f = g := fun z => e z.symm
    simp [e, e']
def goesS (F : FdT) (w k : Nat) (C : FdT) (g : Nat) (r : List Nat) : Prop := r.length = k ∧ (r.map (· / 10)).Nodup ∧ (∀ c ∈ r, c / 10 < F 0 0 ∧ c % 10 < 4 ∧ w.testBit (c % 10) = true ∧ (C 2 0).testBit (c / 10) = false) ∧ ∃ C', rowS F C r = some C' ∧ C' 3 0 = g
theorem rowS_s {F C : FdT} {c : Nat} {r : List Nat} : rowS F C (c :: r) = match passS F C (c / 10) (c % 10) with
    | some q => rowS F q.1 r
    | none => none := rfl
theorem mem_ext {F : FdT} {w : Nat} : ∀ (k : Nat) (C : FdT) (g : Nat) (r : List Nat), (g, r) ∈ extS F w k C ↔ goesS F w k C g r
  | 0, C, g, r => by
    show (g, r) ∈ [(C 3 0, [])] ↔ _
    rw [List.mem_singleton]
    constructor
    · intro e
      cases e
      exact ⟨rfl, List.nodup_nil, fun c hc => (by cases hc), C, rfl, rfl⟩
    · rintro ⟨h1, -, -, C', h2, h3⟩
      have : r = [] := List.length_eq_zero_iff.mp h1
      subst this
      cases h2
      rw [h3]
  | k + 1, C, g, r => by
    show (g, r) ∈ fishS F w (extS F w k) C 0 (F 0 0) ↔ _
    rw [mem_fish]
    constructor
    · rintro ⟨f, -, hf, hb, hx⟩
      obtain ⟨h, -, hh, hw, q, hq, y, hy, e⟩ := (mem_hows 4 0).mp hx
      cases e
      obtain ⟨i1, i2, i3, C', i4, i5⟩ := (mem_ext k q.1 y.1 y.2).mp hy
      have d1 : (10 * f + h) / 10 = f := by omega
      have d2 : (10 * f + h) % 10 = h := by omega
      have hu := pass_up hq
      refine ⟨by simp [i1], ?_, ?_, C', ?_, i5⟩
      · rw [List.map_cons, List.nodup_cons, d1]
        refine ⟨fun z => ?_, i2⟩
        obtain ⟨c, hc, e⟩ := List.mem_map.mp z
        have := (i3 c hc).2.2.2
        rw [hu, up_bit hb, if_pos e] at this
        cases this
      · intro c hc
        rcases List.mem_cons.mp hc with rfl | hc
        · rw [d1, d2]; exact ⟨by omega, by omega, hw, hb⟩
        · obtain ⟨j1, j2, j3, j4⟩ := i3 c hc
          refine ⟨j1, j2, j3, ?_⟩
          rw [hu, up_bit hb] at j4
          split at j4
          · cases j4
          · exact j4
      · rw [rowS_s, d1, d2, hq]
        exact i4
    · rintro ⟨i1, i2, i3, C', i4, i5⟩
      cases r with
      | nil => cases i1
      | cons c r =>
        obtain ⟨j1, j2, j3, j4⟩ := i3 c (List.mem_cons_self ..)
        rw [List.map_cons, List.nodup_cons] at i2
        rw [rowS_s] at i4
        cases hq : passS F C (c / 10) (c % 10) with
        | none => rw [hq] at i4; cases i4
        | some q =>
          rw [hq] at i4
          have hu := pass_up hq
          refine ⟨c / 10, by omega, by omega, j4, (mem_hows 4 0).mpr ⟨c % 10, by omega, by omega, j3, q, hq, (g, r), (mem_ext k q.1 g r).mpr ⟨by simpa using i1, i2.2, fun c' hc' => ?_, C', i4, i5⟩, ?_⟩⟩
          · obtain ⟨l1, l2, l3, l4⟩ := i3 c' (List.mem_cons_of_mem _ hc')
            refine ⟨l1, l2, l3, ?_⟩
            rw [hu, up_bit j4]
            split
            · rename_i e
              exact absurd (List.mem_map.mpr ⟨c', hc', e⟩) i2.1
            · exact l4
          · have : 10 * (c / 10) + c % 10 = c := by omega
            rw [this]
/-- they stand in their order -/
def lexR (a b : Nat × List Nat) : Prop := List.Lex (· < ·) a.2 b.2
theorem hows_sorted {F : FdT} {w : Nat} {rc : FdT → List (Nat × List Nat)} {C : FdT} {f : Nat} (hr : ∀ C, (rc C).Pairwise lexR) : ∀ t h, (howsS F w rc C f h t).Pairwise lexR
  | 0, h => List.Pairwise.nil
  | t + 1, h => by
    rw [howsS_s, List.pairwise_append]
    refine ⟨?_, hows_sorted hr t (h + 1), ?_⟩
    · split
      case isFalse => exact List.Pairwise.nil
      split
      case h_2 => exact List.Pairwise.nil
      rename_i q hq
      rw [List.pairwise_map]
      exact (hr q.1).imp (fun hab => List.Lex.cons hab)
    · intro a ha b hb
      obtain ⟨h', h1, -, -, q', -, y', -, rfl⟩ := (mem_hows t (h + 1)).mp hb
      split at ha
      case isFalse => cases ha
      split at ha
      case h_2 => cases ha
      obtain ⟨y, hy, rfl⟩ := List.mem_map.mp ha
      exact List.Lex.rel (by show 10 * f + h < 10 * f + h'; omega)
theorem fish_sorted {F : FdT} {w : Nat} {rc : FdT → List (Nat × List Nat)} {C : FdT} (hr : ∀ C, (rc C).Pairwise lexR) : ∀ t f, (fishS F w rc C f t).Pairwise lexR
  | 0, f => List.Pairwise.nil
  | t + 1, f => by
    rw [fishS_s, List.pairwise_append]
    refine ⟨?_, fish_sorted hr t (f + 1), ?_⟩
    · split
      · exact List.Pairwise.nil
      · exact hows_sorted hr 4 0
    · intro a ha b hb
      obtain ⟨f', h1, -, -, hx⟩ := (mem_fish t (f + 1)).mp hb
      obtain ⟨h', -, h2, -, q', -, y', -, rfl⟩ := (mem_hows 4 0).mp hx
      split at ha
      · cases ha
      obtain ⟨h, -, h3, -, q, -, y, -, rfl⟩ := (mem_hows 4 0).mp ha
      exact List.Lex.rel (by show 10 * f + h < 10 * f' + h'; omega)
theorem ext_sorted {F : FdT} {w : Nat} : ∀ k C, (extS F w k C).Pairwise lexR
  | 0, C => List.pairwise_singleton ..
  | k + 1, C => fish_sorted (ext_sorted k) (F 0 0) 0
/-! the best of a list: the first of the fewest -/
def bstS : Nat × List Nat → List (Nat × List Nat) → Nat × List Nat
  | B, [] => B
  | B, x :: l => bstS (if x.1 < B.1 then x else B) l
theorem bst_app : ∀ (l l' : List (Nat × List Nat)) (B : Nat × List Nat), bstS B (l ++ l') = bstS (bstS B l) l'
  | [], l', B => rfl
  | x :: l, l', B => bst_app l l' _
theorem bst_id : ∀ (l : List (Nat × List Nat)) (B : Nat × List Nat), (∀ x ∈ l, B.1 ≤ x.1) → bstS B l = B
  | [], B, _ => rfl
  | x :: l, B, h => by
    show bstS (if x.1 < B.1 then x else B) l = B
    rw [if_neg (by have := h x (List.mem_cons_self ..); omega)]
    exact bst_id l B (fun y hy => h y (List.mem_cons_of_mem _ hy))
theorem bst_spec : ∀ (l : List (Nat × List Nat)) (B : Nat × List Nat), l.Pairwise lexR → (bstS B l = B ∧ ∀ x ∈ l, B.1 ≤ x.1) ∨ (bstS B l ∈ l ∧ (bstS B l).1 < B.1 ∧ ∀ x ∈ l, (bstS B l).1 < x.1 ∨ ((bstS B l).1 = x.1 ∧ ((bstS B l).2 = x.2 ∨ List.Lex (· < ·) (bstS B l).2 x.2)))
  | [], B, _ => Or.inl ⟨rfl, fun x hx => by cases hx⟩
  | x :: l, B, h => by
    obtain ⟨h1, h2⟩ := List.pairwise_cons.mp h
    show (bstS (if x.1 < B.1 then x else B) l = B ∧ _) ∨ (bstS (if x.1 < B.1 then x else B) l ∈ x :: l ∧ (bstS (if x.1 < B.1 then x else B) l).1 < B.1 ∧ ∀ y ∈ x :: l, (bstS (if x.1 < B.1 then x else B) l).1 < y.1 ∨ ((bstS (if x.1 < B.1 then x else B) l).1 = y.1 ∧ ((bstS (if x.1 < B.1 then x else B) l).2 = y.2 ∨ List.Lex (· < ·) (bstS (if x.1 < B.1 then x else B) l).2 y.2)))
    by_cases c : x.1 < B.1
    · rw [if_pos c]
      refine Or.inr ?_
      rcases bst_spec l x h2 with ⟨e, k⟩ | ⟨e, k1, k2⟩
      · rw [e]
        refine ⟨List.mem_cons_self .., c, fun y hy => ?_⟩
        rcases List.mem_cons.mp hy with rfl | hy
        · exact Or.inr ⟨rfl, Or.inl rfl⟩
        · have := k y hy
          by_cases d : x.1 = y.1
          · exact Or.inr ⟨d, Or.inr (h1 y hy)⟩
          · exact Or.inl (by omega)
      · refine ⟨List.mem_cons_of_mem _ e, by omega, fun y hy => ?_⟩
        rcases List.mem_cons.mp hy with rfl | hy
        · exact Or.inl k1
        · exact k2 y hy
    · rw [if_neg c]
      rcases bst_spec l B h2 with ⟨e, k⟩ | ⟨e, k1, k2⟩
      · refine Or.inl ⟨e, fun y hy => ?_⟩
        rcases List.mem_cons.mp hy with rfl | hy
        · omega
        · exact k y hy
      · refine Or.inr ⟨List.mem_cons_of_mem _ e, k1, fun y hy => ?_⟩
        rcases List.mem_cons.mp hy with rfl | hy
        · exact Or.inl (by omega)
        · exact k2 y hy
/-! how much is still due -/
def cheapS (F : FdT) (w : Nat) (C : FdT) (f : Nat) : Nat :=
  if (w.testBit 1 = true ∧ F 6 f < 6 ∧ (C 0 0).testBit (F 6 f) = false) ∨ (w.testBit 2 = true ∧ F 7 f ≠ f ∧ F 7 f < F 0 0 ∧ (C 1 0).testBit (F 7 f) = false) then 0
  else if (w.testBit 0 = true ∧ tollS F C f ≤ C 4 f) ∨ (w.testBit 3 = true ∧ (lendS F C f (tollS F C f) 0 (F 0 0)).isSome = true) then tollS F C f else 1000000
def dueS (F : FdT) (w : Nat) (C : FdT) : Nat → Nat → Nat
  | _, 0 => 0
  | f, t + 1 => (if (C 2 0).testBit f = true then 0 else cheapS F w C f) + dueS F w C (f + 1) t
def cntS (C : FdT) : Nat → Nat → Nat
  | _, 0 => 0
  | f, t + 1 => (if (C 2 0).testBit f = true then 0 else 1) + cntS C (f + 1) t
theorem dueS_s {F : FdT} {w : Nat} {C : FdT} {f t : Nat} : dueS F w C f (t + 1) = (if (C 2 0).testBit f = true then 0 else cheapS F w C f) + dueS F w C (f + 1) t := rfl
theorem cntS_s {C : FdT} {f t : Nat} : cntS C f (t + 1) = (if (C 2 0).testBit f = true then 0 else 1) + cntS C (f + 1) t := rfl
theorem due_0 {F : FdT} {w : Nat} {C : FdT} : ∀ t f, cntS C f t = 0 → dueS F w C f t = 0
  | 0, f, _ => rfl
  | t + 1, f, h => by
    rw [cntS_s] at h
    rw [dueS_s]
    by_cases c : (C 2 0).testBit f = true
    · rw [if_pos c] at h ⊢
      rw [due_0 t (f + 1) (by omega)]
    · rw [if_neg c] at h
      omega
def MonoS (C C' : FdT) : Prop := (∀ i, (C 0 0).testBit i = true → (C' 0 0).testBit i = true) ∧ (∀ i, (C 1 0).testBit i = true → (C' 1 0).testBit i = true) ∧ ∀ x, C' 4 x ≤ C 4 x
theorem xor_up {A s : Nat} (h : A.testBit s = false) (i : Nat) (hi : A.testBit i = true) : (A ^^^ 2 ^ s).testBit i = true := by
  rw [up_bit h]
  split
  · rfl
  · exact hi
theorem pass_mono {F C : FdT} {f h : Nat} {q : FdT × Nat} (e : passS F C f h = some q) : MonoS C q.1 := by
  unfold passS at e
  split at e
  · split at e
    case isFalse => cases e
    cases e
    refine ⟨fun i hi => by simpa [upS, fset] using hi, fun i hi => by simpa [upS, fset] using hi, fun x => ?_⟩
    by_cases d : x = f
    · subst d; simp [upS, fset]
    · simp [upS, fset, d]
  split at e
  · split at e
    case isFalse => cases e
    rename_i c
    cases e
    exact ⟨fun i hi => by simpa [upS, fset] using xor_up c.2 i hi, fun i hi => by simpa [upS, fset] using hi, fun x => by simp [upS, fset]⟩
  split at e
  · split at e
    case isFalse => cases e
    rename_i c
    cases e
    exact ⟨fun i hi => by simpa [upS, fset] using hi, fun i hi => by simpa [upS, fset] using xor_up c.2.2 i hi, fun x => by simp [upS, fset]⟩
  · split at e
    case h_2 => cases e
    rename_i p hp
    cases e
    refine ⟨fun i hi => by simpa [upS, fset, o5] using hi, fun i hi => by simpa [upS, fset, o5] using hi, fun x => ?_⟩
    by_cases d : x = p
    · subst d; simp [upS, fset, o5]
    · simp [upS, fset, o5, d]
theorem toll_mono {F C C' : FdT} (hm : MonoS C C') {x : Nat} (hb : (C' 2 0).testBit x = (C 2 0).testBit x) : tollS F C x ≤ tollS F C' x := by
  unfold tollS
  dsimp only
  rw [hb]
  by_cases c : (C 1 0).testBit x = true
  · rw [if_pos c, if_pos (hm.2.1 x c)]
    omega
  · rw [if_neg c]
    by_cases d : (C' 1 0).testBit x = true
    · rw [if_pos d]; omega
    · rw [if_neg d]; exact Nat.le_refl _
theorem lend_some {F C : FdT} {f toll : Nat} : ∀ k x y, x ≤ y → y < x + k → y ≠ f → F 3 y ≠ 0 → toll ≤ C 4 y → (lendS F C f toll x k).isSome = true
  | 0, x, y, h1, h2, _, _, _ => by omega
  | k + 1, x, y, h1, h2, h3, h4, h5 => by
    rw [lendS_s]
    split
    · rfl
    · rename_i c
      by_cases e : x = y
      · subst e; exact absurd ⟨h3, h4, h5⟩ c
      · exact lend_some k (x + 1) y (by omega) (by omega) h3 h4 h5
theorem cheap_le {F C : FdT} {w f : Nat} (hW : WC F) (hf : f < F 0 0) : cheapS F w C f ≤ 1000000 := by
  have := tollS_le hW C hf
  unfold cheapS
  split
  · omega
  · split <;> omega
theorem cheap_mono {F C C' : FdT} {w x : Nat} (hW : WC F) (hx : x < F 0 0) (hm : MonoS C C') (hb : (C' 2 0).testBit x = (C 2 0).testBit x) : cheapS F w C x ≤ cheapS F w C' x := by
  have ht := toll_mono (F := F) hm hb
  have htl := tollS_le hW C hx
  have f0 : ∀ i, (C' 0 0).testBit i = false → (C 0 0).testBit i = false := fun i h => by
    cases c : (C 0 0).testBit i
    · rfl
    · rw [hm.1 i c] at h; cases h
  have f1 : ∀ i, (C' 1 0).testBit i = false → (C 1 0).testBit i = false := fun i h => by
    cases c : (C 1 0).testBit i
    · rfl
    · rw [hm.2.1 i c] at h; cases h
  unfold cheapS
  split
  · exact Nat.zero_le _
  rename_i c1
  rw [if_neg (fun z => c1 (by
    rcases z with ⟨z1, z2, z3⟩ | ⟨z1, z2, z3, z4⟩
    · exact Or.inl ⟨z1, z2, f0 _ z3⟩
    · exact Or.inr ⟨z1, z2, z3, f1 _ z4⟩) : ¬ ((w.testBit 1 = true ∧ F 6 x < 6 ∧ (C' 0 0).testBit (F 6 x) = false) ∨ (w.testBit 2 = true ∧ F 7 x ≠ x ∧ F 7 x < F 0 0 ∧ (C' 1 0).testBit (F 7 x) = false)))]
  by_cases c2 : (w.testBit 0 = true ∧ tollS F C' x ≤ C' 4 x) ∨ (w.testBit 3 = true ∧ (lendS F C' x (tollS F C' x) 0 (F 0 0)).isSome = true)
  · rw [if_pos c2, if_pos ?_]
    · exact ht
    rcases c2 with ⟨z1, z2⟩ | ⟨z1, z2⟩
    · exact Or.inl ⟨z1, by have := hm.2.2 x; omega⟩
    · obtain ⟨y, hy⟩ := Option.isSome_iff_exists.mp z2
      obtain ⟨l1, l2, l3, l4, l5⟩ := lendS_at _ _ _ hy
      exact Or.inr ⟨z1, lend_some (F 0 0) 0 y l1 l2 l3 l4 (by have := hm.2.2 y; omega)⟩
  · rw [if_neg c2]
    split <;> omega
/-- who passes gives what it costs at the least -/
theorem cheap_paid {F C : FdT} {w f h : Nat} {q : FdT × Nat} (hh : h < 4) (hw : w.testBit h = true) (e : passS F C f h = some q) : C 3 0 + cheapS F w C f ≤ q.1 3 0 := by
  have d : h = 0 ∨ h = 1 ∨ h = 2 ∨ h = 3 := by omega
  unfold passS at e
  rcases d with rfl | rfl | rfl | rfl
  · rw [if_pos rfl] at e
    split at e
    case isFalse => cases e
    rename_i c
    cases e
    have : cheapS F w C f ≤ tollS F C f := by
      unfold cheapS
      split
      · omega
      · rw [if_pos (Or.inl ⟨hw, c⟩)]; exact Nat.le_refl _
    simp [upS, fset]
    omega
  · rw [if_neg (by decide), if_pos rfl] at e
    split at e
    case isFalse => cases e
    rename_i c
    cases e
    have : cheapS F w C f = 0 := by
      unfold cheapS
      rw [if_pos (Or.inl ⟨hw, c⟩)]
    simp [upS, fset]
    omega
  · rw [if_neg (by decide), if_neg (by decide), if_pos rfl] at e
    split at e
    case isFalse => cases e
    rename_i c
    cases e
    have : cheapS F w C f = 0 := by
      unfold cheapS
      rw [if_pos (Or.inr ⟨hw, c⟩)]
    simp [upS, fset]
    omega
  · rw [if_neg (by decide), if_neg (by decide), if_neg (by decide)] at e
    split at e
    case h_2 => cases e
    rename_i p hp
    cases e
    have : cheapS F w C f ≤ tollS F C f := by
      unfold cheapS
      split
      · omega
      · rw [if_pos (Or.inr ⟨hw, by rw [hp]; rfl⟩)]; exact Nat.le_refl _
    simp [upS, fset, o5]
    omega
theorem due_step {F C C' : FdT} {w f : Nat} (hW : WC F) (hm : MonoS C C') (hb : (C 2 0).testBit f = false) (hu : C' 2 0 = C 2 0 ^^^ 2 ^ f) : ∀ t x, x + t ≤ F 0 0 → dueS F w C x t ≤ dueS F w C' x t + (if x ≤ f ∧ f < x + t then cheapS F w C f else 0)
  | 0, x, _ => by unfold dueS; omega
  | t + 1, x, hx => by
    have ih := due_step (w := w) hW hm hb hu t (x + 1) (by omega)
    rw [dueS_s, dueS_s, hu]
    by_cases e : x = f
    · subst e
      rw [up_bit hb, if_pos rfl, if_neg (by rw [hb]; decide), if_pos rfl, if_pos ⟨Nat.le_refl _, by omega⟩]
      rw [if_neg (by omega)] at ih
      omega
    · rw [up_bit hb, if_neg e]
      have hc : (if x + 1 ≤ f ∧ f < x + 1 + t then cheapS F w C f else 0) = (if x ≤ f ∧ f < x + (t + 1) then cheapS F w C f else 0) := by
        by_cases z : x ≤ f ∧ f < x + (t + 1)
        · rw [if_pos z, if_pos (by omega)]
        · rw [if_neg z, if_neg (by omega)]
      rw [hc] at ih
      have hbx : (C' 2 0).testBit x = (C 2 0).testBit x := by rw [hu, up_bit hb, if_neg e]
      have := cheap_mono (w := w) hW (show x < F 0 0 by omega) hm hbx
      split
      · omega
      · omega
theorem cnt_step {C C' : FdT} {f : Nat} (hb : (C 2 0).testBit f = false) (hu : C' 2 0 = C 2 0 ^^^ 2 ^ f) : ∀ t x, cntS C x t = cntS C' x t + (if x ≤ f ∧ f < x + t then 1 else 0)
  | 0, x => by
    unfold cntS
    rw [if_neg (by omega)]
  | t + 1, x => by
    have ih := cnt_step hb hu t (x + 1)
    rw [cntS_s, cntS_s, hu, up_bit hb]
    by_cases e : x = f
    · subst e
      rw [if_pos rfl, if_neg (by rw [hb]; decide), if_pos rfl, if_pos ⟨Nat.le_refl _, by omega⟩]
      rw [if_neg (by omega)] at ih
      omega
    · rw [if_neg e]
      have hc : (if x + 1 ≤ f ∧ f < x + 1 + t then 1 else 0) = (if x ≤ f ∧ f < x + (t + 1) then 1 else 0) := by
        by_cases z : x ≤ f ∧ f < x + (t + 1)
        · rw [if_pos z, if_pos (by omega)]
        · rw [if_neg z, if_neg (by omega)]
      rw [hc] at ih
      omega
theorem ext_ge {F : FdT} {w : Nat} (hW : WC F) : ∀ k C, cntS C 0 (F 0 0) = k → ∀ x ∈ extS F w k C, C 3 0 + dueS F w C 0 (F 0 0) ≤ x.1
  | 0, C, h, x, hx => by
    have : x = (C 3 0, []) := List.mem_singleton.mp hx
    subst this
    rw [due_0 _ _ h]
    exact Nat.le_refl _
  | k + 1, C, h, x, hx => by
    obtain ⟨f, -, hf, hb, hx⟩ := (mem_fish (F 0 0) 0).mp hx
    obtain ⟨h', -, hh, hw, q, hq, y, hy, rfl⟩ := (mem_hows 4 0).mp hx
    have hu := pass_up hq
    have c1 := cnt_step hb hu (F 0 0) 0
    rw [if_pos ⟨Nat.zero_le _, hf⟩] at c1
    have ih := ext_ge (w := w) hW k q.1 (by omega) y hy
    have d1 := due_step (w := w) hW (pass_mono hq) hb hu (F 0 0) 0 (by omega)
    rw [if_pos ⟨Nat.zero_le _, hf⟩] at d1
    have d2 := cheap_paid (by omega) hw hq
    show C 3 0 + dueS F w C 0 (F 0 0) ≤ y.1
    omega
