/-! ===== what a state is: fault, trace, sheets, the ford F, readings; how class and reference hold it ===== -/
theorem mset_ne {m : Mem} {t i j t' : Nat} {v : Int32} (h : t' ≠ t) : mset m t i j v t' = m t' := by
  funext a b
  unfold mset
  rw [if_neg (fun q => h q.1)]
theorem sheet_cases (x : Int32) : ((∀ m, f_X6_isSheet x m = some (0, m)) ∧ (∀ m, f_X7_isSheet x m = some (0, m))) ∨ (∃ k, k < 4 ∧ x = nI k ∧ (∀ m, f_X6_isSheet x m = some (1, m)) ∧ ∀ m, f_X7_isSheet x m = some (1, m)) := by
  rcases rng_cases x (b := 3) (n := 3) rfl (by decide) with ⟨h1, h2, -⟩ | ⟨k, hk, e, h1, h2⟩
  · exact Or.inl ⟨fun m => by simp [f_X6_isSheet, h1, bnd], fun m => by simp [f_X7_isSheet, h2, bnd]⟩
  · exact Or.inr ⟨k, by omega, e, fun m => by simp [f_X6_isSheet, h1, bnd], fun m => by simp [f_X7_isSheet, h2, bnd]⟩
theorem lane_cases (x : Int32) : ((∀ m, f_X6_isLane x m = some (0, m)) ∧ (∀ m, f_X7_isSort x m = some (0, m))) ∨ (∃ k, k < 3 ∧ x = nI k ∧ (∀ m, f_X6_isLane x m = some (1, m)) ∧ ∀ m, f_X7_isSort x m = some (1, m)) := by
  rcases rng_cases x (b := 2) (n := 2) rfl (by decide) with ⟨h1, h2, -⟩ | ⟨k, hk, e, h1, h2⟩
  · exact Or.inl ⟨fun m => by simp [f_X6_isLane, h1, bnd], fun m => by simp [f_X7_isSort, h2, bnd]⟩
  · exact Or.inr ⟨k, by omega, e, fun m => by simp [f_X6_isLane, h1, bnd], fun m => by simp [f_X7_isSort, h2, bnd]⟩
theorem fish_cases (x : Int32) {n : Nat} (hn : n < 2 ^ 31) : ((∀ m, m 4 0 1 = nI n → f_X5_has x m = some (0, m)) ∧ (∀ m, m 30 0 7 = nI n → f_X7_isFish x m = some (0, m)) ∧ ∀ f, f < n → x ≠ nI f) ∨
    (∃ f, f < n ∧ x = nI f ∧ (∀ m, m 4 0 1 = nI n → f_X5_has x m = some (1, m)) ∧ ∀ m, m 30 0 7 = nI n → f_X7_isFish x m = some (1, m)) := by
  by_cases h0 : x < 0
  · refine Or.inl ⟨fun m _ => by simp [f_X5_has, h0], fun m _ => by simp [f_X7_isFish, h0], fun f hf e => ?_⟩
    rw [e] at h0
    exact nI_pos (by omega) h0
  · by_cases h1 : nI n ≤ x
    · refine Or.inl ⟨fun m hm => by simp [f_X5_has, h0, hm, h1], fun m hm => by simp [f_X7_isFish, h0, hm, h1], fun f hf e => ?_⟩
      rw [e] at h1
      exact nI_ge hf hn h1
    · obtain ⟨f, hf, e⟩ := nI_of h0
      refine Or.inr ⟨f, ?_, e, fun m hm => by simp [f_X5_has, h0, hm, h1], fun m hm => by simp [f_X7_isFish, h0, hm, h1]⟩
      rw [e, nI_leI hn hf] at h1
      omega
abbrev ShT : Type := Nat → Option (Nat × Nat × (Nat → Int32))
abbrev FdT : Type := Nat → Nat → Nat
def SC (m : Mem) (k : Nat) (v : Option (Nat × Nat × (Nat → Int32))) : Prop := match v with
  | none => m 2 k 1 = 0
  | some q => m 2 k 1 = 1 ∧ m 2 k 2 = nI q.1 ∧ m 2 k 3 = nI q.2.1 ∧ ∀ j, j < 60 → m 3 k j = q.2.2 j
def SR (m : Mem) (k : Nat) (v : Option (Nat × Nat × (Nat → Int32))) : Prop := match v with
  | none => m 31 0 k = -9
  | some q => m 31 0 k = nI q.1 ∧ m 32 0 k = nI q.2.1 ∧ ∀ j, j < 60 → m 33 0 (60 * k + j) = q.2.2 j
def SV (v : Option (Nat × Nat × (Nat → Int32))) : Prop := match v with
  | none => True
  | some q => q.1 < 3 ∧ q.2.1 ≤ 60
/-- F: 0 how many fish, 1 how dear, 2 known ahead; of fish f: 3 kind, 4 size, 5 scales, 6 song, 7 secret -/
def TC (m : Mem) (F : FdT) : Prop := m 4 0 1 = nI (F 0 0) ∧ m 4 0 2 = nI (F 1 0) ∧ m 4 0 3 = nI (F 2 0) ∧
  ∀ f, f < F 0 0 → m 6 f 0 = nI (F 3 f) ∧ m 6 f 1 = nI (F 4 f) ∧ m 6 f 2 = nI (F 5 f) ∧ m 6 f 3 = nI (F 6 f) ∧ m 6 f 4 = nI (F 7 f)
def TR (m : Mem) (F : FdT) : Prop := m 30 0 7 = nI (F 0 0) ∧ m 30 0 6 = nI (F 1 0) ∧ m 30 0 8 = nI (F 2 0) ∧ m 30 0 5 = (if F 0 0 = 0 then 0 else 1) ∧
  ∀ f, f < F 0 0 → m 34 0 f = nI (F 3 f) ∧ m 35 0 f = nI (F 4 f) ∧ m 36 0 f = nI (F 5 f) ∧ m 37 0 f = nI (F 6 f) ∧ m 38 0 f = nI (F 7 f)
def WF (F : FdT) : Prop := F 0 0 ≤ 5 ∧ F 1 0 ≤ 9 ∧ F 2 0 < 64 ∧ ∀ f, f < F 0 0 → F 3 f ≤ 2 ∧ 1 ≤ F 4 f ∧ F 4 f ≤ 9 ∧ F 5 f ≤ 99 ∧ F 6 f ≤ 6 ∧ F 7 f ≤ 5
def RC (m : Mem) (rn : Nat) (rf rs : Nat → Nat) : Prop := m 20 0 2 = nI rn ∧ ∀ q, q < rn → m 21 0 q = nI (rf q) ∧ m 22 0 q = nI (rs q)
def RR (m : Mem) (rn : Nat) (rf rs : Nat → Nat) : Prop := m 30 0 32 = nI rn ∧ ∀ q, q < rn → m 47 0 q = nI (rf q) ∧ m 48 0 q = nI (rs q)
/-! passes, in numbers: C 0 0 known, 1 0 harmed, 2 0 above, 3 0 got; C 4 f scales now; C (5+f) g what f owes g -/
def fset (F : FdT) (i j v : Nat) : FdT := fun i' j' => if i' = i ∧ j' = j then v else F i' j'
def shareS (F : FdT) (f : Nat) : Nat := if F 3 f = 0 then F 4 f else if F 3 f = 1 then F 4 f - 1 else (F 4 f - 1) / 2
def tollS (F C : FdT) (f : Nat) : Nat :=
  let t := shareS F f + (if (C 2 0).testBit f then 0 else F 1 0)
  if (C 1 0).testBit f then 2 * t else t
/-- the first of the fish x .. x+k-1 that may lend -/
def lendS (F C : FdT) (f toll : Nat) : Nat → Nat → Option Nat
  | _, 0 => none
  | x, k + 1 => if x ≠ f ∧ F 3 x ≠ 0 ∧ toll ≤ C 4 x then some x else lendS F C f toll (x + 1) k
def upS (C : FdT) (f : Nat) : FdT := fset C 2 0 (C 2 0 ^^^ 2 ^ f)
/-- fish f goes to the other side: the state behind, and who paid (5: nobody) -/
def passS (F C : FdT) (f how : Nat) : Option (FdT × Nat) :=
  if how = 0 then
    if tollS F C f ≤ C 4 f then some (upS (fset (fset C 4 f (C 4 f - tollS F C f)) 3 0 (C 3 0 + tollS F C f)) f, f) else none
  else if how = 1 then
    if F 6 f < 6 ∧ (C 0 0).testBit (F 6 f) = false then some (upS (fset C 0 0 (C 0 0 ^^^ 2 ^ F 6 f)) f, 5) else none
  else if how = 2 then
    if F 7 f ≠ f ∧ F 7 f < F 0 0 ∧ (C 1 0).testBit (F 7 f) = false then some (upS (fset C 1 0 (C 1 0 ^^^ 2 ^ F 7 f)) f, 5) else none
  else match lendS F C f (tollS F C f) 0 (F 0 0) with
    | some x => some (upS (fset (fset (fset C 4 x (C 4 x - tollS F C f)) 3 0 (C 3 0 + tollS F C f)) (5 + f) x (C (5 + f) x + tollS F C f)) f, x)
    | none => none
def startS (F : FdT) : FdT := fun i j => if i = 0 then F 2 0 else if i = 4 then (if j < F 0 0 then F 5 j else 0) else 0
/-- a row of codes 10 f + how; all by it, from a state -/
def rowS (F : FdT) : FdT → List Nat → Option FdT
  | C, [] => some C
  | C, c :: r => match passS F C (c / 10) (c % 10) with
    | some q => rowS F q.1 r
    | none => none
/-- all fish pass, each but once, by ways of a set -/
def allS (F : FdT) (w : Nat) (r : List Nat) : Prop := r.length = F 0 0 ∧ (r.map (· / 10)).Nodup ∧ ∀ c ∈ r, c / 10 < F 0 0 ∧ c % 10 < 4 ∧ w.testBit (c % 10) = true
def gotS (F : FdT) (w : Nat) (r : List Nat) (g : Nat) : Prop := allS F w r ∧ ∃ C, rowS F (startS F) r = some C ∧ C 3 0 = g
/-- the least: the fewest scales, of several the first row -/
def leastS (F : FdT) (w : Nat) : Option (Nat × List Nat) → Prop
  | none => ∀ r g, ¬ gotS F w r g
  | some q => gotS F w q.2 q.1 ∧ ∀ r g, gotS F w r g → q.1 < g ∨ (q.1 = g ∧ (q.2 = r ∨ List.Lex (· < ·) q.2 r))
def Cache (m : Mem) (F : FdT) : Prop := m 17 0 3 = 0 ∨ ∃ w z, 1 ≤ w ∧ w ≤ 15 ∧ m 17 0 3 = nI w ∧ 1 ≤ F 0 0 ∧ leastS F w z ∧ (match z with
  | none => (1000000 : Int32) ≤ m 17 0 4
  | some q => m 17 0 4 = nI q.1 ∧ q.1 < 1000000 ∧ ∀ j, j < F 0 0 → m 19 0 j = nI (q.2.getD j 0))
def VI (Sh : ShT) (F : FdT) (rn : Nat) (rf rs : Nat → Nat) : Prop := (∀ k, k < 4 → SV (Sh k)) ∧ WF F ∧ rn ≤ 8 ∧ ∀ q, q < rn → rf q < F 0 0 ∧ rs q ≤ 99
def CI (m : Mem) (ft tr : Int32) (Sh : ShT) (F : FdT) (rn : Nat) (rf rs : Nat → Nat) : Prop := m 0 0 6 = ft ∧ m 0 0 5 = tr ∧ (∀ k, k < 4 → SC m k (Sh k)) ∧ TC m F ∧ RC m rn rf rs ∧ Cache m F
def RI (m : Mem) (ft tr : Int32) (Sh : ShT) (F : FdT) (rn : Nat) (rf rs : Nat → Nat) : Prop := m 30 0 0 = ft ∧ m 30 0 1 = tr ∧ (∀ k, k < 4 → SR m k (Sh k)) ∧ TR m F ∧ RR m rn rf rs
def Inv (m : Mem) : Prop := ∃ ft tr Sh F rn rf rs, VI Sh F rn rf rs ∧ CI m ft tr Sh F rn rf rs ∧ RI m ft tr Sh F rn rf rs
theorem RI_cong {m m' : Mem} {ft tr : Int32} {Sh : ShT} {F : FdT} {rn : Nat} {rf rs : Nat → Nat} (h : ∀ t, 30 ≤ t → m' t = m t) (hi : RI m ft tr Sh F rn rf rs) : RI m' ft tr Sh F rn rf rs := by
  obtain ⟨h1, h2, h3, h4, h5⟩ := hi
  have e30 := h 30 (by decide)
  refine ⟨by rw [e30]; exact h1, by rw [e30]; exact h2, fun k hk => ?_, ?_, ?_⟩
  · have := h3 k hk
    unfold SR at this ⊢
    rw [h 31 (by decide), h 32 (by decide), h 33 (by decide)]
    exact this
  · unfold TR at h4 ⊢
    rw [e30, h 34 (by decide), h 35 (by decide), h 36 (by decide), h 37 (by decide), h 38 (by decide)]
    exact h4
  · unfold RR at h5 ⊢
    rw [e30, h 47 (by decide), h 48 (by decide)]
    exact h5
theorem CI_cong {m m' : Mem} {ft tr : Int32} {Sh : ShT} {F : FdT} {rn : Nat} {rf rs : Nat → Nat} (h : ∀ t, t < 30 → (t < 7 ∨ 17 ≤ t) → t ≠ 18 → m' t = m t) (hi : CI m ft tr Sh F rn rf rs) : CI m' ft tr Sh F rn rf rs := by
  obtain ⟨h1, h2, h3, h4, h5, h6⟩ := hi
  have e0 := h 0 (by decide) (by decide) (by decide)
  refine ⟨by rw [e0]; exact h1, by rw [e0]; exact h2, fun k hk => ?_, ?_, ?_, ?_⟩
  · have := h3 k hk
    unfold SC at this ⊢
    rw [h 2 (by decide) (by decide) (by decide), h 3 (by decide) (by decide) (by decide)]
    exact this
  · unfold TC at h4 ⊢
    rw [h 4 (by decide) (by decide) (by decide), h 6 (by decide) (by decide) (by decide)]
    exact h4
  · unfold RC at h5 ⊢
    rw [h 20 (by decide) (by decide) (by decide), h 21 (by decide) (by decide) (by decide), h 22 (by decide) (by decide) (by decide)]
    exact h5
  · unfold Cache at h6 ⊢
    rw [h 17 (by decide) (by decide) (by decide), h 19 (by decide) (by decide) (by decide)]
    exact h6
def CStep {ρ : Type} (fc : Mem → Option (ρ × Mem)) (r : ρ) (P P' : Mem → Prop) : Prop := ∀ m, P m → ∃ m1, fc m = some (r, m1) ∧ P' m1 ∧ ∀ t, 30 ≤ t → m1 t = m t
def RStep {ρ : Type} (fr : Mem → Option (ρ × Mem)) (r : ρ) (P P' : Mem → Prop) : Prop := ∀ m, P m → ∃ m1, fr m = some (r, m1) ∧ P' m1 ∧ ∀ t, t < 30 → m1 t = m t
/-- the class and the reference answer alike, and agree behind -/
def Agree {ρ : Type} (fc fr : Mem → Option (ρ × Mem)) : Prop := ∀ m, Inv m → ∃ r m1 m2, fc m = some (r, m1) ∧ fr m1 = some (r, m2) ∧ Inv m2
theorem agree_of {ρ : Type} {fc fr : Mem → Option (ρ × Mem)} (h : ∀ ft tr Sh F rn rf rs, VI Sh F rn rf rs → ∃ r ft' tr' Sh' F' rn' rf' rs', VI Sh' F' rn' rf' rs' ∧
    CStep fc r (fun m => CI m ft tr Sh F rn rf rs) (fun m => CI m ft' tr' Sh' F' rn' rf' rs') ∧ RStep fr r (fun m => RI m ft tr Sh F rn rf rs) (fun m => RI m ft' tr' Sh' F' rn' rf' rs')) : Agree fc fr := by
  rintro m ⟨ft, tr, Sh, F, rn, rf, rs, hv, hc, hr⟩
  obtain ⟨r, ft', tr', Sh', F', rn', rf', rs', hv', h1, h2⟩ := h ft tr Sh F rn rf rs hv
  obtain ⟨m1, e1, c1, k1⟩ := h1 m hc
  obtain ⟨m2, e2, c2, k2⟩ := h2 m1 (RI_cong k1 hr)
  exact ⟨r, m1, m2, e1, e2, ft', tr', Sh', F', rn', rf', rs', hv', CI_cong (fun t ht _ _ => k2 t ht) c1, c2⟩
/-- nothing changes -/
theorem agree_same {ρ : Type} {fc fr : Mem → Option (ρ × Mem)} (h : ∀ ft tr Sh F rn rf rs, VI Sh F rn rf rs → ∃ r, (∀ m, CI m ft tr Sh F rn rf rs → fc m = some (r, m)) ∧ (∀ m, RI m ft tr Sh F rn rf rs → fr m = some (r, m))) : Agree fc fr :=
  agree_of (fun ft tr Sh F rn rf rs hv => by
    obtain ⟨r, h1, h2⟩ := h ft tr Sh F rn rf rs hv
    exact ⟨r, ft, tr, Sh, F, rn, rf, rs, hv, fun m hm => ⟨m, h1 m hm, hm, fun _ _ => rfl⟩, fun m hm => ⟨m, h2 m hm, hm, fun _ _ => rfl⟩⟩)
theorem a_trace : Agree f_X6_trace f_X7_trace := agree_same (fun ft tr Sh F rn rf rs hv => ⟨tr, fun m h => by rw [← h.2.1]; rfl, fun m h => by rw [← h.2.1]; rfl⟩)
theorem a_fault : Agree f_X6_fault f_X7_fault := agree_same (fun ft tr Sh F rn rf rs hv => ⟨ft, fun m h => by rw [← h.1]; rfl, fun m h => by rw [← h.1]; rfl⟩)
theorem a_many (x : Int32) : Agree (f_X6_many x) (f_X7_many x) := agree_same (fun ft tr Sh F rn rf rs hv => by
  by_cases h0 : x = 0
  · exact ⟨nI (F 0 0), fun m h => by simp [f_X6_many, h0, h.2.2.2.1.1], fun m h => by simp [f_X7_many, h0, h.2.2.2.1.1]⟩
  by_cases h1 : x = 1
  · exact ⟨nI (F 1 0), fun m h => by simp [f_X6_many, h1, h.2.2.2.1.2.1], fun m h => by simp [f_X7_many, h1, h.2.2.2.1.2.1]⟩
  by_cases h2 : x = 2
  · exact ⟨nI (F 2 0), fun m h => by simp [f_X6_many, h2, h.2.2.2.1.2.2.1], fun m h => by simp [f_X7_many, h2, h.2.2.2.1.2.2.1]⟩
  by_cases h3 : x = 3
  · exact ⟨nI rn, fun m h => by simp [f_X6_many, h3, h.2.2.2.2.1.1], fun m h => by simp [f_X7_many, h3, h.2.2.2.2.1]⟩
  exact ⟨-2, fun m h => by simp [f_X6_many, h0, h1, h2, h3], fun m h => by simp [f_X7_many, h0, h1, h2, h3]⟩)
