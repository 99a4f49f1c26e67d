/-! ===== numbers ===== -/
theorem nI_rng {x b : Int32} {n : Nat} (hb : b = nI n) (hn : n < 2 ^ 31) (h0 : ¬ x < 0) (h1 : ¬ b < x) : ∃ k, k ≤ n ∧ x = nI k := by
  subst hb
  refine nI_of2 (M := nI n) (nI_toInt hn) h0 ?_
  rw [Int32.le_iff_toInt_le]
  rw [Int32.lt_iff_toInt_lt] at h1
  omega
theorem ix_nI {k : Nat} (h : k < 2 ^ 31) : ix (nI k) = k := nI_clamp h
theorem inB_nI {k n : Nat} (h : k < n) (hn : n ≤ 2 ^ 31) : inB (nI k) n = true := by
  unfold inB
  rw [Bool.and_eq_true, decide_eq_true_eq]
  have hk : k < 2 ^ 31 := by omega
  exact ⟨nI_pos' hk, by rw [ix_nI hk]; exact Nat.blt_eq.mpr h⟩
/-! ===== what a state is: fault, trace, sheets, the ford F, readings; how class and reference hold it ===== -/
theorem mset_ne {m : Mem} {t i j t' : Nat} {v : Int32} (h : t' ≠ t) : mset m t i j v t' = m t' := by
  funext a b
  unfold mset
  rw [if_neg (fun q => h q.1)]
abbrev ShT : Type := Nat → Option (Nat × Nat × (Nat → Int32))
abbrev FdT : Type := Nat → Nat → Nat
def SC (m : Mem) (k : Nat) (v : Option (Nat × Nat × (Nat → Int32))) : Prop := match v with
  | none => m 2 k 1 = 0
  | some q => m 2 k 1 = 1 ∧ m 2 k 2 = nI q.1 ∧ m 2 k 3 = nI q.2.1 ∧ ∀ j, j < 60 → m 3 k j = q.2.2 j
def SV (v : Option (Nat × Nat × (Nat → Int32))) : Prop := match v with
  | none => True
  | some q => q.1 < 3 ∧ q.2.1 ≤ 60
/-- F: 0 how many fish, 1 how dear, 2 known ahead; of fish f: 3 kind, 4 size, 5 scales, 6 song, 7 secret -/
def TC (m : Mem) (F : FdT) : Prop := m 4 0 1 = nI (F 0 0) ∧ m 4 0 2 = nI (F 1 0) ∧ m 4 0 3 = nI (F 2 0) ∧
  ∀ f, f < F 0 0 → m 6 f 0 = nI (F 3 f) ∧ m 6 f 1 = nI (F 4 f) ∧ m 6 f 2 = nI (F 5 f) ∧ m 6 f 3 = nI (F 6 f) ∧ m 6 f 4 = nI (F 7 f)
def WF (F : FdT) : Prop := F 0 0 ≤ 5 ∧ F 1 0 ≤ 9 ∧ F 2 0 < 64 ∧ ∀ f, f < F 0 0 → F 3 f ≤ 2 ∧ 1 ≤ F 4 f ∧ F 4 f ≤ 9 ∧ F 5 f ≤ 99 ∧ F 6 f ≤ 6 ∧ F 7 f ≤ 5
/-! passes, in numbers: C 0 0 known, 1 0 harmed, 2 0 above, 3 0 got; C 4 f scales now; C (5+f) g what f owes g -/
def fset (F : FdT) (i j v : Nat) : FdT := fun i' j' => if i' = i ∧ j' = j then v else F i' j'
def shareS (F : FdT) (f : Nat) : Nat := if F 3 f = 0 then F 4 f else if F 3 f = 1 then F 4 f - 1 else (F 4 f - 1) / 2
def tollS (F C : FdT) (f : Nat) : Nat :=
  let t := shareS F f + (if (C 2 0).testBit f then 0 else F 1 0)
  if (C 1 0).testBit f then 2 * t else t
/-- the first of the fish x .. x+k-1 that may lend -/
def lendS (F C : FdT) (f toll : Nat) : Nat → Nat → Option Nat
  | _, 0 => none
  | x, k + 1 => if x ≠ f ∧ F 3 x ≠ 0 ∧ toll ≤ C 4 x then some x else lendS F C f toll (x + 1) k
def upS (C : FdT) (f : Nat) : FdT := fset C 2 0 (C 2 0 ^^^ 2 ^ f)
/-- fish f goes to the other side: the state behind, and who paid (5: nobody) -/
def passS (F C : FdT) (f how : Nat) : Option (FdT × Nat) :=
  if how = 0 then
    if tollS F C f ≤ C 4 f then some (upS (fset (fset C 4 f (C 4 f - tollS F C f)) 3 0 (C 3 0 + tollS F C f)) f, f) else none
  else if how = 1 then
    if F 6 f < 6 ∧ (C 0 0).testBit (F 6 f) = false then some (upS (fset C 0 0 (C 0 0 ^^^ 2 ^ F 6 f)) f, 5) else none
  else if how = 2 then
    if F 7 f ≠ f ∧ F 7 f < F 0 0 ∧ (C 1 0).testBit (F 7 f) = false then some (upS (fset C 1 0 (C 1 0 ^^^ 2 ^ F 7 f)) f, 5) else none
  else match lendS F C f (tollS F C f) 0 (F 0 0) with
    | some x => some (upS (fset (fset (fset C 4 x (C 4 x - tollS F C f)) 3 0 (C 3 0 + tollS F C f)) (5 + f) x (C (5 + f) x + tollS F C f)) f, x)
    | none => none
def startS (F : FdT) : FdT := fun i j => if i = 0 then F 2 0 else if i = 4 then (if j < F 0 0 then F 5 j else 0) else 0
/-- the class holds sheets and ford -/
def CI (m : Mem) (Sh : ShT) (F : FdT) : Prop := (∀ k, k < 4 → SC m k (Sh k)) ∧ TC m F
/-- what isn't the class's stays -/
def CF (m m' : Mem) : Prop := ∀ t, 30 ≤ t → m' t = m t
theorem CF.rf {m : Mem} : CF m m := fun _ _ => rfl
theorem CF.tr {a b c : Mem} (h : CF a b) (h' : CF b c) : CF a c := fun t ht => (h' t ht).trans (h t ht)
theorem CF.set {m m' : Mem} {t i j : Nat} {v : Int32} (h : CF m m') (ht : t < 30) : CF m (mset m' t i j v) := fun t' ht' => (mset_ne (by omega)).trans (h t' ht')
theorem CI_cong {m m' : Mem} {Sh : ShT} {F : FdT} (h : ∀ t, t = 2 ∨ t = 3 ∨ t = 4 ∨ t = 6 → m' t = m t) (hi : CI m Sh F) : CI m' Sh F := by
  obtain ⟨h1, h2⟩ := hi
  refine ⟨fun k hk => ?_, ?_⟩
  · have := h1 k hk
    unfold SC at this ⊢
    rw [h 2 (by omega), h 3 (by omega)]
    exact this
  · unfold TC at h2 ⊢
    rw [h 4 (by omega), h 6 (by omega)]
    exact h2
/-! ===== what a piece of the memory leaves alone ===== -/
theorem SC_cong {m m' : Mem} {Sh : ShT} (h2 : m' 2 = m 2) (h3 : m' 3 = m 3) (h : ∀ k, k < 4 → SC m k (Sh k)) : ∀ k, k < 4 → SC m' k (Sh k) := fun k hk => by
  have := h k hk
  unfold SC at this ⊢
  rw [h2, h3]
  exact this
theorem TC_cong {m m' : Mem} {F : FdT} (h4 : m' 4 = m 4) (h6 : m' 6 = m 6) (h : TC m F) : TC m' F := by
  unfold TC at h ⊢
  rw [h4, h6]
  exact h
theorem nI_z {n : Nat} (h : n < 2 ^ 31) : nI n = 0 ↔ n = 0 := by
  rw [← nI_0, nI_eq h (by decide)]
theorem nI_l_iff {a b : Nat} {x y : Int32} (hx : x = nI a) (hy : y = nI b) (ha : a < 2 ^ 31) (hb : b < 2 ^ 31) : (x ≤ y ↔ a ≤ b) ∧ (x < y ↔ a < b) ∧ (x = y ↔ a = b) := by
  subst hx; subst hy
  exact ⟨nI_leI ha hb, nI_ltI ha hb, nI_eq ha hb⟩
theorem i5 {f n : Nat} (hf : f < n) (hn : n ≤ 5) : inB (nI f) 5 = true ∧ ix (nI f) = f := ⟨inB_nI (by omega) (by decide), ix_nI (by omega)⟩
/-! ===== the share ===== -/
theorem shareOf_c {F : FdT} {f : Nat} (hk : F 3 f ≤ 2) (h1 : 1 ≤ F 4 f) (h9 : F 4 f ≤ 9) (m : Mem) : f_X6_shareOf (nI (F 3 f)) (nI (F 4 f)) m = some (nI (shareS F f), m) := by
  unfold f_X6_shareOf shareS
  have e1 : (nI (F 3 f) = 1) ↔ F 3 f = 1 := nI_eq (b := 1) (by omega) (by decide)
  have e2 : (nI (F 3 f) = 2) ↔ F 3 f = 2 := nI_eq (b := 2) (by omega) (by decide)
  have s1 : nI (F 4 f) - 1 = nI (F 4 f - 1) := pk_sub (b := 1) h1
  have d2 : nI (F 4 f - 1) / 2 = nI ((F 4 f - 1) / 2) := pk_div (d := 2) (by omega) (by decide) (by decide)
  by_cases a : F 3 f = 1
  · rw [if_pos (e1.mpr a), s1, if_neg (by omega), if_pos a]
  · rw [if_neg (fun q => a (e1.mp q))]
    by_cases b : F 3 f = 2
    · rw [if_pos (e2.mpr b), if_neg (show ¬ F 3 f = 0 by omega), if_neg a, if_pos (by decide)]
      unfold dv
      rw [s1, d2]
    · rw [if_neg (fun q => b (e2.mp q)), if_pos (by omega)]
theorem fset_s {F : FdT} {i j v : Nat} : fset F i j v i j = v := by simp [fset]
theorem TC_f {m : Mem} {F : FdT} {i j v : Nat} (hi : i = 1 ∨ i = 2) (hj : j = 0) (h : TC m F) : TC (mset m 4 0 (i + 1) (nI v)) (fset F i j v) := by
  subst hj
  obtain ⟨h0, h1, h2, h3⟩ := h
  rcases hi with rfl | rfl
  · exact ⟨by simpa [mset, fset] using h0, by simp [mset, fset], by simpa [mset, fset] using h2, fun f hf => by simpa [mset, fset] using h3 f (by simpa [fset] using hf)⟩
  · exact ⟨by simpa [mset, fset] using h0, by simpa [mset, fset] using h1, by simp [mset, fset], fun f hf => by simpa [mset, fset] using h3 f (by simpa [fset] using hf)⟩
theorem mset_mset {m : Mem} {t i j : Nat} {v w : Int32} : mset (mset m t i j v) t i j w = mset m t i j w := by
  funext a b c
  unfold mset
  split <;> rfl
/-! ===== sheets ===== -/
def upS_ (Sh : ShT) (k : Nat) (v : Option (Nat × Nat × (Nat → Int32))) : ShT := fun j => if j = k then v else Sh j
theorem i4 {k : Nat} (hk : k < 4) : inB (nI k) 4 = true ∧ ix (nI k) = k := ⟨inB_nI hk (by decide), ix_nI (by omega)⟩
theorem m9 {k : Nat} (hk : k < 2 ^ 31) : ¬ nI k = -9 := fun q => by
  have h := nI_toInt hk
  rw [q] at h
  have : (-9 : Int32).toInt = -9 := by decide
  omega
theorem CI_ft {m : Mem} {ft : Int32} {Sh : ShT} {F : FdT} (h : CI m Sh F) : CI (mset m 0 0 6 ft) Sh F := CI_cong (fun t ht => mset_ne (by omega)) h
theorem CI_17 {m : Mem} {v : Int32} {Sh : ShT} {F : FdT} (h : CI m Sh F) : CI (mset m 17 0 3 v) Sh F := CI_cong (fun t ht => mset_ne (by omega)) h
/-! ===== the arguments of calls ===== -/
theorem wi_in {k n : Nat} {b : Int32} (hb : b = nI n) (hk : k ≤ n) (hn : n < 2 ^ 31) (m : Mem) : f_X6_isWithin (nI k) 0 b m = some (1, m) := by
  subst hb
  have h0 : ¬ nI k < 0 := nI_pos (by omega)
  have h1 : ¬ nI n < nI k := nI_nlt hk (by omega)
  simp [f_X6_isWithin, h0, h1]
theorem wi_out {k n : Nat} {b : Int32} (hb : b = nI n) (hk : n < k) (hn : k < 2 ^ 31) (m : Mem) : f_X6_isWithin (nI k) 0 b m = some (0, m) := by
  subst hb
  have h0 : ¬ nI k < 0 := nI_pos (by omega)
  have h1 : nI n < nI k := nI_lt hk (by omega)
  simp [f_X6_isWithin, h0, h1]
theorem wi_neg {x a b : Int32} (hx : x < a) (m : Mem) : f_X6_isWithin x a b m = some (0, m) := by simp [f_X6_isWithin, hx]
theorem sheet_in {k : Nat} (hk : k < 4) (m : Mem) : f_X6_isSheet (nI k) m = some (1, m) := by
  have h : f_X6_isWithin (nI k) 0 3 m = some (1, m) := wi_in (n := 3) rfl (by omega) (by decide) m
  simp [f_X6_isSheet, h, bnd]
theorem lane_in {k : Nat} (hk : k < 3) (m : Mem) : f_X6_isLane (nI k) m = some (1, m) := by
  have h : f_X6_isWithin (nI k) 0 2 m = some (1, m) := wi_in (n := 2) rfl (by omega) (by decide) m
  simp [f_X6_isLane, h, bnd]
theorem has_in {f n : Nat} (hf : f < n) (hn : n < 2 ^ 31) {m : Mem} (hm : m 4 0 1 = nI n) : f_X5_has (nI f) m = some (1, m) := by
  have h0 : ¬ nI f < 0 := nI_pos (by omega)
  have h1 : ¬ nI n ≤ nI f := nI_ge hf (by omega)
  simp [f_X5_has, h0, hm, h1]
theorem has_out {f n : Nat} (hf : n ≤ f) (hn : f < 2 ^ 31) {m : Mem} (hm : m 4 0 1 = nI n) : f_X5_has (nI f) m = some (0, m) := by
  have h0 : ¬ nI f < 0 := nI_pos (by omega)
  have h1 : nI n ≤ nI f := nI_le hf (by omega)
  simp [f_X5_has, h0, hm, h1]
