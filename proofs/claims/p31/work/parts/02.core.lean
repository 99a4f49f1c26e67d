/-! ===== the memory of both systems as numbers: a cell is (tag, index); its ints by places; its references never change ===== -/
abbrev AR : Type := Nat × Nat
abbrev AV : Type := Int32 ⊕ (Int64 ⊕ AR)
abbrev Mem : Type := Nat → Nat → Nat → Int32
abbrev ALs : Type := List (Option AV)
abbrev ASt : Type := List AV
variable {ph : Bool}
def mset (m : Mem) (t i j : Nat) (v : Int32) : Mem := fun t' i' j' => if t' = t ∧ i' = i ∧ j' = j then v else m t' i' j'
def cv (A : AR → Nat) : AV → Value
  | .inl x => .int x
  | .inr (.inl x) => .long x
  | .inr (.inr r) => .ref (A r)
/-- the objects: class by its number in vwCl, how many fields -/
def sh_cls : Nat → Option (Nat × Nat)
  | 0 => some (6, 7)
  | 2 => some (4, 4)
  | 4 => some (5, 4)
  | 6 => some (1, 5)
  | 7 => some (0, 14)
  | 17 => some (3, 5)
  | 20 => some (2, 3)
  | _ => none
/-- the arrays: kind (0 ints, 1 Sheets, 2 Fish, 3 rows of ints), how long -/
def sh_arr : Nat → Option (Nat × Nat)
  | 1 => some (1, 4)
  | 3 => some (0, 60)
  | 5 => some (2, 5)
  | 8 => some (0, 5)
  | 9 => some (0, 5)
  | 10 => some (0, 5)
  | 11 => some (0, 5)
  | 12 => some (0, 5)
  | 13 => some (3, 5)
  | 14 => some (0, 5)
  | 15 => some (0, 32)
  | 16 => some (0, 32)
  | 18 => some (0, 5)
  | 19 => some (0, 5)
  | 21 => some (0, 8)
  | 22 => some (0, 8)
  | 70 => some (0, 28)
  | 71 => some (0, 40)
  | 72 => some (0, 9)
  | 73 => some (0, 25)
  | _ => none
/-- the references: a field's, or a place's -/
def sh_ref : Nat → Nat → Nat → Option AR
  | 0, _, k => match k with
    | 0 => some (1, 0)
    | 1 => some (4, 0)
    | 2 => some (7, 0)
    | 3 => some (17, 0)
    | 4 => some (20, 0)
    | _ => none
  | 1, _, k => some (2, k)
  | 2, i, k => match k with
    | 0 => some (3, i)
    | _ => none
  | 4, _, k => match k with
    | 0 => some (5, 0)
    | _ => none
  | 5, _, k => some (6, k)
  | 7, i, k => match k with
    | 0 => some (8, i)
    | 1 => some (9, i)
    | 2 => some (10, i)
    | 3 => some (11, i)
    | 4 => some (12, i)
    | 5 => some (13, i)
    | 6 => some (15, i)
    | 7 => some (16, i)
    | _ => none
  | 13, i, k => some (14, 5 * i + k)
  | 17, _, k => match k with
    | 0 => some (7, 1)
    | 1 => some (18, 0)
    | 2 => some (19, 0)
    | _ => none
  | 20, _, k => match k with
    | 0 => some (21, 0)
    | 1 => some (22, 0)
    | _ => none
  | _, _, _ => none
def vr1 : List AR := [(0,0),(1,0),(2,0),(3,0),(2,1),(3,1),(2,2),(3,2),(2,3),(3,3),(4,0),(5,0),(6,0),(6,1),(6,2),(6,3),(6,4),
  (7,0),(8,0),(9,0),(10,0),(11,0),(12,0),(13,0),(14,0),(14,1),(14,2),(14,3),(14,4),(15,0),(16,0),
  (17,0),(7,1),(8,1),(9,1),(10,1),(11,1),(12,1),(13,1),(14,5),(14,6),(14,7),(14,8),(14,9),(15,1),(16,1),(18,0),(19,0),(20,0),(21,0),(22,0),(70,0)]
/-- the cells that there are: before the law's three later rows (false), and behind them (true) -/
def vrefs (ph : Bool) : List AR := match ph with
  | false => vr1
  | true => vr1 ++ [(71,0),(72,0),(73,0)]
theorem vrefs_nodup (ph : Bool) : (vrefs ph).Nodup := by cases ph <;> decide +kernel
/-- 0 an int that may be written, 1 a boolean, 2 a reference -/
def fkd (ci k : Nat) : Nat := match vwCl[ci]? with
  | some q => if (q.2.1 k).2.2.2 = false then (if (q.2.1 k).2.2.1 = "I" then 0 else if (q.2.1 k).2.2.1 = "Z" then 1 else 2) else 2
  | none => 2
def lenOf (t : Nat) : Nat := match sh_cls t with
  | some q => q.2
  | none => match sh_arr t with
    | some q => q.2
    | none => 0
theorem sh_closed0 (ph : Bool) : ((vrefs ph).all fun r => (List.range (lenOf r.1)).all fun k => match sh_ref r.1 r.2 k with
  | some q => decide (q ∈ vrefs ph)
  | none => true) = true := by cases ph <;> decide +kernel
theorem sh_closed {r : AR} (hr : r ∈ vrefs ph) {k : Nat} (hk : k < lenOf r.1) {q : AR} (hq : sh_ref r.1 r.2 k = some q) : q ∈ vrefs ph := by
  have h1 := List.all_eq_true.mp (List.all_eq_true.mp (sh_closed0 ph) r hr) k (List.mem_range.mpr hk)
  rw [hq] at h1
  exact of_decide_eq_true h1
/-- the classes of the objects fit their tables -/
theorem sh_ok0 (ph : Bool) : ((vrefs ph).all fun r => match sh_cls r.1 with
  | some q => (match vwCl[q.1]? with
    | some z => decide (z.2.2 = q.2)
    | none => false)
  | none => (match sh_arr r.1 with
    | some q => decide (q.1 < 4)
    | none => false)) = true := by cases ph <;> decide +kernel
theorem sh_ok {r : AR} (hr : r ∈ vrefs ph) {ci n : Nat} (h : sh_cls r.1 = some (ci, n)) : ∃ z, vwCl[ci]? = some z ∧ z.2.2 = n := by
  have h1 := List.all_eq_true.mp (sh_ok0 ph) r hr
  rw [h] at h1
  dsimp only at h1
  cases hz : vwCl[ci]? with
  | none => rw [hz] at h1; cases h1
  | some z => rw [hz] at h1; exact ⟨z, rfl, of_decide_eq_true h1⟩
def cellOf (A : AR → Nat) (cs : Nat → ClassId) (m : Mem) (r : AR) : va_E := match sh_cls r.1 with
  | some q => .inr (q.1, (List.range q.2).map (fun k => match sh_ref r.1 r.2 k with
    | some z => Value.ref (A z)
    | none => Value.int (m r.1 r.2 k)))
  | none => match sh_arr r.1 with
    | some q => if q.1 = 0 then .inl (cs 0, q.2, .inl (fun j => m r.1 r.2 j)) else .inl (cs q.1, q.2, .inr (.inr (.inr (.inr (fun j => if j < q.2 then (sh_ref r.1 r.2 j).map A else none)))))
    | none => .inl (cs 0, 0, .inl (fun _ => 0))
def wsM (ph : Bool) (A : AR → Nat) (cs : Nat → ClassId) (m : Mem) : va_W := (vrefs ph).map (fun r => (A r, cellOf A cs m r))
def tysM (cs : Nat → ClassId) : List (ClassId × FieldType) := [(cs 0, .int), (cs 1, .object RX4), (cs 2, .object RX1), (cs 3, .array .int)]
def elT : Nat → FieldType
  | 0 => .int
  | 1 => .object RX4
  | 2 => .object RX1
  | _ => .array .int
theorem tysM_at {cs : Nat → ClassId} {k : Nat} (h : k < 4) : (tysM cs)[k]? = some (cs k, elT k) := by
  match k, h with
  | 0, _ => rfl
  | 1, _ => rfl
  | 2, _ => rfl
  | 3, _ => rfl
def injA (ph : Bool) (A : AR → Nat) : Prop := ∀ r ∈ vrefs ph, ∀ q ∈ vrefs ph, A r = A q → r = q
def frA (ph : Bool) (A : AR → Nat) : Nat → Prop := fun q => ∃ r ∈ vrefs ph, A r = q
theorem wsM_at {A : AR → Nat} {cs : Nat → ClassId} {m : Mem} {r : AR} (hr : r ∈ vrefs ph) : ∃ k : Nat, (vrefs ph)[k]? = some r ∧ (wsM ph A cs m)[k]? = some (A r, cellOf A cs m r) := by
  obtain ⟨k, hk⟩ := List.getElem?_of_mem hr
  exact ⟨k, hk, by simp [wsM, hk]⟩
theorem vrefs_inj {i j : Nat} {r : AR} (hi : (vrefs ph)[i]? = some r) (hj : (vrefs ph)[j]? = some r) : i = j := by
  have h1 := (List.getElem?_eq_some_iff.mp hi).1
  have h2 := (List.getElem?_eq_some_iff.mp hj).1
  have e := (List.getElem?_eq_some_iff.mp hi).2.trans (List.getElem?_eq_some_iff.mp hj).2.symm
  have hp := List.pairwise_iff_getElem.mp (vrefs_nodup ph)
  rcases Nat.lt_trichotomy i j with h | h | h
  · exact absurd e (hp i j h1 h2 h)
  · exact h
  · exact absurd e.symm (hp j i h2 h1 h)
theorem wsM_D {A : AR → Nat} {cs : Nat → ClassId} (hA : injA ph A) (m : Mem) : va_D (frA ph A) (wsM ph A cs m) := by
  refine ⟨fun i j x y hi hj hxy => ?_, fun k x hk => ?_⟩
  · simp only [wsM, List.getElem?_map, Option.map_eq_some_iff] at hi hj
    obtain ⟨r, hr, rfl⟩ := hi
    obtain ⟨q, hq, rfl⟩ := hj
    have := hA r (List.mem_of_getElem? hr) q (List.mem_of_getElem? hq) hxy
    subst this
    exact vrefs_inj hr hq
  · simp only [wsM, List.getElem?_map, Option.map_eq_some_iff] at hk
    obtain ⟨r, hr, rfl⟩ := hk
    exact ⟨r, List.mem_of_getElem? hr, rfl⟩
theorem cellOf_ne {A : AR → Nat} {cs : Nat → ClassId} {m : Mem} {t i j : Nat} {v : Int32} {r : AR} (h : r ≠ (t, i)) : cellOf A cs (mset m t i j v) r = cellOf A cs m r := by
  have e : ∀ k, mset m t i j v r.1 r.2 k = m r.1 r.2 k := fun k => by
    unfold mset
    rw [if_neg]
    rintro ⟨h1, h2, -⟩
    exact h (Prod.ext h1 h2)
  unfold cellOf
  simp only [e]
theorem cellOf_obj {A : AR → Nat} {cs : Nat → ClassId} {m : Mem} {t i k ci n : Nat} (hc : sh_cls t = some (ci, n)) : cellOf A cs m (t, i) = .inr (ci, (List.range n).map (fun k => match sh_ref t i k with
    | some z => Value.ref (A z)
    | none => Value.int (m t i k))) := by
  unfold cellOf
  rw [hc]
theorem cellOf_set {A : AR → Nat} {cs : Nat → ClassId} {m : Mem} {t i k ci n : Nat} {v : Int32} (hc : sh_cls t = some (ci, n)) (hr : sh_ref t i k = none) :
    cellOf A cs (mset m t i k v) (t, i) = .inr (ci, ((List.range n).map (fun k => match sh_ref t i k with
    | some z => Value.ref (A z)
    | none => Value.int (m t i k))).set k (.int v)) := by
  rw [cellOf_obj (k := k) hc]
  congr 2
  apply List.ext_getElem?
  intro j
  rw [List.getElem?_set]
  by_cases hj : k = j
  · subst hj
    rw [if_pos rfl, List.length_map, List.length_range, List.getElem?_map]
    by_cases hn : k < n
    · rw [if_pos hn, List.getElem?_range hn]
      simp [hr, mset]
    · rw [if_neg hn, List.getElem?_eq_none (by simpa using hn)]
      rfl
  · rw [if_neg hj, List.getElem?_map, List.getElem?_map]
    by_cases hn : j < n
    · rw [List.getElem?_range hn]
      have e : mset m t i k v t i j = m t i j := by
        unfold mset
        rw [if_neg]
        rintro ⟨-, -, h⟩
        exact hj h.symm
      simp only [Option.map_some, e]
    · rw [List.getElem?_eq_none (by simpa using hn)]
      rfl

theorem cellOf_arr {A : AR → Nat} {cs : Nat → ClassId} {m : Mem} {t i n : Nat} (hc : sh_cls t = none) (ha : sh_arr t = some (0, n)) : cellOf A cs m (t, i) = .inl (cs 0, n, .inl (fun j => m t i j)) := by
  unfold cellOf
  rw [hc]
  dsimp only
  rw [ha]
  rfl
theorem cellOf_arq {A : AR → Nat} {cs : Nat → ClassId} {m : Mem} {t i n kd : Nat} (hc : sh_cls t = none) (ha : sh_arr t = some (kd + 1, n)) : cellOf A cs m (t, i) = .inl (cs (kd + 1), n, .inr (.inr (.inr (.inr (fun j => if j < n then (sh_ref t i j).map A else none))))) := by
  unfold cellOf
  rw [hc]
  dsimp only
  rw [ha]
  rfl
theorem mset_row {m : Mem} {t i k : Nat} {v : Int32} : (fun j => mset m t i k v t i j) = upd (fun j => m t i j) k v := by
  funext j
  unfold mset upd
  by_cases h : j = k
  · rw [if_pos ⟨rfl, rfl, h⟩, if_pos h]
  · rw [if_neg (fun q => h q.2.2), if_neg h]
theorem wsM_set {A : AR → Nat} {cs : Nat → ClassId} {m : Mem} {t i j k : Nat} {v : Int32} (hk : (vrefs ph)[k]? = some (t, i)) : (wsM ph A cs m).set k (A (t, i), cellOf A cs (mset m t i j v) (t, i)) = wsM ph A cs (mset m t i j v) := by
  apply List.ext_getElem?
  intro q
  rw [List.getElem?_set]
  have hlen : (wsM ph A cs m).length = (vrefs ph).length := by simp [wsM]
  have hkl := (List.getElem?_eq_some_iff.mp hk).1
  by_cases hq : k = q
  · subst hq
    rw [if_pos rfl, if_pos (by rw [hlen]; exact hkl)]
    simp [wsM, hk]
  · rw [if_neg hq]
    simp only [wsM, List.getElem?_map]
    cases hr : (vrefs ph)[q]? with
    | none => rfl
    | some r =>
      have hne : r ≠ (t, i) := fun e => hq (vrefs_inj hk (by rw [hr, e]))
      simp only [Option.map_some]
      rw [cellOf_ne hne]
