/-! ===== least, the reference: the next order ===== -/
def swapL (l : List Nat) (a b : Nat) : List Nat := (l.set a (l.getD b 0)).set b (l.getD a 0)
def findK (l : List Nat) : Nat → Nat
  | 0 => 0
  | j + 1 => if l.getD j 0 ≤ l.getD (j + 1) 0 then j + 1 else findK l j
def findX (l : List Nat) (k : Nat) : Nat → Nat
  | 0 => k
  | t + 1 => if l.getD k 0 ≤ l.getD (k + (t + 1)) 0 then k + (t + 1) else findX l k t
def revL : Nat → Nat → Nat → List Nat → List Nat
  | 0, _, _, l => l
  | t + 1, a, b, l => if a < b then revL t (a + 1) (b - 1) (swapL l a b) else l
def nextL (n : Nat) (l : List Nat) : Option (List Nat) := if findK l (n - 1) = 0 then none else
  some (revL 5 (findK l (n - 1)) (n - 1) (swapL l (findK l (n - 1) - 1) (findX l (findK l (n - 1) - 1) (n - 1 - (findK l (n - 1) - 1)))))
theorem findK_le (l : List Nat) : ∀ j, findK l j ≤ j
  | 0 => Nat.le_refl _
  | j + 1 => by
    unfold findK
    split
    · exact Nat.le_refl _
    · have := findK_le l j; omega
theorem findX_le (l : List Nat) (k : Nat) : ∀ t, k ≤ findX l k t ∧ findX l k t ≤ k + t
  | 0 => ⟨Nat.le_refl _, Nat.le_refl _⟩
  | t + 1 => by
    unfold findX
    split
    · omega
    · have := findX_le l k t; omega
theorem getD_set {l : List Nat} {a v j : Nat} (ha : a < l.length) : (l.set a v).getD j 0 = if j = a then v else l.getD j 0 := by
  rw [List.getD_eq_getElem?_getD, List.getElem?_set, List.getD_eq_getElem?_getD]
  by_cases e : a = j
  · subst e
    rw [if_pos rfl, if_pos ha, if_pos rfl]
    rfl
  · rw [if_neg e, if_neg (fun z => e z.symm)]
theorem swapL_len {l : List Nat} {a b : Nat} : (swapL l a b).length = l.length := by simp [swapL]
theorem swapL_at {l : List Nat} {a b j : Nat} (ha : a < l.length) (hb : b < l.length) : (swapL l a b).getD j 0 = if j = b then l.getD a 0 else if j = a then l.getD b 0 else l.getD j 0 := by
  unfold swapL
  rw [getD_set (by rw [List.length_set]; exact hb), getD_set ha]
/-- the row of the reference -/
def RowL (m : Mem) (n : Nat) (l : List Nat) : Prop := l.length = n ∧ ∀ j, j < n → m 44 0 j = nI (l.getD j 0) ∧ l.getD j 0 < 5
def OF (m m' : Mem) : Prop := ∀ t, t ≠ 44 → m' t = m t
theorem OF.rf {m : Mem} : OF m m := fun _ _ => rfl
theorem OF.tr {a b c : Mem} (h : OF a b) (h' : OF b c) : OF a c := fun t ht => (h' t ht).trans (h t ht)
theorem swap_r {m : Mem} {n a b : Nat} {l : List Nat} (hn : n ≤ 5) (ha : a < n) (hb : b < n) (h : RowL m n l) : ∃ m', f_X7_swap (nI a) (nI b) m = some ((), m') ∧ OF m m' ∧ RowL m' n (swapL l a b) := by
  obtain ⟨a1, a2⟩ := i5 ha hn
  obtain ⟨b1, b2⟩ := i5 hb hn
  refine ⟨mset (mset m 44 0 a (m 44 0 b)) 44 0 b (m 44 0 a), ?_, fun t ht => by rw [mset_ne ht, mset_ne ht], by rw [swapL_len]; exact h.1, fun j hj => ?_⟩
  · unfold f_X7_swap
    rw [if_pos a1, if_pos b1, if_pos a1, if_pos b1, a2, b2]
  · rw [swapL_at (by rw [h.1]; exact ha) (by rw [h.1]; exact hb)]
    by_cases e : j = b
    · subst e
      rw [if_pos rfl]
      exact ⟨by simp [mset, (h.2 a ha).1], (h.2 a ha).2⟩
    · rw [if_neg e]
      by_cases e2 : j = a
      · subst e2
        rw [if_pos rfl]
        exact ⟨by simp [mset, e, (h.2 b hb).1], (h.2 b hb).2⟩
      · rw [if_neg e2]
        exact ⟨by simp [mset, e, e2, (h.2 j hj).1], (h.2 j hj).2⟩
theorem findK_r {m : Mem} {n : Nat} {l : List Nat} {K : Int32 × Mem → Option (Int32 × Mem)} (hn : n ≤ 5) (h : RowL m n l) : ∀ j fu, j < fu → j < n → lpk f_X7_nextOrder_b7 fu (nI j + (-1), m) K = K (nI (findK l j) + (-1), m)
  | 0, fu, hfu, hj => by
    obtain ⟨fu, rfl⟩ : ∃ n', fu = n' + 1 := ⟨fu - 1, by omega⟩
    rw [lpk_s]
    unfold f_X7_nextOrder_b7
    dsimp only
    have h0 : nI 0 + (-1 : Int32) < 0 := by decide
    rw [if_pos h0]
    rfl
  | j + 1, fu, hfu, hj => by
    obtain ⟨fu, rfl⟩ : ∃ n', fu = n' + 1 := ⟨fu - 1, by omega⟩
    obtain ⟨b1, b2⟩ := i5 (f := j) (n := n) (by omega) hn
    obtain ⟨b3, b4⟩ := i5 (f := j + 1) (n := n) (by omega) hn
    obtain ⟨r1, r2⟩ := h.2 j (by omega)
    obtain ⟨r3, r4⟩ := h.2 (j + 1) (by omega)
    have h0 : ¬ nI j < 0 := nI_pos (by omega)
    have b3' : inB (nI j + (1 : Int32)) 5 = true := by rw [nI_1]; exact b3
    rw [lpk_s, pk_m1]
    have st : ∀ next exit : Int32 × Mem → Option (Int32 × Mem), f_X7_nextOrder_b7 next exit (nI j, m) = if l.getD j 0 ≤ l.getD (j + 1) 0 then exit (nI j, m) else next (nI j + (-1), m) := fun next exit => by
      unfold f_X7_nextOrder_b7
      dsimp only
      rw [if_neg h0, if_pos b1, if_pos b3']
      have e : (m 44 0 (ix (nI j)) ≤ m 44 0 (ix (nI j + (1 : Int32)))) ↔ l.getD j 0 ≤ l.getD (j + 1) 0 := by
        rw [nI_1, b2, b4, r1, r3]
        exact nI_leI (by omega) (by omega)
      by_cases c : l.getD j 0 ≤ l.getD (j + 1) 0
      · rw [if_pos (e.mpr c), if_pos c]
      · rw [if_neg (fun z => c (e.mp z)), if_neg c]
    rw [st]
    unfold findK
    by_cases c : l.getD j 0 ≤ l.getD (j + 1) 0
    · rw [if_pos c, if_pos c, pk_m1]
    · rw [if_neg c, if_neg c]
      exact findK_r hn h j fu (by omega) (by omega)
theorem findX_r {m : Mem} {n k : Nat} {l : List Nat} {K : Int32 × Mem → Option (Int32 × Mem)} (hn : n ≤ 5) (hk : k < n) (h : RowL m n l) : ∀ t fu, t < fu → k + t < n → lpk (f_X7_nextOrder_b47 (nI k)) fu (nI (k + t), m) K = K (nI (findX l k t), m)
  | t, fu, hfu, ht => by
    obtain ⟨fu, rfl⟩ : ∃ n', fu = n' + 1 := ⟨fu - 1, by omega⟩
    obtain ⟨b1, b2⟩ := i5 hk hn
    obtain ⟨b3, b4⟩ := i5 ht hn
    obtain ⟨r1, r2⟩ := h.2 k hk
    obtain ⟨r3, r4⟩ := h.2 (k + t) ht
    have e : (m 44 0 (ix (nI k)) ≤ m 44 0 (ix (nI (k + t)))) ↔ l.getD k 0 ≤ l.getD (k + t) 0 := by
      rw [b2, b4, r1, r3]
      exact nI_leI (by omega) (by omega)
    have st : ∀ next exit : Int32 × Mem → Option (Int32 × Mem), f_X7_nextOrder_b47 (nI k) next exit (nI (k + t), m) = if l.getD k 0 ≤ l.getD (k + t) 0 then exit (nI (k + t), m) else next (nI (k + t) + (-1), m) := fun next exit => by
      unfold f_X7_nextOrder_b47
      dsimp only
      rw [if_pos b3, if_pos b1]
      by_cases c : l.getD k 0 ≤ l.getD (k + t) 0
      · rw [if_pos (e.mpr c), if_pos c]
      · rw [if_neg (fun z => c (e.mp z)), if_neg c]
    rw [lpk_s, st]
    cases t with
    | zero => rw [if_pos (show l.getD k 0 ≤ l.getD (k + 0) 0 from Nat.le_refl _)]; rfl
    | succ t =>
      unfold findX
      by_cases c : l.getD k 0 ≤ l.getD (k + (t + 1)) 0
      · rw [if_pos c, if_pos c]
      · rw [if_neg c, if_neg c, show k + (t + 1) = (k + t) + 1 from rfl, pk_m1]
        exact findX_r hn hk h t fu (by omega) (by omega)
theorem rev_r {n : Nat} {K : Mem → Option (Int32 × Mem)} (hn : n ≤ 5) : ∀ t a b fu m l, b ≤ a + t → t < fu → b < n → a < 10 → RowL m n l → ∃ m', lpk f_X7_nextOrder_b86 fu (nI a, nI b, m) K = K m' ∧ OF m m' ∧ RowL m' n (revL t a b l)
  | t, a, b, fu, m, l, hab, hfu, hb, ha, h => by
    obtain ⟨fu, rfl⟩ : ∃ n', fu = n' + 1 := ⟨fu - 1, by omega⟩
    by_cases c : a < b
    · obtain ⟨t, rfl⟩ : ∃ t', t = t' + 1 := ⟨t - 1, by omega⟩
      obtain ⟨b, rfl⟩ : ∃ b', b = b' + 1 := ⟨b - 1, by omega⟩
      obtain ⟨m1, s1, s2, s3⟩ := swap_r hn (show a < n by omega) hb h
      obtain ⟨m2, r1, r2, r3⟩ := rev_r (K := K) hn t (a + 1) b fu m1 (swapL l a (b + 1)) (by omega) (by omega) (by omega) (by omega) s3
      refine ⟨m2, ?_, s2.tr r2, ?_⟩
      · rw [← r1, lpk_s]
        have st : ∀ next, f_X7_nextOrder_b86 next K (nI a, nI (b + 1), m) = next (nI (a + 1), nI b, m1) := fun next => by
          unfold f_X7_nextOrder_b86
          dsimp only
          rw [if_neg (nI_ge c (by omega)), s1, bnd_some, nI_1, pk_m1]
        rw [st]
      · unfold revL
        rw [if_pos c]
        exact r3
    · refine ⟨m, ?_, OF.rf, ?_⟩
      · rw [lpk_s]
        unfold f_X7_nextOrder_b86
        dsimp only
        rw [if_pos (nI_le (by omega) (by omega))]
      · cases t with
        | zero => exact h
        | succ t =>
          unfold revL
          rw [if_neg c]
          exact h
theorem nI_m2 : ∀ n, n < 6 → 0 < n → nI n - 2 = nI (n - 1) + (-1) ∧ nI n - 1 = nI (n - 1) := by decide +kernel
theorem next_r {m : Mem} {n : Nat} {l : List Nat} (hn : n ≤ 5) (h0 : 0 < n) (hq : m 30 0 7 = nI n) (h : RowL m n l) : match nextL n l with
    | none => f_X7_nextOrder m = some (0, m)
    | some l' => ∃ m', f_X7_nextOrder m = some (1, m') ∧ OF m m' ∧ RowL m' n l' := by
  obtain ⟨e1, e2⟩ := nI_m2 n (by omega) h0
  have hk := findK_le l (n - 1)
  unfold nextL f_X7_nextOrder
  rw [hq, e1, findK_r hn h (n - 1) fuelN (by unfold fuelN; omega) (by omega)]
  by_cases c : findK l (n - 1) = 0
  · rw [if_pos c, c]
    dsimp only
    have hz : ¬ (0 : Int32) ≤ nI 0 + (-1) := by decide
    rw [if_neg hz]
  · rw [if_neg c]
    obtain ⟨k, ek⟩ : ∃ k, findK l (n - 1) = k + 1 := ⟨findK l (n - 1) - 1, by omega⟩
    rw [ek, Nat.add_sub_cancel]
    dsimp only
    rw [pk_m1, if_pos (nI_pos' (by omega)), hq, e2]
    have hx := findX_le l k (n - 1 - k)
    have ex : n - 1 = k + (n - 1 - k) := by omega
    have hfx := findX_r (K := fun t47 : Int32 × Mem =>
        bnd (f_X7_swap (nI k) t47.1 t47.2) (fun _ m71 =>
          lpk (f_X7_nextOrder_b86) fuelN ((nI k + (1 : Int32)), ((m71 30 0 7) - (1 : Int32)), m71) (fun t86 =>
            some ((1 : Int32), t86)))) hn (show k < n by omega) h (n - 1 - k) fuelN (by unfold fuelN; omega) (by omega)
    rw [← ex] at hfx
    rw [hfx]
    obtain ⟨m1, s1, s2, s3⟩ := swap_r hn (show k < n by omega) (show findX l k (n - 1 - k) < n by omega) h
    obtain ⟨m2, r1, r2, r3⟩ := rev_r (K := fun t86 => some ((1 : Int32), t86)) hn 5 (k + 1) (n - 1) fuelN m1 _ (by omega) (by decide) (by omega) (by omega) s3
    refine ⟨m2, ?_, s2.tr r2, r3⟩
    dsimp only
    rw [s1, bnd_some, s2 30 (by decide), hq, e2, nI_1]
    exact r1
/-! all orders -/
def ordS (n : Nat) : Nat → List Nat → List (List Nat)
  | 0, _ => []
  | t + 1, l => l :: (match nextL n l with
    | some l' => ordS n t l'
    | none => [])
def endS (n : Nat) : Nat → List Nat → Bool
  | 0, _ => false
  | t + 1, l => match nextL n l with
    | some l' => endS n t l'
    | none => true
def nodB : List Nat → Bool
  | [] => true
  | x :: l => !(l.any (fun y => Nat.beq x y)) && nodB l
def perB (n : Nat) (l : List Nat) : Bool := Nat.beq l.length n && l.all (fun x => Nat.blt x n) && nodB l
def eqL : List Nat → List Nat → Bool
  | [], [] => true
  | x :: l, y :: l' => Nat.beq x y && eqL l l'
  | _, _ => false
def allL (n : Nat) : Nat → List (List Nat)
  | 0 => [[]]
  | k + 1 => (allL n k).flatMap (fun l => (List.range n).map (fun x => x :: l))
theorem ord_end : ∀ n, n < 6 → 0 < n → endS n 121 (List.range n) = true := by decide +kernel
theorem ord_per : ∀ n, n < 6 → 0 < n → (ordS n 121 (List.range n)).all (perB n) = true := by decide +kernel
theorem ord_all : ∀ n, n < 6 → 0 < n → (allL n n).all (fun l => !(nodB l) || (ordS n 121 (List.range n)).any (eqL l)) = true := by decide +kernel
