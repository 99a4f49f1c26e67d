/-! ===== least, the reference: an order by ways that are a number ===== -/
def codesL : List Nat → Nat → List Nat
  | [], _ => []
  | f :: l, x => (10 * f + x % 4) :: codesL l (x / 4)
def numS : Nat → List Nat → Nat
  | acc, [] => acc
  | acc, c :: r => numS (50 * acc + c) r
def walkW (F : FdT) (w : Nat) : FdT → List Nat → Nat → Option FdT
  | C, [], _ => some C
  | C, f :: l, x => if w.testBit (x % 4) = true then (match passS F C f (x % 4) with
      | some q => walkW F w q.1 l (x / 4)
      | none => none) else none
theorem codes_len : ∀ l x, (codesL l x).length = l.length
  | [], x => rfl
  | f :: l, x => by
    show (codesL l (x / 4)).length + 1 = l.length + 1
    rw [codes_len l]
theorem codes_fish : ∀ l x, (codesL l x).map (· / 10) = l
  | [], x => rfl
  | f :: l, x => by
    show ((10 * f + x % 4) / 10) :: (codesL l (x / 4)).map (· / 10) = f :: l
    rw [codes_fish l, show (10 * f + x % 4) / 10 = f by omega]
theorem codes_how : ∀ l x c, c ∈ codesL l x → c % 10 < 4 ∧ c / 10 ∈ l
  | [], x, c, h => by cases h
  | f :: l, x, c, h => by
    rcases List.mem_cons.mp h with rfl | h
    · have : (10 * f + x % 4) / 10 = f := by omega
      rw [this]
      exact ⟨by omega, List.mem_cons_self ..⟩
    · have := codes_how l (x / 4) c h
      exact ⟨this.1, List.mem_cons_of_mem _ this.2⟩
theorem walkW_iff {F : FdT} {w : Nat} : ∀ l x C C', walkW F w C l x = some C' ↔ (∀ c ∈ codesL l x, w.testBit (c % 10) = true) ∧ rowS F C (codesL l x) = some C'
  | [], x, C, C' => by
    show some C = some C' ↔ _ ∧ some C = some C'
    constructor
    · intro h; exact ⟨fun c hc => (by cases hc), h⟩
    · intro h; exact h.2
  | f :: l, x, C, C' => by
    have d1 : (10 * f + x % 4) / 10 = f := by omega
    have d2 : (10 * f + x % 4) % 10 = x % 4 := by omega
    show (if w.testBit (x % 4) = true then (match passS F C f (x % 4) with
      | some q => walkW F w q.1 l (x / 4)
      | none => none) else none) = some C' ↔ (∀ c ∈ (10 * f + x % 4) :: codesL l (x / 4), w.testBit (c % 10) = true) ∧ rowS F C ((10 * f + x % 4) :: codesL l (x / 4)) = some C'
    rw [rowS_s, d1, d2]
    by_cases c : w.testBit (x % 4) = true
    · rw [if_pos c]
      cases hq : passS F C f (x % 4) with
      | none =>
        constructor
        · intro h; cases h
        · intro h; cases h.2
      | some q =>
        dsimp only
        rw [walkW_iff l (x / 4) q.1 C']
        constructor
        · rintro ⟨h1, h2⟩
          refine ⟨fun c' hc' => ?_, h2⟩
          rcases List.mem_cons.mp hc' with rfl | hc'
          · rw [d2]; exact c
          · exact h1 c' hc'
        · rintro ⟨h1, h2⟩
          exact ⟨fun c' hc' => h1 c' (List.mem_cons_of_mem _ hc'), h2⟩
    · rw [if_neg c]
      constructor
      · intro h; cases h
      · intro h
        have := h.1 _ (List.mem_cons_self ..)
        rw [d2] at this
        exact absurd this c
theorem y_and : ∀ y, y < 1024 → (nI y &&& 3) = nI (y % 4) ∧ (nI y >>> ((2 : Int32) &&& 31)) = nI (y / 4) := by decide +kernel
/-- the reference goes through an order by ways -/
theorem ways_r {F : FdT} {w n : Nat} {m0 : Mem} {K : Int32 × Mem → Option (Int32 × Mem)} (hW : WC F) (hw : w < 64) (hn : F 0 0 = n) (hT : TR m0 F) :
    ∀ (ls : List Nat) (k y acc fu g : Nat) (m : Mem) (C : FdT), k + ls.length = n → ls.length < fu → y < 1024 → (∀ f ∈ ls, f < n) → (∀ j, j < ls.length → m0 44 0 (k + j) = nI (ls.getD j 0)) → RFr m0 m → RX m F C → CB C g →
      match walkW F w C ls y with
      | some C' => ∃ m', lpk (f_X7_goWays_b12 (nI w)) fu (nI y, nI acc, nI k, m) K = K (nI (numS acc (codesL ls y)), m') ∧ RFr m0 m' ∧ RX m' F C'
      | none => ∃ m', lpk (f_X7_goWays_b12 (nI w)) fu (nI y, nI acc, nI k, m) K = some (-9, m') ∧ RFr m0 m'
  | [], k, y, acc, fu, g, m, C, hk, hfu, hy, hls, hrow, hP, hX, hB => by
    obtain ⟨fu, rfl⟩ : ∃ n', fu = n' + 1 := ⟨fu - 1, by omega⟩
    have hkn : k = n := hk
    have h5 := hW.1
    have hle : m 30 0 7 ≤ nI k := by rw [(hP.T hT).1, hn, hkn]; exact nI_le (Nat.le_refl _) (by omega)
    refine ⟨m, ?_, hP, hX⟩
    rw [lpk_s]
    unfold f_X7_goWays_b12
    dsimp only
    rw [if_pos hle]
    rfl
  | f :: ls, k, y, acc, fu, g, m, C, hk, hfu, hy, hls, hrow, hP, hX, hB => by
    obtain ⟨fu, rfl⟩ : ∃ n', fu = n' + 1 := ⟨fu - 1, by omega⟩
    rw [List.length_cons] at hk hfu
    have h5 := hW.1
    have hkn : k < n := by omega
    obtain ⟨b1, b2⟩ := i5 (f := k) (n := F 0 0) (by omega) hW.1
    have hge : ¬ m 30 0 7 ≤ nI k := by rw [(hP.T hT).1, hn]; exact nI_ge hkn (by omega)
    obtain ⟨y1, y2⟩ := y_and y hy
    have hf : f < n := hls f (List.mem_cons_self ..)
    have h44 : ∀ m', RFr m0 m' → m' 44 0 k = nI f := fun m' h => by
      rw [h.1 44 (by decide) (by decide) (by decide)]
      exact hrow 0 (by simp)
    have hb := (bit_1 (s := w) (k := y % 4) hw (by omega)).2
    have hcond : ((nI w >>> ((nI y &&& (3 : Int32)) &&& 31)) &&& (1 : Int32) = 0) ↔ w.testBit (y % 4) = false := by
      rw [y1]; exact hb
    show match (if w.testBit (y % 4) = true then (match passS F C f (y % 4) with
      | some q => walkW F w q.1 ls (y / 4)
      | none => none) else none) with
      | some C' => ∃ m', lpk (f_X7_goWays_b12 (nI w)) (fu + 1) (nI y, nI acc, nI k, m) K = K (nI (numS acc ((10 * f + y % 4) :: codesL ls (y / 4))), m') ∧ RFr m0 m' ∧ RX m' F C'
      | none => ∃ m', lpk (f_X7_goWays_b12 (nI w)) (fu + 1) (nI y, nI acc, nI k, m) K = some (-9, m') ∧ RFr m0 m'
    by_cases c : w.testBit (y % 4) = true
    · rw [if_pos c]
      have hcn : ¬ (nI w >>> ((nI y &&& (3 : Int32)) &&& 31)) &&& (1 : Int32) = 0 := fun z => by rw [hcond.mp z] at c; cases c
      have hp := pass_r (hP.T hT) hX hW hB (show f < F 0 0 by omega) (show y % 4 < 4 by omega)
      have st : ∀ (r : Int32) (m1 : Mem) next exit, f_X7_pass (nI f) (nI (y % 4)) m = some (r, m1) → RFr m m1 → f_X7_goWays_b12 (nI w) next exit (nI y, nI acc, nI k, m) = if r = 0 then some ((-9 : Int32), m1) else next (nI (y / 4), nI (50 * acc + (10 * f + y % 4)), nI (k + 1), m1) := fun r m1 next exit hr hfr => by
        have e10 : (50 : Int32) * nI acc + (10 : Int32) * nI f + nI (y % 4) = nI (50 * acc + (10 * f + y % 4)) := by
          rw [show (50 : Int32) = nI 50 from rfl, show (10 : Int32) = nI 10 from rfl, pk_mul, pk_mul, nI_add, nI_add, Nat.add_assoc]
        unfold f_X7_goWays_b12
        dsimp only
        rw [if_neg hge, if_neg hcn, if_pos b1, b2, h44 m hP, y1, hr, bnd_some]
        by_cases z : r = 0
        · rw [if_pos z, if_pos z]
        · rw [if_neg z, if_neg z, if_pos b1, h44 m1 (hP.tr hfr), e10, y2, nI_1]
      cases hq : passS F C f (y % 4) with
      | none =>
        rw [hq] at hp
        obtain ⟨m1, p1, p2⟩ := hp
        refine ⟨m1, ?_, hP.tr p2⟩
        rw [lpk_s, st _ _ _ _ p1 p2, if_pos rfl]
      | some q =>
        rw [hq] at hp
        obtain ⟨m1, p1, p2, p3⟩ := hp
        have ih := ways_r (K := K) hW hw hn hT ls (k + 1) (y / 4) (50 * acc + (10 * f + y % 4)) fu (g + 36) m1 q.1 (by omega) (by omega) (by omega) (fun f' hf' => hls f' (List.mem_cons_of_mem _ hf')) (fun j hj => by
          have := hrow (j + 1) (by rw [List.length_cons]; omega)
          rw [show k + 1 + j = k + (j + 1) by omega, this]
          rfl) (hP.tr p2) p3 (passS_CB (p := q.2) hW (by omega) hB hq)
        dsimp only
        cases hx : walkW F w q.1 ls (y / 4) with
        | none =>
          rw [hx] at ih
          obtain ⟨m', i1, i2⟩ := ih
          refine ⟨m', ?_, i2⟩
          rw [lpk_s, st _ _ _ _ p1 p2, if_neg (by decide)]
          exact i1
        | some C' =>
          rw [hx] at ih
          obtain ⟨m', i1, i2, i3⟩ := ih
          refine ⟨m', ?_, i2, i3⟩
          rw [lpk_s, st _ _ _ _ p1 p2, if_neg (by decide)]
          exact i1
    · rw [if_neg c]
      have c' : w.testBit (y % 4) = false := by simpa using c
      refine ⟨m, ?_, hP⟩
      rw [lpk_s]
      unfold f_X7_goWays_b12
      dsimp only
      rw [if_neg hge, if_pos (hcond.mpr c')]
/-! numbers of rows -/
theorem num_mono : ∀ (r r' : List Nat) (a a' : Nat), r.length = r'.length → (∀ c ∈ r, c < 50) → a < a' → numS a r < numS a' r'
  | [], [], a, a', _, _, h => h
  | [], _ :: _, _, _, h, _, _ => by cases h
  | _ :: _, [], _, _, h, _, _ => by cases h
  | c :: r, c' :: r', a, a', hl, hr, h => by
    have := hr c (List.mem_cons_self ..)
    exact num_mono r r' _ _ (by simpa using hl) (fun x hx => hr x (List.mem_cons_of_mem _ hx)) (by omega)
theorem num_lex : ∀ (r r' : List Nat) (a : Nat), r.length = r'.length → (∀ c ∈ r, c < 50) → (∀ c ∈ r', c < 50) → numS a r ≤ numS a r' → r = r' ∨ List.Lex (· < ·) r r'
  | [], [], _, _, _, _, _ => Or.inl rfl
  | [], _ :: _, _, h, _, _, _ => by cases h
  | _ :: _, [], _, h, _, _, _ => by cases h
  | c :: r, c' :: r', a, hl, hr, hr', h => by
    have hl' : r.length = r'.length := by simpa using hl
    have h1 : ∀ x ∈ r, x < 50 := fun x hx => hr x (List.mem_cons_of_mem _ hx)
    have h2 : ∀ x ∈ r', x < 50 := fun x hx => hr' x (List.mem_cons_of_mem _ hx)
    have h' : numS (50 * a + c) r ≤ numS (50 * a + c') r' := h
    rcases Nat.lt_trichotomy c c' with d | d | d
    · exact Or.inr (List.Lex.rel d)
    · subst d
      rcases num_lex r r' _ hl' h1 h2 h' with e | e
      · exact Or.inl (by rw [e])
      · exact Or.inr (List.Lex.cons e)
    · have := num_mono r' r (50 * a + c') (50 * a + c) hl'.symm h2 (by omega)
      omega
theorem num_lt : ∀ (r : List Nat) (a : Nat), (∀ c ∈ r, c < 50) → numS a r < (a + 1) * 50 ^ r.length
  | [], a, _ => by show a < (a + 1) * 50 ^ 0; omega
  | c :: r, a, hr => by
    have h1 := hr c (List.mem_cons_self ..)
    have := num_lt r (50 * a + c) (fun x hx => hr x (List.mem_cons_of_mem _ hx))
    show numS (50 * a + c) r < (a + 1) * 50 ^ (r.length + 1)
    have h2 : (50 * a + c + 1) * 50 ^ r.length ≤ (50 * (a + 1)) * 50 ^ r.length := Nat.mul_le_mul_right _ (by omega)
    have h3 : (a + 1) * 50 ^ (r.length + 1) = (50 * (a + 1)) * 50 ^ r.length := by rw [Nat.pow_succ, Nat.mul_comm (50 ^ r.length) 50, ← Nat.mul_assoc, Nat.mul_comm (a + 1) 50]
    omega
theorem num_div : ∀ (r : List Nat) (a : Nat), (∀ c ∈ r, c < 50) → numS a r / 50 ^ r.length = a
  | [], a, _ => by show a / 50 ^ 0 = a; simp
  | c :: r, a, hr => by
    have h1 := hr c (List.mem_cons_self ..)
    have ih := num_div r (50 * a + c) (fun x hx => hr x (List.mem_cons_of_mem _ hx))
    show numS (50 * a + c) r / 50 ^ (r.length + 1) = a
    rw [Nat.pow_succ, ← Nat.div_div_eq_div_mul, ih]
    omega
theorem num_at : ∀ (r : List Nat) (a k : Nat), (∀ c ∈ r, c < 50) → k < r.length → numS a r / 50 ^ (r.length - 1 - k) % 50 = r.getD k 0
  | [], a, k, _, h => by cases h
  | c :: r, a, 0, hr, _ => by
    have h1 := hr c (List.mem_cons_self ..)
    show numS (50 * a + c) r / 50 ^ (r.length + 1 - 1 - 0) % 50 = c
    rw [show r.length + 1 - 1 - 0 = r.length by omega, num_div r _ (fun x hx => hr x (List.mem_cons_of_mem _ hx))]
    omega
  | c :: r, a, k + 1, hr, hk => by
    have hk' : k < r.length := by simpa using hk
    have ih := num_at r (50 * a + c) k (fun x hx => hr x (List.mem_cons_of_mem _ hx)) hk'
    show numS (50 * a + c) r / 50 ^ (r.length + 1 - 1 - (k + 1)) % 50 = r.getD k 0
    rw [show r.length + 1 - 1 - (k + 1) = r.length - 1 - k by omega]
    exact ih
/-! every row is an order by ways -/
def yOf : List Nat → Nat
  | [] => 0
  | c :: r => c % 10 + 4 * yOf r
theorem codes_of : ∀ r : List Nat, (∀ c ∈ r, c % 10 < 4) → codesL (r.map (· / 10)) (yOf r) = r
  | [], _ => rfl
  | c :: r, h => by
    have h1 := h c (List.mem_cons_self ..)
    show (10 * (c / 10) + (c % 10 + 4 * yOf r) % 4) :: codesL (r.map (· / 10)) ((c % 10 + 4 * yOf r) / 4) = c :: r
    rw [show (c % 10 + 4 * yOf r) / 4 = yOf r by omega, codes_of r (fun x hx => h x (List.mem_cons_of_mem _ hx)), show 10 * (c / 10) + (c % 10 + 4 * yOf r) % 4 = c by omega]
theorem yOf_lt : ∀ r : List Nat, (∀ c ∈ r, c % 10 < 4) → yOf r < 4 ^ r.length
  | [], _ => by show 0 < 4 ^ 0; omega
  | c :: r, h => by
    have h1 := h c (List.mem_cons_self ..)
    have := yOf_lt r (fun x hx => h x (List.mem_cons_of_mem _ hx))
    show c % 10 + 4 * yOf r < 4 ^ (r.length + 1)
    rw [Nat.pow_succ]
    omega
theorem mem_allL {n : Nat} : ∀ l : List Nat, (∀ x ∈ l, x < n) → l ∈ allL n l.length
  | [], _ => by show [] ∈ [[]]; exact List.mem_singleton.mpr rfl
  | x :: l, h => by
    show x :: l ∈ (allL n l.length).flatMap (fun l => (List.range n).map (fun x => x :: l))
    refine List.mem_flatMap.mpr ⟨l, mem_allL l (fun y hy => h y (List.mem_cons_of_mem _ hy)), List.mem_map.mpr ⟨x, List.mem_range.mpr (h x (List.mem_cons_self ..)), rfl⟩⟩
theorem nodB_of : ∀ l : List Nat, l.Nodup → nodB l = true
  | [], _ => rfl
  | x :: l, h => by
    rw [List.nodup_cons] at h
    unfold nodB
    rw [nodB_of l h.2, Bool.and_true, Bool.not_eq_true', List.any_eq_false]
    intro y hy e
    exact h.1 (Nat.eq_of_beq_eq_true e ▸ hy)
theorem nodB_to : ∀ l : List Nat, nodB l = true → l.Nodup
  | [], _ => List.nodup_nil
  | x :: l, h => by
    unfold nodB at h
    rw [Bool.and_eq_true, Bool.not_eq_true', List.any_eq_false] at h
    rw [List.nodup_cons]
    exact ⟨fun hx => h.1 x hx (Nat.beq_refl x), nodB_to l h.2⟩
theorem eqL_eq : ∀ l l' : List Nat, eqL l l' = true → l = l'
  | [], [], _ => rfl
  | [], _ :: _, h => by cases h
  | _ :: _, [], h => by cases h
  | x :: l, y :: l', h => by
    unfold eqL at h
    rw [Bool.and_eq_true] at h
    rw [Nat.eq_of_beq_eq_true h.1, eqL_eq l l' h.2]
theorem ord_has {n : Nat} {l : List Nat} (hn : n ≤ 5) (h0 : 0 < n) (h1 : l.length = n) (h2 : ∀ x ∈ l, x < n) (h3 : l.Nodup) : l ∈ ordS n 121 (List.range n) := by
  have hm := mem_allL l h2
  rw [h1] at hm
  have := List.all_eq_true.mp (ord_all n (by omega) h0) l hm
  rw [nodB_of l h3, Bool.not_true, Bool.false_or, List.any_eq_true] at this
  obtain ⟨l', hl, e⟩ := this
  rw [eqL_eq l l' e]
  exact hl
theorem ord_ok {n : Nat} {l : List Nat} (hn : n ≤ 5) (h0 : 0 < n) (h : l ∈ ordS n 121 (List.range n)) : l.length = n ∧ (∀ x ∈ l, x < n) ∧ l.Nodup := by
  have := List.all_eq_true.mp (ord_per n (by omega) h0) l h
  unfold perB at this
  rw [Bool.and_eq_true, Bool.and_eq_true, List.all_eq_true] at this
  exact ⟨Nat.eq_of_beq_eq_true this.1.1, fun x hx => Nat.blt_eq.mp (this.1.2 x hx), nodB_to l this.2⟩
