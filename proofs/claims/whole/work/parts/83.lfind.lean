/-! ===== least, the class: what it finds is the least ===== -/
theorem rowS_CB {F : FdT} (hW : WC F) : ∀ (r : List Nat) (C C' : FdT) (g : Nat), (∀ c ∈ r, c / 10 < F 0 0) → CB C g → rowS F C r = some C' → CB C' (g + 36 * r.length)
  | [], C, C', g, _, hB, h => by cases h; exact hB
  | c :: r, C, C', g, hr, hB, h => by
    rw [rowS_s] at h
    cases hq : passS F C (c / 10) (c % 10) with
    | none => rw [hq] at h; cases h
    | some q =>
      rw [hq] at h
      have := rowS_CB hW r q.1 C' (g + 36) (fun c' hc' => hr c' (List.mem_cons_of_mem _ hc')) (passS_CB (p := q.2) hW (hr c (List.mem_cons_self ..)) hB hq) h
      exact this.mono (by simp only [List.length_cons]; omega)
theorem got_mem {F : FdT} {w g : Nat} {r : List Nat} : gotS F w r g ↔ (g, r) ∈ extS F w (F 0 0) (startS F) := by
  rw [mem_ext]
  have h0 : ∀ x, (startS F 2 0).testBit x = false := fun x => by simp [startS]
  constructor
  · rintro ⟨⟨h1, h2, h3⟩, h4⟩
    exact ⟨h1, h2, fun c hc => ⟨(h3 c hc).1, (h3 c hc).2.1, (h3 c hc).2.2, h0 _⟩, h4⟩
  · rintro ⟨h1, h2, h3, h4⟩
    exact ⟨⟨h1, h2, fun c hc => ⟨(h3 c hc).1, (h3 c hc).2.1, (h3 c hc).2.2.1⟩⟩, h4⟩
theorem got_le {F : FdT} {w g : Nat} {r : List Nat} (hW : WC F) (h : gotS F w r g) : g ≤ 180 := by
  obtain ⟨⟨h1, h2, h3⟩, C, h4, h5⟩ := h
  have := (rowS_CB hW r _ C 0 (fun c hc => (h3 c hc).1) (CB_start hW) h4).2.2.2.1
  have := hW.1
  rw [h1] at *
  omega
def bestB (F : FdT) (w : Nat) : Nat × List Nat := bstS (1000000, []) (extS F w (F 0 0) (startS F))
def zS (F : FdT) (w : Nat) : Option (Nat × List Nat) := if (bestB F w).1 < 1000000 then some (bestB F w) else none
theorem zS_is {F : FdT} {w : Nat} (hW : WC F) : leastS F w (zS F w) := by
  unfold zS
  rcases bst_spec (extS F w (F 0 0) (startS F)) (1000000, []) (ext_sorted _ _) with ⟨e, k⟩ | ⟨e, k1, k2⟩
  · rw [if_neg (by unfold bestB; rw [e]; exact Nat.lt_irrefl _)]
    intro r g h
    have h1 := k (g, r) (got_mem.mp h)
    have h2 := got_le hW h
    have h3 : 1000000 ≤ g := h1
    omega
  · rw [if_pos (show (bestB F w).1 < 1000000 from k1)]
    refine ⟨got_mem.mpr e, fun r g h => ?_⟩
    exact k2 (g, r) (got_mem.mp h)
theorem lex_as : ∀ (a b : List Nat), List.Lex (· < ·) a b → List.Lex (· < ·) b a → False
  | _, [], h, _ => by cases h
  | [], _ :: _, _, h => by cases h
  | x :: a, y :: b, h, h' => by
    cases h with
    | rel h =>
      cases h' with
      | rel h' => omega
      | cons h' => omega
    | cons h =>
      cases h' with
      | rel h' => omega
      | cons h' => exact lex_as a b h h'
theorem least_uq {F : FdT} {w : Nat} {z z' : Option (Nat × List Nat)} (h : leastS F w z) (h' : leastS F w z') : z = z' := by
  cases z with
  | none =>
    cases z' with
    | none => rfl
    | some q => exact absurd h'.1 (h q.2 q.1)
  | some q =>
    cases z' with
    | none => exact absurd h.1 (h' q.2 q.1)
    | some q' =>
      have a := h.2 _ _ h'.1
      have b := h'.2 _ _ h.1
      obtain ⟨x, r⟩ := q
      obtain ⟨x', r'⟩ := q'
      dsimp only at a b
      have e1 : x = x' := by
        rcases a with a | a <;> rcases b with b | b <;> omega
      subst e1
      have e2 : r = r' := by
        rcases a with a | ⟨-, a | a⟩
        · omega
        · exact a
        rcases b with b | ⟨-, b | b⟩
        · omega
        · exact b.symm
        · exact (lex_as _ _ a b).elim
      rw [e2]
def Found (m : Mem) (n : Nat) : Option (Nat × List Nat) → Prop
  | none => (1000000 : Int32) ≤ m 17 0 4
  | some q => m 17 0 4 = nI q.1 ∧ q.1 < 1000000 ∧ ∀ j, j < n → m 19 0 j = nI (q.2.getD j 0)
theorem cnt_start {F : FdT} : ∀ t x, cntS (startS F) x t = t
  | 0, x => rfl
  | t + 1, x => by
    rw [cntS_s, cnt_start t (x + 1), if_neg (by simp [startS])]
    omega
theorem find_c {m : Mem} {ft tr : Int32} {Sh : ShT} {F : FdT} {rn : Nat} {rf rs : Nat → Nat} {w : Nat} (hW : WC F) (h1 : 1 ≤ w) (h2 : w ≤ 15) (hF : 1 ≤ F 0 0) (h : CI m ft tr Sh F rn rf rs) :
    ∃ m', f_X3_find (nI w) m = some ((), m') ∧ CI m' ft tr Sh F rn rf rs ∧ (∀ t, 30 ≤ t → m' t = m t) ∧ Found m' (F 0 0) (zS F w) := by
  unfold f_X3_find
  by_cases c : m 17 0 3 = nI w
  · rw [if_pos c]
    refine ⟨m, rfl, h, fun _ _ => rfl, ?_⟩
    rcases h.2.2.2.2.2 with q | ⟨w', z, p1, p2, p3, p4, p5, p6⟩
    · rw [c] at q
      exact absurd q (nI_ne0 (by omega) (by omega))
    · rw [c] at p3
      have e : w = w' := (nI_eq (by omega) (by omega)).mp p3
      subst e
      rw [← least_uq p5 (zS_is hW)]
      cases z <;> exact p6
  · rw [if_neg c]
    have hT : TC (mset (mset m 17 0 3 (nI w)) 17 0 4 (1000000 : Int32)) F := TC_cong (by rw [mset_ne (by decide), mset_ne (by decide)]) (by rw [mset_ne (by decide), mset_ne (by decide)]) h.2.2.2.1
    obtain ⟨m1, s1, s2, s3⟩ := start_c 1 hT hW
    rw [s1, bnd_some]
    have hL : SeS m m1 F w (startS F) [] (1000000, []) := by
      refine ⟨fun t ht h17 _ _ => by rw [s2 t ht, mset_ne h17, mset_ne h17], s3, ?_, ?_, fun j hj => absurd hj (Nat.not_lt_zero j), fun q => absurd q (Nat.lt_irrefl _)⟩
      · rw [s2 17 (by decide)]; simp [mset]
      · rw [s2 17 (by decide)]; simp [mset, nI_m]
    obtain ⟨m2, r1, r2⟩ := search_all (m0 := m) (w := w) hW (by omega) (F 0 0) 8 (by have := hW.1; omega) (startS F) [] (1000000, []) m1 (by simp) (cnt_start _ _) (CB_start hW) (Nat.le_refl _) hL
    have r1' : f_X3_goOnN 8 (0 : Int32) m1 = some ((), m2) := r1
    rw [r1', bnd_some]
    have hpre : preS [] (extS F w (F 0 0) (startS F)) = extS F w (F 0 0) (startS F) := by
      unfold preS
      simp
    rw [hpre] at r2
    have r2 : SeS m m2 F w (startS F) [] (bestB F w) := r2
    obtain ⟨l1, l2, l3, l4, l5, l6⟩ := r2
    have hle : (bestB F w).1 ≤ 1000000 := bst_le (extS F w (F 0 0) (startS F)) (1000000, [])
    have hFo : Found m2 (F 0 0) (zS F w) := by
      unfold zS
      by_cases d : (bestB F w).1 < 1000000
      · rw [if_pos d]
        exact ⟨l4, d, l6 d⟩
      · rw [if_neg d]
        show (1000000 : Int32) ≤ m2 17 0 4
        rw [l4, nI_m]
        exact nI_le (by omega) (by omega)
    refine ⟨m2, rfl, ?_, fun t ht => l1 t (by omega) (by omega) (by omega) (by omega), hFo⟩
    have e (t : Nat) (ht : t < 7 ∨ 16 < t) (h1 : t ≠ 17) (h2 : t ≠ 18) (h3 : t ≠ 19) := l1 t ht h1 h2 h3
    refine ⟨by rw [e 0 (by decide) (by decide) (by decide) (by decide)]; exact h.1, by rw [e 0 (by decide) (by decide) (by decide) (by decide)]; exact h.2.1, SC_cong (e 2 (by decide) (by decide) (by decide) (by decide)) (e 3 (by decide) (by decide) (by decide) (by decide)) h.2.2.1, TC_cong (e 4 (by decide) (by decide) (by decide) (by decide)) (e 6 (by decide) (by decide) (by decide) (by decide)) h.2.2.2.1, RC_cong (by rw [e 20 (by decide) (by decide) (by decide) (by decide)]) (e 21 (by decide) (by decide) (by decide) (by decide)) (e 22 (by decide) (by decide) (by decide) (by decide)) h.2.2.2.2.1, Or.inr ⟨w, zS F w, h1, h2, l3, hF, zS_is hW, ?_⟩⟩
    revert hFo
    cases zS F w <;> exact id
