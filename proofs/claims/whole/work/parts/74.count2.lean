def mk3 (A M i : Nat) : Bool := !(A &&& (M ^^^ 2 ^ i) == A) || !(M.testBit i) || ((A &&& M == A) && Nat.blt A M && !(M ^^^ A == 0))
theorem mk3_all : ∀ A, A < 32 → ∀ M, M < 32 → ∀ i, i < 5 → mk3 A M i = true := by decide +kernel
def mk2 (S M : Nat) : Bool := !(S &&& M == S) || ((S &&& (M ^^^ S) == 0) && ((M ^^^ S) &&& M == M ^^^ S) && (Nat.beq S 0 || Nat.blt (M ^^^ S) M))
theorem mk2_all : ∀ A, A < 32 → ∀ M, M < 32 → mk2 A M = true := by decide +kernel
theorem mk3_at {A M i : Nat} (hA : A < 32) (hM : M < 32) (hi : i < 5) (h : A &&& (M ^^^ 2 ^ i) = A) (h2 : M.testBit i = true) : A &&& M = A ∧ A < M ∧ 0 < M ^^^ A := by
  have := mk3_all A hA M hM i hi
  unfold mk3 at this
  rw [h, h2] at this
  simp only [beq_self_eq_true, Bool.not_true, Bool.false_or, Bool.and_eq_true, beq_iff_eq, Bool.not_eq_true', beq_eq_false_iff_ne, Nat.blt_eq] at this
  exact ⟨this.1.1, this.1.2, by have := this.2; omega⟩
theorem mk2_at {S M : Nat} (hS : S < 32) (hM : M < 32) (h : S &&& M = S) : S &&& (M ^^^ S) = 0 ∧ (M ^^^ S) &&& M = M ^^^ S ∧ (0 < S → M ^^^ S < M) := by
  have := mk2_all S hS M hM
  unfold mk2 at this
  rw [h] at this
  simp only [beq_self_eq_true, Bool.not_true, Bool.false_or, Bool.and_eq_true, beq_iff_eq, Bool.or_eq_true, Nat.blt_eq, Nat.beq_eq_true_eq] at this
  exact ⟨this.1.1, this.1.2, fun h0 => by
    rcases this.2 with q | q
    · first
      | exact absurd (Nat.eq_of_beq_eq_true q) (Nat.ne_of_gt h0)
      | exact absurd q (Nat.ne_of_gt h0)
    · exact q⟩
theorem three {n : Nat} {z : Nat → Bool} {b : Nat → Nat} (hn : n ≤ 5) (hC : IsC n z b) : ∀ k M, M < k → M < 2 ^ n → ∃ P, P &&& M = P ∧ b P = b M ∧ (P = 0 ∨ z P = true) ∧ P < 2 ^ n
  | 0, M, h, _ => by omega
  | k + 1, M, h, hM => by
    by_cases h0 : M = 0
    · exact ⟨M, Nat.and_self M, rfl, Or.inl h0, hM⟩
    by_cases hz : z M = true
    · exact ⟨M, Nat.and_self M, rfl, Or.inr hz, hM⟩
    obtain ⟨i, h1, h2, h3⟩ := (hC.2 M (by omega) hM).2
    have m32 := p2_32 hn hM
    have lt := mk_lt M m32 i (by omega) h2
    obtain ⟨P, p1, p2, p3, p4⟩ := three hn hC k (M ^^^ 2 ^ i) (by omega) (by omega)
    have e : ez z M = 0 := by unfold ez; rw [if_neg hz]
    exact ⟨P, (mk3_at (p2_32 hn p4) m32 (i := i) (by omega) p1 h2).1, by rw [p2, h3, e]; rfl, p3, p4⟩
theorem r_le_c {n : Nat} {z : Nat → Bool} {b p : Nat → Nat} (hn : n ≤ 5) (hC : IsC n z b) (hR : IsR n z p) (hz : IsZ z) : ∀ k M, M < k → M < 2 ^ n → p M ≤ b M
  | 0, M, h, _ => by omega
  | k + 1, M, h, hM => by
    by_cases h0 : M = 0
    · rw [h0, hR.1]; omega
    rcases (hR.2 M (by omega) hM).2 with q | ⟨S, s1, s2, s3, s4⟩
    · omega
    have m32 := p2_32 hn hM
    have sle : S ≤ M := by rw [← s2]; exact Nat.and_le_right
    obtain ⟨a1, a2, a3⟩ := mk2_at (S := S) (by omega) m32 s2
    have lt := a3 s1
    have ih := r_le_c hn hC hR hz k (M ^^^ S) (by omega) (by omega)
    have g := two_le hn hC hz s1 (by omega) s3 ((M ^^^ S) + 1) (M ^^^ S) (by omega) (by omega) a1
    rw [show S ^^^ (M ^^^ S) = M by rw [Nat.xor_comm M S, ← Nat.xor_assoc, Nat.xor_self, Nat.zero_xor]] at g
    omega
