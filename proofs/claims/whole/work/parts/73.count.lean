/-! ===== the two counts are one ===== -/
def ez (z : Nat → Bool) (M : Nat) : Nat := if z M = true then 1 else 0
/-- best rows: fish by fish -/
def IsC (n : Nat) (z : Nat → Bool) (b : Nat → Nat) : Prop := b 0 = 0 ∧ ∀ M, 0 < M → M < 2 ^ n → (∀ i, i < n → M.testBit i = true → b (M ^^^ 2 ^ i) + ez z M ≤ b M) ∧ ∃ i, i < n ∧ M.testBit i = true ∧ b M = b (M ^^^ 2 ^ i) + ez z M
/-- most parts: part by part -/
def IsR (n : Nat) (z : Nat → Bool) (p : Nat → Nat) : Prop := p 0 = 0 ∧ ∀ M, 0 < M → M < 2 ^ n → (∀ S, 0 < S → S &&& M = S → z S = true → p (M ^^^ S) + 1 ≤ p M) ∧ (p M = 0 ∨ ∃ S, 0 < S ∧ S &&& M = S ∧ z S = true ∧ p M = p (M ^^^ S) + 1)
def IsZ (z : Nat → Bool) : Prop := ∀ A B, A &&& B = 0 → z A = true → z (A ^^^ B) = z B
theorem mk_lt : ∀ M, M < 32 → ∀ i, i < 5 → M.testBit i = true → M ^^^ 2 ^ i < M := by decide +kernel
def mkB (S Q i : Nat) : Bool := !(S &&& Q == 0) || !(Q.testBit i) || ((S &&& (Q ^^^ 2 ^ i) == 0) && (S ^^^ Q).testBit i)
theorem mkB_all : ∀ S, S < 32 → ∀ Q, Q < 32 → ∀ i, i < 5 → mkB S Q i = true := by decide +kernel
theorem mk_and {S Q i : Nat} (hS : S < 32) (hQ : Q < 32) (hi : i < 5) (h : S &&& Q = 0) (h2 : Q.testBit i = true) : S &&& (Q ^^^ 2 ^ i) = 0 ∧ (S ^^^ Q).testBit i = true := by
  have := mkB_all S hS Q hQ i hi
  unfold mkB at this
  rw [h, h2] at this
  simp only [beq_self_eq_true, Bool.not_true, Bool.false_or, Bool.and_eq_true, beq_iff_eq] at this
  exact this
theorem p2_32 {n M : Nat} (hn : n ≤ 5) (h : M < 2 ^ n) : M < 32 := Nat.lt_of_lt_of_le h (Nat.pow_le_pow_right (by decide) hn : 2 ^ n ≤ 2 ^ 5)
theorem two_le {n : Nat} {z : Nat → Bool} {b : Nat → Nat} (hn : n ≤ 5) (hC : IsC n z b) (hz : IsZ z) {S : Nat} (hS0 : 0 < S) (hS : S < 2 ^ n) (hzS : z S = true) : ∀ k Q, Q < k → Q < 2 ^ n → S &&& Q = 0 → b Q + 1 ≤ b (S ^^^ Q)
  | 0, Q, h, _, _ => by omega
  | k + 1, Q, h, hQ, hd => by
    by_cases h0 : Q = 0
    · subst h0
      obtain ⟨i, h1, h2, h3⟩ := (hC.2 S hS0 hS).2
      rw [Nat.xor_zero, h3, hC.1]
      simp [ez, hzS]
    · obtain ⟨i, h1, h2, h3⟩ := (hC.2 Q (by omega) hQ).2
      have q32 := p2_32 hn hQ
      have s32 := p2_32 hn hS
      obtain ⟨a1, a2⟩ := mk_and s32 q32 (i := i) (by omega) hd h2
      have lt := mk_lt Q q32 i (by omega) h2
      have ih := two_le hn hC hz hS0 hS hzS k (Q ^^^ 2 ^ i) (by omega) (by omega) a1
      have hne : 0 < S ^^^ Q := by
        by_cases e : S ^^^ Q = 0
        · rw [e] at a2; simp at a2
        · omega
      have g := (hC.2 (S ^^^ Q) hne (Nat.xor_lt_two_pow hS hQ)).1 i h1 a2
      rw [Nat.xor_assoc] at g
      have ee : ez z (S ^^^ Q) = ez z Q := by unfold ez; rw [hz S Q hd hzS]
      rw [ee] at g
      omega
