def mk4 (A B S : Nat) : Bool := !(A &&& B == A) || !(S &&& A == S) || ((S &&& B == S) && ((A ^^^ S) &&& (B ^^^ S) == A ^^^ S))
theorem mk4_all : ∀ A, A < 32 → ∀ B, B < 32 → ∀ S, S < 32 → mk4 A B S = true := by decide +kernel
theorem mk4_at {A B S : Nat} (hA : A < 32) (hB : B < 32) (hS : S < 32) (h1 : A &&& B = A) (h2 : S &&& A = S) : S &&& B = S ∧ (A ^^^ S) &&& (B ^^^ S) = A ^^^ S := by
  have := mk4_all A hA B hB S hS
  unfold mk4 at this
  rw [h1, h2] at this
  simp only [beq_self_eq_true, Bool.not_true, Bool.false_or, Bool.and_eq_true, beq_iff_eq] at this
  exact this
theorem r_mono {n : Nat} {z : Nat → Bool} {p : Nat → Nat} (hn : n ≤ 5) (hR : IsR n z p) : ∀ k B A, B < k → B < 2 ^ n → A &&& B = A → p A ≤ p B
  | 0, B, A, h, _, _ => by omega
  | k + 1, B, A, h, hB, hs => by
    have hA : A ≤ B := by rw [← hs]; exact Nat.and_le_right
    by_cases h0 : A = 0
    · rw [h0, hR.1]; omega
    rcases (hR.2 A (by omega) (by omega)).2 with q | ⟨S, s1, s2, s3, s4⟩
    · omega
    have b32 := p2_32 hn hB
    have sle : S ≤ A := by rw [← s2]; exact Nat.and_le_right
    obtain ⟨a1, a2⟩ := mk4_at (S := S) (by omega) b32 (by omega) hs s2
    have lt := (mk2_at (S := S) (by omega) b32 a1).2.2 s1
    have ih := r_mono hn hR k (B ^^^ S) (A ^^^ S) (by omega) (by omega) a2
    have g := (hR.2 B (by omega) hB).1 S s1 a1 s3
    omega
theorem c_le_r {n : Nat} {z : Nat → Bool} {b p : Nat → Nat} (hn : n ≤ 5) (hC : IsC n z b) (hR : IsR n z p) (hz : IsZ z) : ∀ k M, M < k → M < 2 ^ n → b M ≤ p M
  | 0, M, h, _ => by omega
  | k + 1, M, h, hM => by
    by_cases h0 : M = 0
    · rw [h0, hC.1]; omega
    obtain ⟨i, h1, h2, h3⟩ := (hC.2 M (by omega) hM).2
    have m32 := p2_32 hn hM
    have lt := mk_lt M m32 i (by omega) h2
    by_cases hzM : z M = true
    · obtain ⟨P, p1, p2, p3, p4⟩ := three hn hC ((M ^^^ 2 ^ i) + 1) (M ^^^ 2 ^ i) (by omega) (by omega)
      obtain ⟨q1, q2, q3⟩ := mk3_at (p2_32 hn p4) m32 (i := i) (by omega) p1 h2
      obtain ⟨a1, a2, -⟩ := mk2_at (p2_32 hn p4) m32 q1
      have hx : P ^^^ (M ^^^ P) = M := by rw [Nat.xor_comm M P, ← Nat.xor_assoc, Nat.xor_self, Nat.zero_xor]
      have zS : z (M ^^^ P) = true := by
        rcases p3 with e | e
        · rw [e, Nat.xor_zero]; exact hzM
        · have := hz P (M ^^^ P) a1 e
          rw [hx, hzM] at this
          exact this.symm
      have g := (hR.2 M (by omega) hM).1 (M ^^^ P) q3 a2 zS
      rw [show M ^^^ (M ^^^ P) = P by rw [← Nat.xor_assoc, Nat.xor_self, Nat.zero_xor]] at g
      have ih := c_le_r hn hC hR hz k P (by omega) (by omega)
      have e : ez z M = 1 := by unfold ez; rw [if_pos hzM]
      omega
    · have ih := c_le_r hn hC hR hz k (M ^^^ 2 ^ i) (by omega) (by omega)
      have e : ez z M = 0 := by unfold ez; rw [if_neg hzM]
      have sub : (M ^^^ 2 ^ i) &&& M = M ^^^ 2 ^ i := (mk3_at (A := M ^^^ 2 ^ i) (by omega) m32 (i := i) (by omega) (Nat.and_self _) h2).1
      have g := r_mono hn hR (M + 1) M (M ^^^ 2 ^ i) (by omega) hM sub
      omega
theorem c_eq_r {n : Nat} {z : Nat → Bool} {b p : Nat → Nat} (hn : n ≤ 5) (hC : IsC n z b) (hR : IsR n z p) (hz : IsZ z) {M : Nat} (hM : M < 2 ^ n) : b M = p M :=
  Nat.le_antisymm (c_le_r hn hC hR hz (M + 1) M (Nat.lt_succ_self M) hM) (r_le_c hn hC hR hz (M + 1) M (Nat.lt_succ_self M) hM)
theorem sum_IsZ (d : Nat → Int32) : IsZ (fun M => sumM d M == 0) := fun A B h hA => by
  have hA' : sumM d A = 0 := by simpa using hA
  have := sumM_add d h
  rw [hA', Int32.zero_add] at this
  simp [this]
