/-! ===== payments: the two ways to count ===== -/
/-- the sum of the nets of a mask -/
def sumM (d : Nat → Int32) (M : Nat) : Int32 := (if M.testBit 0 then d 0 else 0) + ((if M.testBit 1 then d 1 else 0) + ((if M.testBit 2 then d 2 else 0) + ((if M.testBit 3 then d 3 else 0) + (if M.testBit 4 then d 4 else 0))))
theorem sumM_add (d : Nat → Int32) {A B : Nat} (h : A &&& B = 0) : sumM d (A ^^^ B) = sumM d A + sumM d B := by
  have hb : ∀ i, ¬ (A.testBit i = true ∧ B.testBit i = true) := fun i q => by
    have := congrArg (fun x => Nat.testBit x i) h
    simp [Nat.testBit_and, q.1, q.2] at this
  have key : ∀ i, (if (A ^^^ B).testBit i then d i else 0) = (if A.testBit i then d i else 0) + (if B.testBit i then d i else 0) := fun i => by
    have := hb i
    rw [Nat.testBit_xor]
    cases h1 : A.testBit i <;> cases h2 : B.testBit i <;> simp_all
  unfold sumM
  rw [key 0, key 1, key 2, key 3, key 4]
  ac_rfl
