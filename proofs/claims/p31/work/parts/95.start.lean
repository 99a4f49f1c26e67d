/-! ===== the start: the world behind the constructor and the first row of ints (printed by wip/p31/gen91.py) ===== -/
/-- all 0, but the least (1000000) -/
def m0 : Mem := fun t => match t with
  | 17 => fun _ j => if j = 4 then 1000000 else 0
  | _ => fun _ _ => 0
def Aof (b q6 : Nat) (a6 : Nat → Nat) (qg qp qr qw : Nat) : AR → Nat := fun r => match r.1 with
  | 0 => q6
  | 1 => a6 0
  | 2 => [a6 1, a6 3, a6 5, a6 7].getD r.2 0
  | 3 => [a6 2, a6 4, a6 6, a6 8].getD r.2 0
  | 4 => a6 9
  | 5 => a6 10
  | 6 => [a6 11, a6 12, a6 13, a6 14, a6 15].getD r.2 0
  | 7 => [a6 16, a6 26].getD r.2 0
  | 8 => [a6 17, a6 27].getD r.2 0
  | 9 => [a6 18, a6 28].getD r.2 0
  | 10 => [a6 19, a6 29].getD r.2 0
  | 11 => [a6 20, a6 30].getD r.2 0
  | 12 => [a6 21, a6 31].getD r.2 0
  | 13 => [a6 22, a6 32].getD r.2 0
  | 14 => [a6 22 + 1, a6 22 + 2, a6 22 + 3, a6 22 + 4, a6 22 + 5, a6 32 + 1, a6 32 + 2, a6 32 + 3, a6 32 + 4, a6 32 + 5].getD r.2 0
  | 15 => [a6 23, a6 33].getD r.2 0
  | 16 => [a6 24, a6 34].getD r.2 0
  | 17 => a6 25
  | 18 => a6 35
  | 19 => a6 36
  | 20 => a6 37
  | 21 => a6 38
  | 22 => a6 39
  | 60 => b
  | 70 => qg
  | 71 => qp
  | 72 => qr
  | 73 => qw
  | _ => 0
theorem cons_eq {α : Type} {a b : α} {l l' : List α} (h : a = b) (h2 : l = l') : a :: l = b :: l' := by rw [h, h2]
section WORLD
variable {b q6 qg qp qr qw : Nat} {a6 : Nat → Nat}
theorem ref13_0 : (fun j => if j < 5 then some (a6 22 + 1 + j) else none) = (fun j => if j < 5 then (sh_ref 13 0 j).map (Aof b q6 a6 qg qp qr qw) else none) := by
  funext j
  by_cases h : j < 5
  · rw [if_pos h, if_pos h]
    rcases (show j = 0 ∨ j = 1 ∨ j = 2 ∨ j = 3 ∨ j = 4 by omega) with rfl | rfl | rfl | rfl | rfl <;> rfl
  · rw [if_neg h, if_neg h]
theorem ref13_1 : (fun j => if j < 5 then some (a6 32 + 1 + j) else none) = (fun j => if j < 5 then (sh_ref 13 1 j).map (Aof b q6 a6 qg qp qr qw) else none) := by
  funext j
  by_cases h : j < 5
  · rw [if_pos h, if_pos h]
    rcases (show j = 0 ∨ j = 1 ∨ j = 2 ∨ j = 3 ∨ j = 4 by omega) with rfl | rfl | rfl | rfl | rfl <;> rfl
  · rw [if_neg h, if_neg h]
theorem ref1 : (va_up (va_up (va_up (va_up (fun _ => none) 0 (some (a6 1))) 1 (some (a6 3))) 2 (some (a6 5))) 3 (some (a6 7))) = (fun j => if j < 4 then (sh_ref 1 0 j).map (Aof b q6 a6 qg qp qr qw) else none) := by
  funext j
  by_cases h : j < 4
  · rw [if_pos h]
    rcases (show j = 0 ∨ j = 1 ∨ j = 2 ∨ j = 3 by omega) with rfl | rfl | rfl | rfl <;> rfl
  · rw [if_neg h]
    unfold va_up
    rw [if_neg (show ¬ j = 3 by omega), if_neg (show ¬ j = 2 by omega), if_neg (show ¬ j = 1 by omega), if_neg (show ¬ j = 0 by omega)]
theorem ref5 : (va_up (va_up (va_up (va_up (va_up (fun _ => none) 0 (some (a6 11))) 1 (some (a6 12))) 2 (some (a6 13))) 3 (some (a6 14))) 4 (some (a6 15))) = (fun j => if j < 5 then (sh_ref 5 0 j).map (Aof b q6 a6 qg qp qr qw) else none) := by
  funext j
  by_cases h : j < 5
  · rw [if_pos h]
    rcases (show j = 0 ∨ j = 1 ∨ j = 2 ∨ j = 3 ∨ j = 4 by omega) with rfl | rfl | rfl | rfl | rfl <;> rfl
  · rw [if_neg h]
    unfold va_up
    rw [if_neg (show ¬ j = 4 by omega), if_neg (show ¬ j = 3 by omega), if_neg (show ¬ j = 2 by omega), if_neg (show ¬ j = 1 by omega), if_neg (show ¬ j = 0 by omega)]
set_option maxHeartbeats 4000000 in
set_option maxRecDepth 100000 in
theorem world_eq (cs : Nat → ClassId) : LX6 cs q6 a6 ++ [(qg, .inl (cs 0, 28, .inl (fun _ => 0)))] = wsM false (Aof b q6 a6 qg qp qr qw) cs m0 := by
  unfold LX6 wsM vrefs vr1
  simp only [List.cons_append, List.nil_append, List.map_cons, List.map_nil]
  refine cons_eq (rfl) ?_
  refine cons_eq (congrArg (fun f : Nat → Option Nat => ((a6 0 : Nat), (Sum.inl (cs 1, 4, Sum.inr (Sum.inr (Sum.inr (Sum.inr f)))) : va_E))) ref1) ?_
  refine cons_eq (rfl) ?_
  refine cons_eq (rfl) ?_
  refine cons_eq (rfl) ?_
  refine cons_eq (rfl) ?_
  refine cons_eq (rfl) ?_
  refine cons_eq (rfl) ?_
  refine cons_eq (rfl) ?_
  refine cons_eq (rfl) ?_
  refine cons_eq (rfl) ?_
  refine cons_eq (congrArg (fun f : Nat → Option Nat => ((a6 10 : Nat), (Sum.inl (cs 2, 5, Sum.inr (Sum.inr (Sum.inr (Sum.inr f)))) : va_E))) ref5) ?_
  refine cons_eq (rfl) ?_
  refine cons_eq (rfl) ?_
  refine cons_eq (rfl) ?_
  refine cons_eq (rfl) ?_
  refine cons_eq (rfl) ?_
  refine cons_eq (rfl) ?_
  refine cons_eq (rfl) ?_
  refine cons_eq (rfl) ?_
  refine cons_eq (rfl) ?_
  refine cons_eq (rfl) ?_
  refine cons_eq (rfl) ?_
  refine cons_eq (congrArg (fun f : Nat → Option Nat => ((a6 22 : Nat), (Sum.inl (cs 3, 5, Sum.inr (Sum.inr (Sum.inr (Sum.inr f)))) : va_E))) ref13_0) ?_
  refine cons_eq (rfl) ?_
  refine cons_eq (rfl) ?_
  refine cons_eq (rfl) ?_
  refine cons_eq (rfl) ?_
  refine cons_eq (rfl) ?_
  refine cons_eq (rfl) ?_
  refine cons_eq (rfl) ?_
  refine cons_eq (rfl) ?_
  refine cons_eq (rfl) ?_
  refine cons_eq (rfl) ?_
  refine cons_eq (rfl) ?_
  refine cons_eq (rfl) ?_
  refine cons_eq (rfl) ?_
  refine cons_eq (rfl) ?_
  refine cons_eq (congrArg (fun f : Nat → Option Nat => ((a6 32 : Nat), (Sum.inl (cs 3, 5, Sum.inr (Sum.inr (Sum.inr (Sum.inr f)))) : va_E))) ref13_1) ?_
  refine cons_eq (rfl) ?_
  refine cons_eq (rfl) ?_
  refine cons_eq (rfl) ?_
  refine cons_eq (rfl) ?_
  refine cons_eq (rfl) ?_
  refine cons_eq (rfl) ?_
  refine cons_eq (rfl) ?_
  refine cons_eq (rfl) ?_
  refine cons_eq (rfl) ?_
  refine cons_eq (rfl) ?_
  refine cons_eq (rfl) ?_
  refine cons_eq (rfl) ?_
  refine cons_eq (rfl) ?_
  rfl
theorem world_two (cs : Nat → ClassId) (m : Mem) : wsM true (Aof b q6 a6 qg qp qr qw) cs m = wsM false (Aof b q6 a6 qg qp qr qw) cs m ++ [(qp, .inl (cs 0, 40, .inl (fun j => m 71 0 j))), (qr, .inl (cs 0, 9, .inl (fun j => m 72 0 j))), (qw, .inl (cs 0, 25, .inl (fun j => m 73 0 j)))] := by
  unfold wsM vrefs
  rw [List.map_append]
  rfl
end WORLD
