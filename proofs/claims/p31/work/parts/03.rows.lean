/-! ===== one instruction at a time, over the memory as numbers ===== -/
/-- launch, addresses, classes, fields' places, array classes; which cells there are; the script: how long, its ints -/
abbrev ZT : Type := Launch × (AR → Nat) × (Nat → ClassId) × (Nat → Nat → Nat) × (Nat → ClassId) × Bool × Nat × (Nat → Int32)
abbrev zl (Z : ZT) : Launch := Z.1
abbrev zA (Z : ZT) : AR → Nat := Z.2.1
abbrev zC (Z : ZT) : Nat → ClassId := Z.2.2.1
abbrev zI (Z : ZT) : Nat → Nat → Nat := Z.2.2.2.1
abbrev zk (Z : ZT) : Nat → ClassId := Z.2.2.2.2.1
abbrev zV (Z : ZT) : Bool := Z.2.2.2.2.2.1
abbrev zL (Z : ZT) : Nat := Z.2.2.2.2.2.2.1
abbrev zx (Z : ZT) : Nat → Int32 := Z.2.2.2.2.2.2.2
abbrev XT : Type := Program × Env × Room × State × MethodId × Array Value × List Frame × Method × Code × ZT × Nat × Nat × Nat
abbrev xp (X : XT) : Program := X.1
abbrev xe (X : XT) : Env := X.2.1
abbrev xR (X : XT) : Room := X.2.2.1
abbrev xs (X : XT) : State := X.2.2.2.1
abbrev xm (X : XT) : MethodId := X.2.2.2.2.1
abbrev xa (X : XT) : Array Value := X.2.2.2.2.2.1
abbrev xb (X : XT) : List Frame := X.2.2.2.2.2.2.1
abbrev xM (X : XT) : Method := X.2.2.2.2.2.2.2.1
abbrev xc (X : XT) : Code := X.2.2.2.2.2.2.2.2.1
abbrev xZ (X : XT) : ZT := X.2.2.2.2.2.2.2.2.2.1
abbrev xcl (X : XT) : Nat := X.2.2.2.2.2.2.2.2.2.2.1
abbrev xsl (X : XT) : Nat := X.2.2.2.2.2.2.2.2.2.2.2.1
abbrev xn (X : XT) : Nat := X.2.2.2.2.2.2.2.2.2.2.2.2
abbrev xl (X : XT) : Launch := zl (xZ X)
abbrev xA (X : XT) : AR → Nat := zA (xZ X)
abbrev xC (X : XT) : Nat → ClassId := zC (xZ X)
abbrev xI (X : XT) : Nat → Nat → Nat := zI (xZ X)
abbrev xk (X : XT) : Nat → ClassId := zk (xZ X)
abbrev xV (X : XT) : Bool := zV (xZ X)
abbrev xL (X : XT) : Nat := zL (xZ X)
abbrev xx (X : XT) : Nat → Int32 := zx (xZ X)
variable {ph : Bool}
def wsC : List Cond := lw_tbl.filter goodWord
def nestC : List Cond := lw_tbl.filter (fun w => match w with
  | .methodLinkNest .. => true
  | _ => false)
def okV (ph : Bool) (v : AV) : Prop := match v with
  | .inr (.inr r) => r ∈ vrefs ph ∨ r.1 = 60
  | _ => True
theorem ok_cls {r : AR} (h : okV ph (.inr (.inr r))) {y : Nat × Nat} (hs : sh_cls r.1 = some y) : r ∈ vrefs ph := by
  rcases h with h | h
  · exact h
  · rw [h] at hs; cases hs
theorem ok_arr {r : AR} (h : okV ph (.inr (.inr r))) {y : Nat × Nat} (hs : sh_arr r.1 = some y) : r ∈ vrefs ph := by
  rcases h with h | h
  · exact h
  · rw [h] at hs; cases hs
def okS (ph : Bool) (st : ASt) : Prop := ∀ v ∈ st, okV ph v
def okL (ph : Bool) (ls : ALs) : Prop := ∀ v, some v ∈ ls → okV ph v
def lhas (A : AR → Nat) (nL : Nat) (lsa : Array Slot) (ls : ALs) : Prop := lsa.size = nL ∧ ls.length = nL ∧ lv_wf lsa ∧ ∀ (k : Nat) (v : AV), ls[k]? = some (some v) → lsa[k]? = some (.val (cv A v))
abbrev xW (X : XT) (Q : State → Prop) (H : Heap) (locs : List Loc) (g : JFrame) : Prop := W (xp X) (xl X) (xe X) (xR X) (xs X) (xm X) (xa X) (xb X) (xM X) (xc X) H locs (xcl X) (xsl X) Q g
/-- the machine, come to pc with these locals, this stack, this memory, ends in Q -/
def GG (X : XT) (Q : State → Prop) (pc : Nat) (ls : ALs) (st : ASt) (m : Mem) : Prop :=
  okS (xV X) st → okL (xV X) ls → ∀ (H : Heap) (locs : List Loc) (lsa : Array Slot), va_P (xC X, xI X) vwCl (wsM (xV X) (xA X) (xk X) m) H → va_S (frA (xV X) (xA X)) (xs X).heap H locs → lhas (xA X) (xn X) lsa ls →
    xW X Q H locs (F0 (xm X) pc lsa (st.map (cv (xA X))))
abbrev FT : Type := List (Nat × Nat × Nat)
/-- a class's pool: which field is which, its numbers -/
def ftOk (own : String) (ft : FT) : Prop := ∀ q ∈ ft, ∃ z, vwCl[q.2.1]? = some z ∧ q.2.2 < z.2.2 ∧ Cond.fieldLink own q.1 (z.2.1 q.2.2).1 (z.2.1 q.2.2).2.1 (z.2.1 q.2.2).2.2.1 ∈ wsC
def ctOk (own : String) (ct : List (Nat × Int32)) : Prop := ∀ q ∈ ct, Cond.constant own q.1 q.2 ∈ wsC
def clOk (own : String) (cl : List (Nat × Int64)) : Prop := ∀ q ∈ cl, Cond.constantLong own q.1 q.2 ∈ wsC
abbrev PT : Type := String × FT × List (Nat × Int32) × List (Nat × Int64)
def ptOk (P : PT) : Prop := ftOk P.1 P.2.1 ∧ ctOk P.1 P.2.2.1 ∧ clOk P.1 P.2.2.2
/-- the script: its ints at its address, which isn't the world's -/
def SX (Z : ZT) (U : State) : Prop := va_X (zA Z (60, 0)) (zL Z) (zx Z) U U.heap ∧ zA Z (60, 0) < U.heap.size ∧ ¬ frA (zV Z) (zA Z) (zA Z (60, 0))
/-- what stands in every method: the machine, the code, the words, the classes, the addresses apart -/
def GC (X : XT) (cc : ByteArray) (P : PT) : Prop := (xp X).tables.exec = Jvm.exec ∧ (xc X).code = cc ∧ (xc X).maxLocals = xn X ∧ (xs X).vm.findClass P.1 = some (xm X).cls ∧ (∀ w ∈ wsC, w.before (xa X) (xs X) = true) ∧ (∀ w ∈ nestC, va_Nw w (xs X)) ∧
  va_K (xC X, xI X) vwCl (tysM (xk X)) (xs X) ∧ (injA (xV X) (xA X) ∧ SX (xZ X) (xs X)) ∧ (xM X).locks = false ∧ ptOk P
def ldv (ls : ALs) (k : Nat) : Option AV := match ls[k]? with
  | some (some v) => some v
  | _ => none
def isLg : Option AV → Bool
  | some (.inr (.inl _)) => true
  | _ => false
/-- a long whose second half is stored over is gone -/
def clrL : Option AV → Option AV
  | some (.inr (.inl _)) => none
  | o => o
/-- slot k stored to -/
def stA : ALs → Nat → AV → Option ALs
  | [], _, _ => none
  | _ :: r, 0, v => some (some v :: r)
  | o :: r, k + 1, v => match k with
    | 0 => match r with
      | [] => none
      | _ :: r2 => some (clrL o :: some v :: r2)
    | j + 1 => match stA r (j + 1) v with
      | some l => some (o :: l)
      | none => none
def stI (ls : ALs) (k : Nat) (v : AV) (r : ASt) (m : Mem) : Option (ALs × ASt × Mem) := match stA ls k v with
  | some l => some (l, r, m)
  | none => none
def stL (ls : ALs) (k : Nat) (v : AV) (r : ASt) (m : Mem) : Option (ALs × ASt × Mem) := match stA ls k v, Nat.blt (k + 1) ls.length with
  | some l, true => some (l.set (k + 1) none, r, m)
  | _, _ => none
def ldI (ls : ALs) (k : Nat) (st : ASt) (m : Mem) : Option (ALs × ASt × Mem) := match ldv ls k with
  | some (.inl x) => some (ls, .inl x :: st, m)
  | _ => none
def ldL (ls : ALs) (k : Nat) (st : ASt) (m : Mem) : Option (ALs × ASt × Mem) := match ldv ls k with
  | some (.inr (.inl x)) => some (ls, .inr (.inl x) :: st, m)
  | _ => none
def ldA (ls : ALs) (k : Nat) (st : ASt) (m : Mem) : Option (ALs × ASt × Mem) := match ldv ls k with
  | some (.inr (.inr x)) => some (ls, .inr (.inr x) :: st, m)
  | _ => none
def bin (f : Int32 → Int32 → Int32) (ls : ALs) (st : ASt) (m : Mem) : Option (ALs × ASt × Mem) := match st with
  | .inl y :: .inl x :: r => some (ls, .inl (f x y) :: r, m)
  | _ => none
def una (f : Int32 → Int32) (ls : ALs) (st : ASt) (m : Mem) : Option (ALs × ASt × Mem) := match st with
  | .inl x :: r => some (ls, .inl (f x) :: r, m)
  | _ => none
def getF (ft : FT) (index : Nat) (ls : ALs) (st : ASt) (m : Mem) : Option (ALs × ASt × Mem) := match st with
  | .inr (.inr q) :: r => match ft.lookup index, sh_cls q.1 with
    | some z, some y => match z.1 == y.1 && Nat.blt z.2 y.2 with
      | true => match sh_ref q.1 q.2 z.2 with
        | some a => some (ls, .inr (.inr a) :: r, m)
        | none => some (ls, .inl (m q.1 q.2 z.2) :: r, m)
      | false => none
    | _, _ => none
  | _ => none
def putF (ft : FT) (index : Nat) (ls : ALs) (st : ASt) (m : Mem) : Option (ALs × ASt × Mem) := match st with
  | .inl v :: .inr (.inr q) :: r => match ft.lookup index, sh_cls q.1 with
    | some z, some y => match z.1 == y.1 && Nat.blt z.2 y.2 with
      | true => match sh_ref q.1 q.2 z.2, fkd z.1 z.2 with
        | none, 0 => some (ls, r, mset m q.1 q.2 z.2 v)
        | none, 1 => if v = 0 ∨ v = 1 then some (ls, r, mset m q.1 q.2 z.2 v) else none
        | _, _ => none
      | false => none
    | _, _ => none
  | _ => none
def ilen : Instr → Nat
  | .iload _ => 2
  | .aload _ => 2
  | .lload _ => 2
  | .istore _ => 2
  | .astore _ => 2
  | .lstore _ => 2
  | .bipush _ => 2
  | .ldc _ => 2
  | .sipush _ => 3
  | .iinc _ _ => 3
  | .getfield _ => 3
  | .putfield _ => 3
  | .ldc2_w _ => 3
  | _ => 1
def ex1 (P : PT) (i : Instr) (ls : ALs) (st : ASt) (m : Mem) : Option (ALs × ASt × Mem) := match i with
  | .iconst n => some (ls, .inl (Int32.ofInt n) :: st, m)
  | .bipush n => some (ls, .inl (Int8.ofInt n).toInt32 :: st, m)
  | .sipush n => some (ls, .inl (Int16.ofInt n).toInt32 :: st, m)
  | .lconst n => some (ls, .inr (.inl (Int64.ofNat n.val)) :: st, m)
  | .iload k => ldI ls k st m
  | .iload_n k => ldI ls k.val st m
  | .lload k => ldL ls k st m
  | .lload_n k => ldL ls k.val st m
  | .aload k => ldA ls k st m
  | .aload_n k => ldA ls k.val st m
  | .istore k => match st with
    | .inl x :: r => stI ls k (.inl x) r m
    | _ => none
  | .istore_n k => match st with
    | .inl x :: r => stI ls k.val (.inl x) r m
    | _ => none
  | .astore k => match st with
    | .inr (.inr x) :: r => stI ls k (.inr (.inr x)) r m
    | _ => none
  | .astore_n k => match st with
    | .inr (.inr x) :: r => stI ls k.val (.inr (.inr x)) r m
    | _ => none
  | .lstore k => match st with
    | .inr (.inl x) :: r => stL ls k (.inr (.inl x)) r m
    | _ => none
  | .lstore_n k => match st with
    | .inr (.inl x) :: r => stL ls k.val (.inr (.inl x)) r m
    | _ => none
  | .iinc k n => match ldv ls k with
    | some (.inl x) => stI ls k (.inl (x + Int32.ofInt n)) st m
    | _ => none
  | .iadd => bin (fun x y => x + y) ls st m
  | .isub => bin (fun x y => x - y) ls st m
  | .imul => bin (fun x y => x * y) ls st m
  | .iand => bin (fun x y => x &&& y) ls st m
  | .ior => bin (fun x y => x ||| y) ls st m
  | .ixor => bin (fun x y => x ^^^ y) ls st m
  | .ishl => bin (fun x y => x <<< (y &&& 31)) ls st m
  | .ishr => bin (fun x y => x >>> (y &&& 31)) ls st m
  | .ineg => una (fun x => -x) ls st m
  | .i2b => una (fun x => x.toInt8.toInt32) ls st m
  | .i2s => una (fun x => x.toInt16.toInt32) ls st m
  | .i2l => match st with
    | .inl x :: r => some (ls, .inr (.inl x.toInt64) :: r, m)
    | _ => none
  | .lcmp => match st with
    | .inr (.inl y) :: .inr (.inl x) :: r => some (ls, .inl (lg_cmp x y) :: r, m)
    | _ => none
  | .dup => match st with
    | .inl x :: r => some (ls, .inl x :: .inl x :: r, m)
    | .inr (.inr x) :: r => some (ls, .inr (.inr x) :: .inr (.inr x) :: r, m)
    | _ => none
  | .dup2 => match st with
    | .inl x :: .inl y :: r => some (ls, .inl x :: .inl y :: .inl x :: .inl y :: r, m)
    | .inl x :: .inr (.inr y) :: r => some (ls, .inl x :: .inr (.inr y) :: .inl x :: .inr (.inr y) :: r, m)
    | _ => none
  | .getfield k => getF P.2.1 k ls st m
  | .putfield k => putF P.2.1 k ls st m
  | .ldc k => match P.2.2.1.lookup k with
    | some x => some (ls, .inl x :: st, m)
    | none => none
  | .ldc2_w k => match P.2.2.2.lookup k with
    | some x => some (ls, .inr (.inl x) :: st, m)
    | none => none
  | _ => none
