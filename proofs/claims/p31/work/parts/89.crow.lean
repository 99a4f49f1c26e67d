/-! ===== constructors: rows over a world that grows ===== -/
/-- what the tables say of arrays of arrays of ints -/
def va_AI (U : State) : Prop := (Cond.arrayOver (.array .int)).before #[] U = true
theorem va_AI.moved {u U : State} (hvm : u.vm.Alike U.vm) (h : va_AI u) : va_AI U := by
  obtain ⟨comp, c, k, h1, h2, h3, h4, h5⟩ := arrayOverA_spec h
  obtain ⟨k', hk', he⟩ := hvm.2.2 _ _ h3
  have hi : (U.vm.classes.findIdx? fun (x : Class) => match x.kind with | .array component _ => component == comp | _ => false) = some c := by
    rw [hvm.findIdx?_eq _ (fun _ => rfl)]
    exact h2
  have hkind : k'.kind = .array comp (.array .int) := by rw [he]; exact h4
  have f1 : U.vm.findClass (FieldType.array .int).toString = some comp := by rw [hvm.findClass]; exact h1
  have f2 : U.vm.findClass ("[" ++ (FieldType.array .int).toString) = some c := by rw [hvm.findClass]; exact h5
  unfold va_AI Cond.before Cond.holds
  simp only [Cond.value]
  rw [f1, Option.bind_some]
  refine (congrArg (fun o : Option Nat => (o.bind (fun c => (U.vm.classes[c]?).map fun (k : Class) => match k.kind with | .array _ ty => decide (ty = FieldType.array .int) && decide (U.vm.findClass ("[" ++ (FieldType.array .int).toString) = some c) | _ => false) == some true)) hi).trans ?_
  simp [hk', hkind, f2]
/-- what a state knows of the classes -/
def KU (dC : Nat → ClassId) (dI : Nat → Nat → Nat) (cs : Nat → ClassId) (U : State) : Prop := va_K (dC, dI) vwCl (tysM cs) U ∧ (va_AO RX4 U ∧ va_AO RX1 U ∧ va_AI U) ∧ ∀ w ∈ nestC, va_Nw w U
theorem KU.warm {dC : Nat → ClassId} {dI : Nat → Nat → Nat} {cs : Nat → ClassId} {s U : State} (hW : s.WarmedH U.vm) (h : KU dC dI cs s) : KU dC dI cs U := by
  refine ⟨va_K.moved hW.alike h.1, ⟨va_AO.moved hW.alike h.2.1.1, va_AO.moved hW.alike h.2.1.2.1, va_AI.moved hW.alike h.2.1.2.2⟩, fun w hw => ?_⟩
  obtain ⟨-, a, i, b, hh, rfl⟩ := nest_on hw
  exact va_Nw.warmM hW (h.2.2 _ hw)
theorem KU.call {dC : Nat → ClassId} {dI : Nat → Nat → Nat} {cs : Nat → ClassId} {U : State} {g : JFrame} {mk : MethodId} {a : Array Value} (h : KU dC dI cs U) : KU dC dI cs (U.calling g mk a) := by
  refine ⟨va_K.moved (u := U) (U := U.calling g mk a) (Vm.Alike.refl U.vm) h.1, ⟨va_AO.moved (u := U) (U := U.calling g mk a) (Vm.Alike.refl U.vm) h.2.1.1, va_AO.moved (u := U) (U := U.calling g mk a) (Vm.Alike.refl U.vm) h.2.1.2.1, va_AI.moved (u := U) (U := U.calling g mk a) (Vm.Alike.refl U.vm) h.2.1.2.2⟩, fun w hw => ?_⟩
  exact va_Nw.same (u := U) (U := U.calling g mk a) (nest_on hw).1 rfl (h.2.2 w hw)
def KC (X : XT) (cc : ByteArray) (own : String) : Prop := (xp X).tables.exec = Jvm.exec ∧ (xc X).code = cc ∧ (xc X).maxLocals = xn X ∧ (xs X).vm.findClass own = some (xm X).cls ∧ (∀ w ∈ wsC, w.before (xa X) (xs X) = true) ∧ KU (xC X) (xI X) (xk X) (xs X) ∧ (xM X).locks = false
/-- the machine, come to pc with these locals, this stack, this world, n cells and k slots used, ends in Q -/
def KG (X : XT) (A : Nat → Prop) (Q : State → Prop) (pc : Nat) (ls : List (Nat × Value)) (st : List Value) (ws : va_W) (n k : Nat) : Prop :=
  ∀ (H : Heap) (locs : List Loc) (lsa : Array Slot), va_P (xC X, xI X) vwCl ws H → va_D A ws → va_S A (xs X).heap H locs → lv_has lsa (xn X) ls →
    W (xp X) (xl X) (xe X) (xR X) (xs X) (xm X) (xa X) (xb X) (xM X) (xc X) H locs n k Q (F0 (xm X) pc lsa st)
section KROWS
variable {X : XT} {cc : ByteArray} {own : String} {A : Nat → Prop} {Q : State → Prop} {pc : Nat} {ls ls' : List (Nat × Value)} {st : List Value} {ws ws' : va_W} {n k : Nat}
theorem kg_aload (h : KC X cc own) {j : Fin 4} {x i : Nat} (hd : decode cc pc = .ok (.aload_n j, 1)) (hl : ls[i]? = some ((j : Nat), .ref x)) (kk : KG X A Q (pc + 1) ls (.ref x :: st) ws n k) : KG X A Q pc ls st ws n k :=
  fun H locs lsa hP hD hS hL => lv_aload_n h.1 h.2.1 hd rfl (lv_at hL i hl) (kk H locs lsa hP hD hS hL)
theorem kg_iload (h : KC X cc own) {j : Fin 4} {x : Int32} {i : Nat} (hd : decode cc pc = .ok (.iload_n j, 1)) (hl : ls[i]? = some ((j : Nat), .int x)) (kk : KG X A Q (pc + 1) ls (.int x :: st) ws n k) : KG X A Q pc ls st ws n k :=
  fun H locs lsa hP hD hS hL => lv_iload_n h.1 h.2.1 hd rfl (lv_at hL i hl) (kk H locs lsa hP hD hS hL)
theorem kg_iconst (h : KC X cc own) {z : Int} (v : Int32) (hd : decode cc pc = .ok (.iconst z, 1)) (hv : Int32.ofInt z = v) (kk : KG X A Q (pc + 1) ls (.int v :: st) ws n k) : KG X A Q pc ls st ws n k :=
  fun H locs lsa hP hD hS hL => lv_iconst h.1 h.2.1 hd hv (kk H locs lsa hP hD hS hL)
theorem kg_bipush (h : KC X cc own) {z : Int} (v : Int32) (hd : decode cc pc = .ok (.bipush z, 2)) (hv : (Int8.ofInt z).toInt32 = v) (kk : KG X A Q (pc + 2) ls (.int v :: st) ws n k) : KG X A Q pc ls st ws n k :=
  fun H locs lsa hP hD hS hL => lv_bipush h.1 h.2.1 hd hv (kk H locs lsa hP hD hS hL)
theorem kg_sipush (h : KC X cc own) {z : Int} (v : Int32) (hd : decode cc pc = .ok (.sipush z, 3)) (hv : (Int16.ofInt z).toInt32 = v) (kk : KG X A Q (pc + 3) ls (.int v :: st) ws n k) : KG X A Q pc ls st ws n k :=
  fun H locs lsa hP hD hS hL => lv_sipush h.1 h.2.1 hd hv (kk H locs lsa hP hD hS hL)
theorem kg_ldc (h : KC X cc own) {index : Nat} (v : Int32) (hd : decode cc pc = .ok (.ldc index, 2)) (hw : Cond.constant own index v ∈ wsC) (kk : KG X A Q (pc + 2) ls (.int v :: st) ws n k) : KG X A Q pc ls st ws n k :=
  fun H locs lsa hP hD hS hL => lv_ldc h.1 h.2.1 h.2.2.2.1 (h.2.2.2.2.1 _ hw) hd (kk H locs lsa hP hD hS hL)
theorem kg_dup (h : KC X cc own) {v : Value} (hd : decode cc pc = .ok (.dup, 1)) (hv : v.category = 1) (kk : KG X A Q (pc + 1) ls (v :: v :: st) ws n k) : KG X A Q pc ls (v :: st) ws n k :=
  fun H locs lsa hP hD hS hL => lv_dup h.1 h.2.1 hd hv (kk H locs lsa hP hD hS hL)
theorem kg_istore (h : KC X cc own) {j : Fin 4} {x : Int32} (hd : decode cc pc = .ok (.istore_n j, 1)) (hn : (j : Nat) < xn X) (hl : ((j : Nat), Value.int x) :: ls.filter (fun q => !(q.1 == (j : Nat)) && !(q.1 + 1 == (j : Nat) && q.2.category == 2)) = ls') (kk : KG X A Q (pc + 1) ls' st ws n k) : KG X A Q pc ls (.int x :: st) ws n k :=
  fun H locs lsa hP hD hS hL => lv_istore_n h.1 h.2.1 hd rfl hL hn hl (fun l2 hL2 => kk H locs l2 hP hD hS hL2)
theorem kg_astore (h : KC X cc own) {j : Fin 4} {x : Nat} (hd : decode cc pc = .ok (.astore_n j, 1)) (hn : (j : Nat) < xn X) (hl : ((j : Nat), Value.ref x) :: ls.filter (fun q => !(q.1 == (j : Nat)) && !(q.1 + 1 == (j : Nat) && q.2.category == 2)) = ls') (kk : KG X A Q (pc + 1) ls' st ws n k) : KG X A Q pc ls (.ref x :: st) ws n k :=
  fun H locs lsa hP hD hS hL => lv_astore_n h.1 h.2.1 hd rfl hL hn hl (fun l2 hL2 => kk H locs l2 hP hD hS hL2)
theorem kg_iinc (h : KC X cc own) {i q : Nat} {z : Int} {x v : Int32} (hd : decode cc pc = .ok (.iinc i z, 3)) (hk : ls[q]? = some (i, .int x)) (hv : x + Int32.ofInt z = v) (hn : i < xn X) (hl : (i, Value.int v) :: ls.filter (fun q => !(q.1 == i) && !(q.1 + 1 == i && q.2.category == 2)) = ls') (kk : KG X A Q (pc + 3) ls' st ws n k) : KG X A Q pc ls st ws n k :=
  fun H locs lsa hP hD hS hL => lv_iinc h.1 h.2.1 hd hL hk hv hn hl (fun l2 hL2 => kk H locs l2 hP hD hS hL2)
theorem kg_goto (h : KC X cc own) {off : Int} (tgt : Nat) (hd : decode cc pc = .ok (.goto off, 3)) (ht : (pc : Int) + off = (tgt : Int)) (kk : KG X A Q tgt ls st ws n k) : KG X A Q pc ls st ws n k :=
  fun H locs lsa hP hD hS hL => lv_goto h.1 h.2.1 hd ht (kk H locs lsa hP hD hS hL)
theorem kg_geT (h : KC X cc own) {off : Int} {x y : Int32} (tgt : Nat) (hd : decode cc pc = .ok (.if_icmp .ge off, 3)) (ht : (pc : Int) + off = (tgt : Int)) (hc : y ≤ x) (kk : KG X A Q tgt ls st ws n k) : KG X A Q pc ls (.int y :: .int x :: st) ws n k :=
  fun H locs lsa hP hD hS hL => lv_icmp_ge h.1 h.2.1 hd ht (fun _ => kk H locs lsa hP hD hS hL) (fun q => absurd hc q)
theorem kg_geF (h : KC X cc own) {off : Int} {x y : Int32} (tgt : Nat) (hd : decode cc pc = .ok (.if_icmp .ge off, 3)) (ht : (pc : Int) + off = (tgt : Int)) (hc : ¬ y ≤ x) (kk : KG X A Q (pc + 3) ls st ws n k) : KG X A Q pc ls (.int y :: .int x :: st) ws n k :=
  fun H locs lsa hP hD hS hL => lv_icmp_ge h.1 h.2.1 hd ht (fun q => absurd q hc) (fun _ => kk H locs lsa hP hD hS hL)
theorem kg_obj (h : KC X cc own) {index a : Nat} (hd : decode cc pc = .ok (.invokespecial index, 3)) (w1 : Cond.methodLink own index objectInit ∈ wsC) (w2 : Cond.instanceMethod objectInit ∈ wsC) (w3 : Cond.code objectInit ⟨#[0xb1]⟩ 1 none ∈ wsC) (hR : 1 ≤ (xR X).frames ∧ 12 ≤ (xR X).locals) (kk : KG X A Q (pc + 3) ls [] ws n k) : KG X A Q pc ls [.ref a] ws n k :=
  fun H locs lsa hP hD hS hL => W.objInit h.1 h.2.1 h.2.2.2.1 (h.2.2.2.2.1 _ w1) (h.2.2.2.2.1 _ w2) (h.2.2.2.2.1 _ w3) rfl (hL.1.trans h.2.2.1.symm) rfl hd hR.1 (by simpa using hR.2) (kk H locs lsa hP hD hS hL)
theorem kg_new (h : KC X cc own) (hA : ∀ q, (xs X).heap.size ≤ q → A q) {index ci : Nat} {C : String} {T : u_T} {N : Nat} {fs : List Value} (hcz : vwCl[ci]? = some (C, T, N)) (hd : decode cc pc = .ok (.new index, 3)) (w1 : Cond.classLink own index C ∈ wsC) (w2 : Cond.instantiable C N ∈ wsC) (w3 : Cond.initialized C ∈ wsC) (hfs : ∀ j, j < N → defaultValue (tyK ci j) = vp_V fs j) (hn : n + 1 ≤ (xR X).cells ∧ k + N ≤ (xR X).slots)
    (kk : ∀ q, KG X A Q (pc + 3) ls (.ref q :: st) (ws ++ [(q, .inr (ci, fs))]) (n + 1) (k + N)) : KG X A Q pc ls st ws n k :=
  fun H locs lsa hP hD hS hL => va_new h.1 h.2.1 h.2.2.2.2.1 (u_all ci _ hcz) (tyK ci) (ty_all ci _ hcz) h.2.2.2.1 (h.2.2.2.2.1 _ w1) (h.2.2.2.2.1 _ w2) (h.2.2.2.2.1 _ w3) h.2.2.2.2.2.1.1 hP hD hS hA hcz hfs hn.1 hn.2 hd (fun q H1 hP1 hD1 hS1 => kk q H1 locs lsa hP1 hD1 hS1 hL)
/-- a new row of ints -/
theorem kg_newa (h : KC X cc own) (hA : ∀ q, (xs X).heap.size ≤ q → A q) {x : Int32} (N : Nat) (hx : x.toNatClampNeg = N) (h0 : ¬ x < 0) (h9 : N ≤ 1000) (hd : decode cc pc = .ok (.newarray .int, 2)) (w1 : Cond.arrayClass .int ∈ wsC) (hn : n + 1 ≤ (xR X).cells ∧ k + N ≤ (xR X).slots)
    (kk : ∀ q, KG X A Q (pc + 2) ls (.ref q :: st) (ws ++ [(q, .inl (xk X 0, N, .inl (fun _ => 0)))]) (n + 1) (k + N)) : KG X A Q pc ls (.int x :: st) ws n k := by
  intro H locs lsa hP hD hS hL
  have hK := h.2.2.2.2.2.1.1
  refine va_newa (atype := .int) (ty := .int) (N' := N) (a0 := (N, .inl (fun _ => 0))) h.1 h.2.1 (h.2.2.2.2.1 _ w1) rfl hK hP hD hS hA (fun cA => rfl) h0 hx (by show N * 4 ≤ 536870912; omega) hn.1 hn.2 hd (fun q cA H1 hK1 hP1 hD1 hS1 => ?_)
  have e : cA = xk X 0 := by
    have h1 : (xs X).vm.findClass _ = some cA := (hK1.2 4 (cA, .int) rfl).2
    have h2 : (xs X).vm.findClass _ = some (xk X 0) := (hK.2 0 (xk X 0, .int) rfl).2
    exact Option.some.inj (h1.symm.trans h2)
  subst e
  exact kk q H1 locs lsa hP1 hD1 hS1 hL
/-- a new row of objects, all null -/
theorem kg_newq (h : KC X cc own) (hA : ∀ q, (xs X).heap.size ≤ q → A q) {index t : Nat} {C : String} {x : Int32} (N : Nat) (hx : x.toNatClampNeg = N) (h0 : ¬ x < 0) (h9 : N ≤ 1000) (hd : decode cc pc = .ok (.anewarray index, 3)) (w1 : Cond.classLink own index C ∈ wsC) (hO : va_AO C (xs X)) (ht : (tysM (xk X))[t]? = some (xk X t, .object C)) (hn : n + 1 ≤ (xR X).cells ∧ k + N ≤ (xR X).slots)
    (kk : ∀ q, KG X A Q (pc + 3) ls (.ref q :: st) (ws ++ [(q, .inl (xk X t, N, .inr (.inr (.inr (.inr (fun _ => none))))))]) (n + 1) (k + N)) : KG X A Q pc ls (.int x :: st) ws n k := by
  intro H locs lsa hP hD hS hL
  have hK := h.2.2.2.2.2.1.1
  refine va_newq (N' := N) h.1 h.2.1 h.2.2.2.1 (h.2.2.2.2.1 _ w1) hO hK hP hD hS hA h0 hx (by omega) hn.1 hn.2 hd (fun q cA H1 hK1 hP1 hD1 hS1 => ?_)
  have e : cA = xk X t := by
    obtain ⟨_, _, _, _, _, h1⟩ := (hK1.2 4 (cA, .object C) rfl).2
    obtain ⟨_, _, _, _, _, h2⟩ := (hK.2 t (xk X t, .object C) ht).2
    exact Option.some.inj (h1.symm.trans h2)
  subst e
  exact kk q H1 locs lsa hP1 hD1 hS1 hL
theorem kg_put (h : KC X cc own) {index ci q0 fk a : Nat} {C : String} {T : u_T} {N : Nat} {fs : List Value} {v : Value} (hcz : vwCl[ci]? = some (C, T, N)) (he : ws[q0]? = some (a, .inr (ci, fs))) (hk : fk < N) (hd : decode cc pc = .ok (.putfield index, 3)) (w1 : Cond.fieldLink own index (T fk).1 (T fk).2.1 (T fk).2.2.1 ∈ wsC) (hfin : (T fk).2.2.2 = false) (hn : narrow (tyK ci fk) v = v) (hf : fits (tyK ci fk) v = true) (hl : fk < fs.length) (hws : ws.set q0 (a, .inr (ci, fs.set fk v)) = ws')
    (kk : KG X A Q (pc + 3) ls st ws' n k) : KG X A Q pc ls (v :: .ref a :: st) ws n k := by
  subst hws
  exact fun H locs lsa hP hD hS hL => va_put (D := (xC X, xI X)) (ci := ci) (v := v) (ty := tyK ci fk) (C := C) (T := T) (N := N) h.1 h.2.1 h.2.2.2.2.1 (u_all ci _ hcz) (tyK ci) (ty_all ci _ hcz) (nm_all ci _ hcz) h.2.2.2.1 h.2.2.2.2.2.1.1 hP hD hS q0 he hcz fk hk (h.2.2.2.2.1 _ w1) (fun _ h9 => h9) hfin (ty_all ci _ hcz fk hk) hn hf hl hd (fun H1 locs1 hP1 hD1 hS1 => kk H1 locs1 lsa hP1 hD1 hS1 hL)
theorem kg_putF (h : KC X cc own) (hin : (xM X).name = "<init>") {index ci q0 fk a : Nat} {C : String} {T : u_T} {N : Nat} {fs : List Value} {v : Value} (hcz : vwCl[ci]? = some (C, T, N)) (he : ws[q0]? = some (a, .inr (ci, fs))) (hk : fk < N) (hd : decode cc pc = .ok (.putfield index, 3)) (w1 : Cond.fieldLink own index (T fk).1 (T fk).2.1 (T fk).2.2.1 ∈ wsC) (hfin : (T fk).2.2.2 = true) (hdc : (T fk).1 = own) (hn : narrow (tyK ci fk) v = v) (hf : fits (tyK ci fk) v = true) (hl : fk < fs.length) (hws : ws.set q0 (a, .inr (ci, fs.set fk v)) = ws')
    (kk : KG X A Q (pc + 3) ls st ws' n k) : KG X A Q pc ls (v :: .ref a :: st) ws n k := by
  subst hws
  exact fun H locs lsa hP hD hS hL => va_putF (D := (xC X, xI X)) (ci := ci) (v := v) (ty := tyK ci fk) (C := C) (T := T) (N := N) h.1 h.2.1 h.2.2.2.2.1 (u_all ci _ hcz) (tyK ci) (ty_all ci _ hcz) (nm_all ci _ hcz) h.2.2.2.1 h.2.2.2.2.2.1.1 hP hD hS q0 he hcz fk hk (h.2.2.2.2.1 _ w1) (fun _ h9 => h9) hfin hin hdc (ty_all ci _ hcz fk hk) hn hf hl hd (fun H1 locs1 hP1 hD1 hS1 => kk H1 locs1 lsa hP1 hD1 hS1 hL)
theorem kg_get (h : KC X cc own) {index ci q0 fk a : Nat} {C : String} {T : u_T} {N : Nat} {fs : List Value} (v : Value) (hcz : vwCl[ci]? = some (C, T, N)) (he : ws[q0]? = some (a, .inr (ci, fs))) (hk : fk < N) (hd : decode cc pc = .ok (.getfield index, 3)) (w1 : Cond.fieldLink own index (T fk).1 (T fk).2.1 (T fk).2.2.1 ∈ wsC) (hv : fs[fk]? = some v)
    (kk : KG X A Q (pc + 3) ls (v :: st) ws n k) : KG X A Q pc ls (.ref a :: st) ws n k :=
  fun H locs lsa hP hD hS hL => va_get (D := (xC X, xI X)) (ci := ci) (C := C) (T := T) (N := N) h.1 h.2.1 h.2.2.2.2.1 (u_all ci _ hcz) h.2.2.2.1 h.2.2.2.2.2.1.1 hP q0 he hcz fk hk (h.2.2.2.2.1 _ w1) (fun _ h9 => h9) hv hd (kk H locs lsa hP hD hS hL)
theorem kg_iast (h : KC X cc own) {q0 a N j : Nat} {x y : Int32} {f : Nat → Int32} (he : ws[q0]? = some (a, .inl (xk X 0, N, .inl f))) (hin : vp_in y N) (hj : y.toNatClampNeg = j) (hd : decode cc pc = .ok (.iastore, 1)) (hws : ws.set q0 (a, .inl (xk X 0, N, .inl (upd f j x))) = ws')
    (kk : KG X A Q (pc + 1) ls st ws' n k) : KG X A Q pc ls (.int x :: .int y :: .ref a :: st) ws n k := by
  subst hws; subst hj
  exact fun H locs lsa hP hD hS hL => va_iast h.1 h.2.1 h.2.2.2.2.2.1.1 hP hD hS q0 0 he rfl hin hd (fun H1 locs1 hP1 hD1 hS1 => kk H1 locs1 lsa hP1 hD1 hS1 hL)
theorem kg_aast (h : KC X cc own) {q0 qk a t N j v ci : Nat} {C : String} {T : u_T} {N2 : Nat} {y : Int32} {f : Nat → Option Nat} {vs : List Value} (hcz : vwCl[ci]? = some (C, T, N2)) (ht : (tysM (xk X))[t]? = some (xk X t, .object C)) (he : ws[q0]? = some (a, .inl (xk X t, N, .inr (.inr (.inr (.inr f)))))) (hv : ws[qk]? = some (v, .inr (ci, vs))) (hin : vp_in y N) (hj : y.toNatClampNeg = j) (hd : decode cc pc = .ok (.aastore, 1)) (hws : ws.set q0 (a, .inl (xk X t, N, .inr (.inr (.inr (.inr (va_up f j (some v))))))) = ws')
    (kk : KG X A Q (pc + 1) ls st ws' n k) : KG X A Q pc ls (.ref v :: .int y :: .ref a :: st) ws n k := by
  subst hws; subst hj
  exact fun H locs lsa hP hD hS hL => va_astq h.1 h.2.1 h.2.2.2.2.2.1.1 hP hD hS q0 t qk ci he ht hv hcz hin hd (fun H1 locs1 hP1 hD1 hS1 => kk H1 locs1 lsa hP1 hD1 hS1 hL)
theorem kg_widen {n' k' : Nat} (h1 : n ≤ n') (h2 : k ≤ k') (kk : KG X A Q pc ls st ws n' k') : KG X A Q pc ls st ws n k :=
  fun H locs lsa hP hD hS hL => W.widen h1 h2 (kk H locs lsa hP hD hS hL)
end KROWS
