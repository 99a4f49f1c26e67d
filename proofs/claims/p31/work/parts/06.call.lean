/-! ===== a method's contract ===== -/
variable {ph : Bool}
abbrev puI (x : Int32) : ASt := [.inl x]
abbrev puL (x : Int64) : ASt := [.inr (.inl x)]
abbrev puV (_ : Unit) : ASt := []
def rmd (d : Nat) : Room := { frames := d, cells := 0, slots := 0, locals := 40 * d }
def McQ (Z : ZT) (pu : ASt) (m' : Mem) : Array Value → State → Outcome → State → Prop := fun _ st oc t =>
  oc = .returned (pu.map (cv (zA Z))).head? ∧ va_P (zC Z, zI Z) vwCl (wsM (zV Z) (zA Z) (zk Z) m') t.heap ∧ va_F (frA (zV Z) (zA Z)) st t
def McP (Z : ZT) (as : ASt) (m : Mem) : Array Value → State → Prop := va_Pc (as.map (cv (zA Z))) (fun U => va_P (zC Z, zI Z) vwCl (wsM (zV Z) (zA Z) (zk Z) m) U.heap ∧ va_K (zC Z, zI Z) vwCl (tysM (zk Z)) U ∧ (∀ w ∈ nestC, va_Nw w U) ∧ injA (zV Z) (zA Z) ∧ SX Z U)
/-- y, called with 'as' where the memory is m, returns what o says -/
def Ctr (Z : ZT) (y : MethodName) (cc : ByteArray) (maxL : Nat) (ret : Option FieldType) (d : Nat) {ρ : Type} (pu : ρ → ASt) (as : ASt) (m : Mem) (o : Option (ρ × Mem)) : Prop :=
  okS (zV Z) as → ∀ r m', o = some (r, m') → Met (zl Z) y (.code y cc maxL ret :: wsC) (rmd d) (McP Z as m) (McQ Z (pu r) m') 0 0 (frA (zV Z) (zA Z))
theorem nest_on {w : Cond} (h : w ∈ nestC) : w.onTables = true ∧ ∃ a i b hh, w = .methodLinkNest a i b hh := by
  have h2 := (List.mem_filter.mp h).2
  cases w <;> first | exact ⟨rfl, _, _, _, _, rfl⟩ | cases h2
theorem SX.moved {Z : ZT} {u U : State} (hvm : u.vm.Alike U.vm) (hh : U.heap = u.heap) (h : SX Z u) : SX Z U := by
  obtain ⟨h1, h2, h3⟩ := h
  refine ⟨?_, by rw [hh]; exact h2, h3⟩
  rw [hh]
  exact h1.moved hvm
theorem McP_blind {Z : ZT} {as : ASt} {m : Mem} : FrameBlind (McP Z as m) := by
  intro a U g mk q
  obtain ⟨q0, q1, q2, q3, q4, q5⟩ := q
  exact ⟨q0, q1, va_K.moved (u := U) (U := U.calling g mk a) (Vm.Alike.refl U.vm) q2, fun w hw => va_Nw.same (u := U) (U := U.calling g mk a) (nest_on hw).1 rfl (q3 w hw), q4, SX.moved (u := U) (U := U.calling g mk a) (Vm.Alike.refl U.vm) rfl q5⟩
theorem McP_of {s U : State} {Z : ZT} {as : ASt} {m : Mem} {H : Heap} {locs : List Loc} (hP : va_P (zC Z, zI Z) vwCl (wsM (zV Z) (zA Z) (zk Z) m) H) (hK : va_K (zC Z, zI Z) vwCl (tysM (zk Z)) s) (hN : ∀ w ∈ nestC, va_Nw w s) (hA : injA (zV Z) (zA Z) ∧ SX Z s) (hSt : va_S (frA (zV Z) (zA Z)) s.heap H locs) (hU : U.heap = H) (hW : s.WarmedH U.vm) {a : Array Value} (ha : a = (as.map (cv (zA Z))).toArray) : McP Z as m a U := by
  refine ⟨ha, by rw [hU]; exact hP, va_K.moved hW.alike hK, fun w hw => ?_, hA.1, ?_⟩
  · obtain ⟨-, a, i, b, hh, rfl⟩ := nest_on hw
    exact va_Nw.warmM hW (hN _ hw)
  · obtain ⟨h1, h2, h3⟩ := hA.2
    refine ⟨?_, by rw [hU]; exact Nat.lt_of_lt_of_le h2 hSt.1, h3⟩
    rw [hU]
    exact (h1.kept (hSt.2.1 _ h2 h3)).moved hW.alike
theorem wsC_good {w : Cond} (h : w ∈ wsC) : (w.onTables && w.keeps) = true ∨ ∃ ty, w = .arrayClass ty := good_of_word (List.mem_filter.mp h).2
/-- the words of a call: the callee's code, its class, how it's linked -/
def vOk (own : String) (index : Nat) (C : String) (y : MethodName) (bytes : ByteArray) (maxL : Nat) (ret : Option FieldType) (n : Nat) : Prop :=
  Cond.methodLink own index y ∈ wsC ∧ Cond.instanceMethod y ∈ wsC ∧ Cond.selects C y y ∈ wsC ∧ Cond.initialized C ∈ wsC ∧ Cond.code y bytes maxL ret ∈ wsC ∧ (y.cls = C ∧ y.cls ≠ "java/lang/invoke/MethodHandle" ∧ y.cls ≠ "java/lang/invoke/VarHandle" ∧ (parseMethodDescriptor y.desc).map (fun d => d.parameters.length) = some n)
def sOk (own : String) (index : Nat) (y : MethodName) (bytes : ByteArray) (maxL : Nat) (ret : Option FieldType) (n : Nat) : Prop :=
  Cond.methodLink own index y ∈ wsC ∧ Cond.static y ∈ wsC ∧ Cond.initialized y.cls ∈ wsC ∧ Cond.code y bytes maxL ret ∈ wsC ∧ (y.cls ≠ "java/lang/invoke/MethodHandle" ∧ y.cls ≠ "java/lang/invoke/VarHandle" ∧ (parseMethodDescriptor y.desc).map (fun d => d.parameters.length) = some n)
def nOk (own : String) (index : Nat) (host : String) (y : MethodName) (bytes : ByteArray) (maxL : Nat) (ret : Option FieldType) (n : Nat) : Prop :=
  Cond.methodLinkNest own index y host ∈ nestC ∧ Cond.static y ∈ wsC ∧ Cond.initialized y.cls ∈ wsC ∧ Cond.code y bytes maxL ret ∈ wsC ∧ (y.cls ≠ "java/lang/invoke/MethodHandle" ∧ y.cls ≠ "java/lang/invoke/VarHandle" ∧ (parseMethodDescriptor y.desc).map (fun d => d.parameters.length) = some n)
theorem good_ws {y : MethodName} {bytes : ByteArray} {maxL : Nat} {ret : Option FieldType} (h : Cond.code y bytes maxL ret ∈ wsC) : GoodIn wsC (.code y bytes maxL ret :: wsC) := by
  intro w hw
  rcases List.mem_cons.mp hw with rfl | hw
  · exact ⟨h, wsC_good h⟩
  · exact ⟨hw, wsC_good hw⟩
def catS : ASt → Nat
  | [] => 0
  | .inr (.inl _) :: r => 2 + catS r
  | _ :: r => 1 + catS r
theorem catS_eq {A : AR → Nat} : ∀ (st : ASt), ((st.map (cv A)).map fun v => v.category).sum = catS st
  | [] => rfl
  | .inl x :: r => by simp only [List.map_cons, List.sum_cons, catS_eq r]; rfl
  | .inr (.inl x) :: r => by simp only [List.map_cons, List.sum_cons, catS_eq r]; rfl
  | .inr (.inr x) :: r => by simp only [List.map_cons, List.sum_cons, catS_eq r]; rfl
theorem gg_run {X : XT} {Q : State → Prop} {pc : Nat} {ls : ALs} {st rest pu : ASt} {m' : Mem} {a : Array Value} {H : Heap} {locs : List Loc} {lsa : Array Slot}
    (hr : va_Run (xp X) (xl X) (xe X) (xR X) (xs X) (xm X) (xa X) (xb X) (xM X) (xc X) H locs (xcl X) (xsl X) 0 0 (F0 (xm X) pc lsa (st.map (cv (xA X)))) (rest.map (cv (xA X))) (McQ (xZ X) pu m' a) (frA (xV X) (xA X)))
    (hS : va_S (frA (xV X) (xA X)) (xs X).heap H locs) (hl : lhas (xA X) (xn X) lsa ls) (hpu : pu.length ≤ 1) (hok : okS (xV X) (pu ++ rest)) (hL : okL (xV X) ls) (kk : GG X Q (pc + 3) ls (pu ++ rest) m') : xW X Q H locs (F0 (xm X) pc lsa (st.map (cv (xA X)))) := by
  intro T hT Xs
  obtain ⟨v, st₀, t, T', L, h0, X', hLf, e1, e2, ⟨hv, hP, hz, hk⟩, step⟩ := hr T hT Xs
  cases hv
  rw [h0] at hz hk
  have hst : (pu.map (cv (xA X))).head?.toList ++ rest.map (cv (xA X)) = (pu ++ rest).map (cv (xA X)) := by
    match pu, hpu with
    | [], _ => rfl
    | [x], _ => rfl
  obtain ⟨t2, a1, b1⟩ := kk hok hL T'.heap (locs ++ L) lsa (by rw [e1]; exact hP)
    ⟨Nat.le_trans hS.1 (by rw [e1]; exact hz), fun q h1 h2 => by rw [e1, hk q (Nat.lt_of_lt_of_le h1 hS.1) h2]; exact hS.2.1 q h1 h2, fun q hq => by
      rcases List.mem_append.mp hq with h | h
      · exact hS.2.2 q h
      · exact hLf q h⟩ hl T' rfl X'
  refine ⟨t2, step t2 ?_, b1⟩
  rw [← hst] at a1
  exact a1
section GCALL
variable {X : XT} {cc : ByteArray} {P : PT} {ρ σ : Type} {E : σ → Mem → State → Prop} {pc index d maxL n : Nat} {ls : ALs} {m : Mem} {rest as : ASt} {pu : ρ → ASt} {oy : Option (ρ × Mem)} {k : ρ → Mem → Option (σ × Mem)} {y : MethodName} {bytes : ByteArray} {ret : Option FieldType} {C host : String}
theorem bnd_eq {oy : Option (ρ × Mem)} {k : ρ → Mem → Option (σ × Mem)} {q : σ × Mem} (h : bnd oy k = some q) : ∃ r m1, oy = some (r, m1) ∧ k r m1 = some q := by
  cases oy with
  | none => cases h
  | some z => exact ⟨z.1, z.2, rfl, h⟩
theorem ok_app {a b : ASt} (ha : okS ph a) (hb : okS ph b) : okS ph (a ++ b) := fun v hv => (List.mem_append.mp hv).elim (ha v) (hb v)
theorem ok_appl {a b : ASt} (h : okS ph (a ++ b)) : okS ph a := fun v hv => h v (List.mem_append_left _ hv)
theorem ok_appr {a b : ASt} (h : okS ph (a ++ b)) : okS ph b := fun v hv => h v (List.mem_append_right _ hv)
theorem go_callV (hC : GC X cc P) {t i ci nf : Nat} {cz : vw_C} (hct : Ctr (xZ X) y bytes maxL ret d pu (.inr (.inr (t, i)) :: as) m oy) (hd : decode cc pc = .ok (.invokevirtual index, 3)) (hcz : vwCl[ci]? = some cz) (hsh : sh_cls t = some (ci, nf)) (hw : vOk P.1 index cz.1 y bytes maxL ret n) (hn : as.length = n)
    (hR : d + 1 ≤ (xR X).frames ∧ 8 + (maxL + 11) + 40 * d ≤ (xR X).locals) (hcl : xcl X ≤ (xR X).cells ∧ xsl X ≤ (xR X).slots) (hcat : catS rest ≤ 8) (hpu : ∀ r, (pu r).length ≤ 1 ∧ okS (xV X) (pu r)) {st : ASt} (hst : st = as.reverse ++ .inr (.inr (t, i)) :: rest)
    (kk : ∀ r m1, oy = some (r, m1) → Go X E (pc + 3) ls (pu r ++ rest) m1 (k r m1)) : Go X E pc ls st m (bnd oy k) := by
  intro q m2 h hS hL H locs lsa hP hSt hl
  obtain ⟨r, m1, e1, e2⟩ := bnd_eq h
  subst hst
  obtain ⟨w1, w2, w3, w4, w5, w6⟩ := hw
  have hrest := ok_appr hS
  have hq : (t, i) ∈ vrefs (xV X) := ok_cls (okS_cons.mp hrest).1 hsh
  have has : okS (xV X) (.inr (.inr (t, i)) :: as) := okT (okS_cons.mp hrest).1 (fun v hv => ok_appl hS v (List.mem_reverse.mpr hv))
  obtain ⟨q0, hq0, hwm⟩ := wsM_at (ph := xV X) (A := xA X) (cs := xk X) (m := m) hq
  rw [cellOf_obj (k := 0) hsh] at hwm
  have hts := hC.2.2.2.2.1
  have hG : GoodIn wsC (wsV P.1 index cz.1 y (.code y bytes maxL ret :: wsC)) := by
    intro w hw
    unfold wsV at hw
    rcases List.mem_append.mp hw with h1 | h1
    · simp only [List.mem_cons, List.not_mem_nil, or_false] at h1
      rcases h1 with rfl | rfl | rfl | rfl
      · exact ⟨w1, wsC_good w1⟩
      · exact ⟨w2, wsC_good w2⟩
      · exact ⟨w3, wsC_good w3⟩
      · exact ⟨w4, wsC_good w4⟩
    · exact good_ws w5 w h1
  refine gg_run (m' := m1) (a := (Value.ref (xA X (t, i)) :: as.map (cv (xA X))).toArray) (va_runV (As := as.map (cv (xA X))) (b := xA X (t, i)) ⟨hC.1, hC.2.1, hC.2.2.1, hC.2.2.2.1, hts⟩ (hct has r m1 e1) (cwV n hts hG rfl rfl rfl w6 hR) ⟨McP_blind, va_recv hC.2.2.2.2.2.2.1 hP hcz hwm, fun U hU hW => McP_of hP hC.2.2.2.2.2.2.1 hC.2.2.2.2.2.1 hC.2.2.2.2.2.2.2.1 hSt hU hW rfl⟩ rfl (by simpa using hn) hl.1 ?_ (lv_room (by rw [catS_eq]; exact hcat)) hd hcl) hSt hl (hpu r).1 (ok_app (hpu r).2 (ok1 hrest)) hL (kk r m1 e1 q m2 e2)
  simp [cv]
theorem go_callS (hC : GC X cc P) (hct : Ctr (xZ X) y bytes maxL ret d pu as m oy) (hd : decode cc pc = .ok (.invokestatic index, 3)) (hw : sOk P.1 index y bytes maxL ret n) (hn : as.length = n)
    (hR : d + 1 ≤ (xR X).frames ∧ 8 + (maxL + 11) + 40 * d ≤ (xR X).locals) (hcl : xcl X ≤ (xR X).cells ∧ xsl X ≤ (xR X).slots) (hcat : catS rest ≤ 8) (hpu : ∀ r, (pu r).length ≤ 1 ∧ okS (xV X) (pu r)) {st : ASt} (hst : st = as.reverse ++ rest)
    (kk : ∀ r m1, oy = some (r, m1) → Go X E (pc + 3) ls (pu r ++ rest) m1 (k r m1)) : Go X E pc ls st m (bnd oy k) := by
  intro q m2 h hS hL H locs lsa hP hSt hl
  obtain ⟨r, m1, e1, e2⟩ := bnd_eq h
  subst hst
  obtain ⟨w1, w2, w3, w4, w5⟩ := hw
  have hrest := ok_appr hS
  have has : okS (xV X) as := fun v hv => ok_appl hS v (List.mem_reverse.mpr hv)
  have hts := hC.2.2.2.2.1
  refine gg_run (m' := m1) (a := (as.map (cv (xA X))).toArray) (va_runS (As := as.map (cv (xA X))) ⟨hC.1, hC.2.1, hC.2.2.1, hC.2.2.2.1, hts⟩ (hct has r m1 e1) ⟨callB_of n hts (good_ws w4) rfl rfl rfl (hts _ w3) (hts _ w1) w5 hR, hts _ w2⟩ ⟨McP_blind, fun U hU hW => McP_of hP hC.2.2.2.2.2.2.1 hC.2.2.2.2.2.1 hC.2.2.2.2.2.2.2.1 hSt hU hW rfl⟩ rfl (by simpa using hn) hl.1 ?_ (lv_room (by rw [catS_eq]; exact hcat)) hd hcl) hSt hl (hpu r).1 (ok_app (hpu r).2 hrest) hL (kk r m1 e1 q m2 e2)
  simp [cv]
theorem go_callN (hC : GC X cc P) (hct : Ctr (xZ X) y bytes maxL ret d pu as m oy) (hd : decode cc pc = .ok (.invokestatic index, 3)) (hw : nOk P.1 index host y bytes maxL ret n) (hn : as.length = n)
    (hR : d + 1 ≤ (xR X).frames ∧ 8 + (maxL + 11) + 40 * d ≤ (xR X).locals) (hcl : xcl X ≤ (xR X).cells ∧ xsl X ≤ (xR X).slots) (hcat : catS rest ≤ 8) (hpu : ∀ r, (pu r).length ≤ 1 ∧ okS (xV X) (pu r)) {st : ASt} (hst : st = as.reverse ++ rest)
    (kk : ∀ r m1, oy = some (r, m1) → Go X E (pc + 3) ls (pu r ++ rest) m1 (k r m1)) : Go X E pc ls st m (bnd oy k) := by
  intro q m2 h hS hL H locs lsa hP hSt hl
  obtain ⟨r, m1, e1, e2⟩ := bnd_eq h
  subst hst
  obtain ⟨w1, w2, w3, w4, w5⟩ := hw
  have hrest := ok_appr hS
  have has : okS (xV X) as := fun v hv => ok_appl hS v (List.mem_reverse.mpr hv)
  have hts := hC.2.2.2.2.1
  refine gg_run (m' := m1) (a := (as.map (cv (xA X))).toArray) (va_runSN (As := as.map (cv (xA X))) ⟨hC.1, hC.2.1, hC.2.2.1, hC.2.2.2.1, hts⟩ (hct has r m1 e1) ⟨va_cnB n hts (good_ws w4) rfl rfl rfl (hC.2.2.2.2.2.1 _ w1) (hts _ w3) w5 hR, hts _ w2, trivial⟩ ⟨McP_blind, fun U hU hW => McP_of hP hC.2.2.2.2.2.2.1 hC.2.2.2.2.2.1 hC.2.2.2.2.2.2.2.1 hSt hU hW rfl⟩ rfl (by simpa using hn) hl.1 ?_ (lv_room (by rw [catS_eq]; exact hcat)) hd hcl) hSt hl (hpu r).1 (ok_app (hpu r).2 hrest) hL (kk r m1 e1 q m2 e2)
  simp [cv]
end GCALL
/-! ===== a method's end, its start ===== -/
def Em (X : XT) {ρ : Type} (pu : ρ → ASt) (r : ρ) (m' : Mem) : State → Prop := MQ (xb X) (McQ (xZ X) (pu r) m') (xa X) (xs X) (xcl X) (xsl X) (frA (xV X) (xA X))
section GRET
variable {X : XT} {cc : ByteArray} {P : PT} {pc : Nat} {ls : ALs} {m : Mem}
theorem go_iret (hC : GC X cc P) (hr : (xM X).sig.returnType = some .int) {v : Int32} (hd : decode cc pc = .ok (.ireturn, 1)) : Go X (Em X puI) pc ls [.inl v] m (some (v, m)) := by
  intro r m2 h hS hL H locs lsa hP hSt hl
  cases h
  exact W.iret (v := v) hC.1 hC.2.1 hr (fun t ht hW => ⟨rfl, by rw [ht]; exact hP, hSt.F ht⟩) hSt.2.2 hd hC.2.2.2.2.2.2.2.2.1
theorem go_zret (hC : GC X cc P) (hr : (xM X).sig.returnType = some .boolean) {v : Int32} (hv : v = 0 ∨ v = 1) (hd : decode cc pc = .ok (.ireturn, 1)) : Go X (Em X puI) pc ls [.inl v] m (some (v, m)) := by
  intro r m2 h hS hL H locs lsa hP hSt hl
  cases h
  refine W.zret (v := v) (ty := .boolean) hC.1 hC.2.1 hr ?_ (fun t ht hW => ⟨rfl, by rw [ht]; exact hP, hSt.F ht⟩) hSt.2.2 hd hC.2.2.2.2.2.2.2.2.1
  rcases hv with rfl | rfl <;> rfl
theorem go_zretG (hC : GC X cc P) (hr : (xM X).sig.returnType = some .boolean) {v : Int32} (hd : decode cc pc = .ok (.ireturn, 1)) : Go X (Em X puI) pc ls [.inl v] m (if v = 0 ∨ v = 1 then some (v, m) else none) := by
  intro r m2 h
  split at h
  case isFalse => cases h
  rename_i hv
  exact go_zret hC hr hv hd r m2 h
theorem go_lret (hC : GC X cc P) (hr : (xM X).sig.returnType = some .long) {v : Int64} (hd : decode cc pc = .ok (.lreturn, 1)) : Go X (Em X puL) pc ls [.inr (.inl v)] m (some (v, m)) := by
  intro r m2 h hS hL H locs lsa hP hSt hl
  cases h
  exact W.lret (v := v) hC.1 hC.2.1 hr (fun t ht hW => ⟨rfl, by rw [ht]; exact hP, hSt.F ht⟩) hSt.2.2 hd hC.2.2.2.2.2.2.2.2.1
theorem go_vret (hC : GC X cc P) (hr : (xM X).sig.returnType = none) (hd : decode cc pc = .ok (.return_, 1)) : Go X (Em X puV) pc ls [] m (some ((), m)) := by
  intro r m2 h hS hL H locs lsa hP hSt hl
  cases h
  exact W.vret hC.1 hC.2.1 hr (fun t ht hW => ⟨rfl, by rw [ht]; exact hP, hSt.F ht⟩) hSt.2.2 hd hC.2.2.2.2.2.2.2.2.1
end GRET
def entL : ASt → ALs
  | [] => []
  | .inr (.inl x) :: r => some (.inr (.inl x)) :: none :: entL r
  | v :: r => some v :: entL r
def padL (n : Nat) (l : ALs) : ALs := l ++ List.replicate (n - l.length) none
theorem entL_len {A : AR → Nat} : ∀ (as : ASt), (lg_sl (as.map (cv A))).length = (entL as).length
  | [] => rfl
  | .inl x :: r => by have h := entL_len (A := A) r; simp only [lg_sl, List.map_cons, List.flatMap_cons, entL, List.length_append, List.length_cons] at h ⊢; rw [h]; simp [cv, Value.category]; omega
  | .inr (.inl x) :: r => by have h := entL_len (A := A) r; simp only [lg_sl, List.map_cons, List.flatMap_cons, entL, List.length_append, List.length_cons] at h ⊢; rw [h]; simp [cv, Value.category]; omega
  | .inr (.inr x) :: r => by have h := entL_len (A := A) r; simp only [lg_sl, List.map_cons, List.flatMap_cons, entL, List.length_append, List.length_cons] at h ⊢; rw [h]; simp [cv, Value.category]; omega
theorem entL_at {A : AR → Nat} : ∀ (as : ASt) (i k : Nat) (v : AV), (entL as)[k]? = some (some v) → (i + k, cv A v) ∈ lv_args i (as.map (cv A))
  | [], i, k, v, h => by simp [entL] at h
  | .inl x :: r, i, k, v, h => by
    simp only [List.map_cons, lv_args]
    cases k with
    | zero => simp only [entL, List.getElem?_cons_zero] at h; cases h; exact List.mem_cons_self
    | succ k => simp only [entL, List.getElem?_cons_succ] at h; have := entL_at (A := A) r (i + 1) k v h; refine List.mem_cons_of_mem _ ?_; simpa [cv, Value.category, Nat.add_assoc, Nat.add_comm 1 k] using this
  | .inr (.inl x) :: r, i, k, v, h => by
    simp only [List.map_cons, lv_args]
    cases k with
    | zero => simp only [entL, List.getElem?_cons_zero] at h; cases h; exact List.mem_cons_self
    | succ k => cases k with
      | zero => simp [entL] at h
      | succ k => simp only [entL, List.getElem?_cons_succ] at h; have := entL_at (A := A) r (i + 2) k v h; refine List.mem_cons_of_mem _ ?_; simpa [cv, Value.category, Nat.add_assoc, Nat.add_comm 2 k] using this
  | .inr (.inr x) :: r, i, k, v, h => by
    simp only [List.map_cons, lv_args]
    cases k with
    | zero => simp only [entL, List.getElem?_cons_zero] at h; cases h; exact List.mem_cons_self
    | succ k => simp only [entL, List.getElem?_cons_succ] at h; have := entL_at (A := A) r (i + 1) k v h; refine List.mem_cons_of_mem _ ?_; simpa [cv, Value.category, Nat.add_assoc, Nat.add_comm 1 k] using this
theorem okL_ent : ∀ (as : ASt), okS ph as → okL ph (entL as)
  | [], _ => fun v h => by cases h
  | .inl x :: r, h => fun v hv => by
    rcases List.mem_cons.mp hv with h1 | h1
    · cases h1; trivial
    · exact okL_ent r (ok1 h) v h1
  | .inr (.inl x) :: r, h => fun v hv => by
    rcases List.mem_cons.mp hv with h1 | h1
    · cases h1; trivial
    · rcases List.mem_cons.mp h1 with h2 | h2
      · cases h2
      · exact okL_ent r (ok1 h) v h2
  | .inr (.inr x) :: r, h => fun v hv => by
    rcases List.mem_cons.mp hv with h1 | h1
    · cases h1; exact (okS_cons.mp h).1
    · exact okL_ent r (ok1 h) v h1
theorem ctr_of {Z : ZT} {y : MethodName} {cc : ByteArray} {maxL d : Nat} {ret : Option FieldType} {ρ : Type} {pu : ρ → ASt} {as : ASt} {m : Mem} {o : Option (ρ × Mem)} {P : PT} {ls : ALs}
    (hy : plainName y.cls = true) (hown : P.1 = y.cls) (hP : ptOk P) (hlen : Nat.ble (entL as).length maxL = true) (hls : padL maxL (entL as) = ls)
    (body : ∀ X : XT, GC X cc P → xZ X = Z → xR X = rmd d → xcl X = 0 → xsl X = 0 → (xM X).sig.returnType = ret → Go X (Em X pu) 0 ls [] m o) : Ctr Z y cc maxL ret d pu as m o := by
  intro hok r m' ho
  refine Met.ofW (cc := cc) (maxL := maxL) (ret := ret) hy rfl ?_
  intro p e s mi args below meth c s₁ B hml hv
  obtain ⟨rfl, hPw, hK, hN, hA⟩ := hv
  obtain ⟨l, A, dC, dI, cs, ph, L, xsc⟩ := Z
  have hts := atoms_spec (ws := .code y cc maxL ret :: wsC) B.pre
  have hfc : s.vm.findClass y.cls = some mi.cls := findClass_of_methodNamed B.named
  rw [lg_entry_eq]
  have hle : (lg_sl (as.map (cv A))).length ≤ maxL := by rw [entL_len]; exact Nat.le_of_ble_eq_true hlen
  have hl := lv_entry (as.map (cv A)) (n := maxL) hle
  have hlh : lhas A maxL ((lg_sl (as.map (cv A)) ++ List.replicate (maxL - (lg_sl (as.map (cv A))).length) Slot.unset).toArray) ls := by
    subst hls
    refine ⟨hl.1, ?_, hl.2.1, fun k v hk => ?_⟩
    · have := Nat.le_of_ble_eq_true hlen
      simp [padL]; omega
    · unfold padL at hk
      by_cases h1 : k < (entL as).length
      · rw [List.getElem?_append_left h1] at hk
        have := entL_at (A := A) as 0 k v hk
        rw [Nat.zero_add] at this
        exact hl.2.2 _ this
      · rw [List.getElem?_append_right (Nat.not_lt.mp h1), List.getElem?_replicate] at hk
        split at hk <;> cases hk
  have hokl : okL ph ls := by
    subst hls
    intro v hv
    rcases List.mem_append.mp hv with h1 | h1
    · exact okL_ent as hok v h1
    · exact absurd (List.eq_of_mem_replicate h1) (by intro q; cases q)
  have hgc : GC (p, e, rmd d, s, mi, (as.map (cv A)).toArray, below, meth, c, (l, A, dC, dI, cs, ph, L, xsc), 0, 0, maxL) cc P :=
    ⟨B.exec, B.bytes, hml, by show s.vm.findClass P.1 = _; rw [hown]; exact hfc, fun w hw => hts w (List.mem_cons_of_mem _ hw), hN, hK, hA, B.notSynchronized, hP⟩
  exact body _ hgc rfl rfl rfl rfl B.returns r m' ho (fun v h => by cases h) hokl s.heap [] _ hPw va_S.rf hlh
/-! ===== what every piece of a method takes ===== -/
def MX (X : XT) (cc : ByteArray) (P : PT) (D : Nat) (ret : Option FieldType) : Prop := GC X cc P ∧ xR X = rmd D ∧ xcl X = 0 ∧ xsl X = 0 ∧ (xM X).sig.returnType = ret
theorem MX.room {X : XT} {cc : ByteArray} {P : PT} {D : Nat} {ret : Option FieldType} (h : MX X cc P D ret) {d maxL : Nat} (h1 : d + 1 ≤ D) (h2 : maxL ≤ 21) : d + 1 ≤ (xR X).frames ∧ 8 + (maxL + 11) + 40 * d ≤ (xR X).locals := by
  rw [h.2.1]
  show d + 1 ≤ D ∧ 8 + (maxL + 11) + 40 * d ≤ 40 * D
  omega
theorem MX.cl {X : XT} {cc : ByteArray} {P : PT} {D : Nat} {ret : Option FieldType} (h : MX X cc P D ret) : xcl X ≤ (xR X).cells ∧ xsl X ≤ (xR X).slots := by
  rw [h.2.2.1, h.2.2.2.1]
  exact ⟨Nat.zero_le _, Nat.zero_le _⟩
theorem puI_ok : ∀ r, (puI r).length ≤ 1 ∧ okS ph (puI r) := fun r => ⟨Nat.le_refl _, fun v hv => by rw [List.mem_singleton.mp hv]; trivial⟩
theorem puL_ok : ∀ r, (puL r).length ≤ 1 ∧ okS ph (puL r) := fun r => ⟨Nat.le_refl _, fun v hv => by rw [List.mem_singleton.mp hv]; trivial⟩
theorem puV_ok : ∀ r, (puV r).length ≤ 1 ∧ okS ph (puV r) := fun r => ⟨Nat.zero_le _, fun v hv => by cases hv⟩
theorem wsC_at {w : Cond} (i : Nat) (h : lw_tbl[i]? = some w) (hg : goodWord w = true) : w ∈ wsC := List.mem_filter.mpr ⟨List.mem_of_getElem? h, hg⟩
/-! ===== the JDK's own: max, min ===== -/
section GJ
variable {X : XT} {cc : ByteArray} {P : PT} {ρ : Type} {E : ρ → Mem → State → Prop} {pc D : Nat} {ret : Option FieldType} {ls : ALs} {m : Mem} {o : Option (ρ × Mem)} {rest : ASt} {index : Nat}
theorem go_max (h : MX X cc P D ret) (hD : 1 ≤ D) {x y : Int32} (hd : decode cc pc = .ok (.invokestatic index, 3)) (w1 : Cond.methodLink P.1 index Lib.Math.max.name ∈ wsC) (w2 : Cond.static Lib.Math.max.name ∈ wsC) (w3 : Cond.initialized "java/lang/Math" ∈ wsC) (w4 : Cond.code Lib.Math.max.name Lib.Math.max.code 2 (some .int) ∈ wsC) (hcat : catS rest ≤ 8)
    (kk : Go X E (pc + 3) ls (.inl (if x < y then y else x) :: rest) m o) : Go X E pc ls (.inl y :: .inl x :: rest) m o := by
  intro r m2 ho hS hL H locs lsa hP hSt hl
  have hts := h.1.2.2.2.2.1
  refine va_mmax h.1.1 h.1.2.1 (h.1.2.2.1.trans hl.1.symm) h.1.2.2.2.1 (hts _ w1) (hts _ w2) (hts _ w3) (hts _ w4) ?_ ?_ h.cl.1 h.cl.2 hd (kk r m2 ho (okT trivial (ok2 hS)) hL H locs lsa hP hSt hl)
  · rw [h.2.1]; exact hD
  · rw [h.2.1, catS_eq]; show catS rest + 13 ≤ 40 * D; omega
theorem go_min (h : MX X cc P D ret) (hD : 1 ≤ D) {x y : Int32} (hd : decode cc pc = .ok (.invokestatic index, 3)) (w1 : Cond.methodLink P.1 index Lib.Math.min.name ∈ wsC) (w2 : Cond.static Lib.Math.min.name ∈ wsC) (w3 : Cond.initialized "java/lang/Math" ∈ wsC) (w4 : Cond.code Lib.Math.min.name Lib.Math.min.code 2 (some .int) ∈ wsC) (hcat : catS rest ≤ 8)
    (kk : Go X E (pc + 3) ls (.inl (if y < x then y else x) :: rest) m o) : Go X E pc ls (.inl y :: .inl x :: rest) m o := by
  intro r m2 ho hS hL H locs lsa hP hSt hl
  have hts := h.1.2.2.2.2.1
  refine va_mmin h.1.1 h.1.2.1 (h.1.2.2.1.trans hl.1.symm) h.1.2.2.2.1 (hts _ w1) (hts _ w2) (hts _ w3) (hts _ w4) ?_ ?_ h.cl.1 h.cl.2 hd (kk r m2 ho (okT trivial (ok2 hS)) hL H locs lsa hP hSt hl)
  · rw [h.2.1]; exact hD
  · rw [h.2.1, catS_eq]; show catS rest + 13 ≤ 40 * D; omega
end GJ
/-! ===== switches ===== -/
section GSW
variable {X : XT} {cc : ByteArray} {P : PT} {ρ : Type} {E : ρ → Mem → State → Prop} {pc len : Nat} {ls : ALs} {m : Mem} {o : Option (ρ × Mem)} {rest : ASt} {x : Int32}
theorem go_tsIn (hC : GC X cc P) {dflt lo hi off : Int} {offs : Array Int} (v : Int32) (tgt : Nat) (hx : x = v) (hd : decode cc pc = .ok (.tableswitch dflt lo hi offs, len)) (h1 : ¬ v.toInt < lo ∧ ¬ hi < v.toInt) (ho : offs[(v.toInt - lo).toNat]? = some off) (ht : (pc : Int) + off = (tgt : Int)) (kk : Go X E tgt ls rest m o) : Go X E pc ls (.inl x :: rest) m o := by
  intro r m2 h hS hL H locs lsa hP hSt hl
  subst hx
  exact lv_tableIn hC.1 hC.2.1 hd h1.1 h1.2 ho ht (kk r m2 h (ok1 hS) hL H locs lsa hP hSt hl)
theorem sw_out {x : Int32} {lo hi : Int} {n : Nat} (hn : hi < lo + n) (h : ∀ j : Nat, j < n → ¬ x = Int32.ofInt (lo + j)) : x.toInt < lo ∨ hi < x.toInt := by
  by_cases h1 : x.toInt < lo
  · exact Or.inl h1
  by_cases h2 : hi < x.toInt
  · exact Or.inr h2
  refine absurd ?_ (h (x.toInt - lo).toNat (by omega))
  rw [show lo + ((x.toInt - lo).toNat : Int) = x.toInt by omega, Int32.ofInt_toInt]
theorem go_tsOut (hC : GC X cc P) {dflt lo hi : Int} {offs : Array Int} (tgt : Nat) (hd : decode cc pc = .ok (.tableswitch dflt lo hi offs, len)) (h1 : x.toInt < lo ∨ hi < x.toInt) (ht : (pc : Int) + dflt = (tgt : Int)) (kk : Go X E tgt ls rest m o) : Go X E pc ls (.inl x :: rest) m o := by
  intro r m2 h hS hL H locs lsa hP hSt hl
  exact lv_tableOut hC.1 hC.2.1 hd h1 ht (kk r m2 h (ok1 hS) hL H locs lsa hP hSt hl)
theorem go_ls (hC : GC X cc P) {dflt off : Int} {ps : Array (Int × Int)} (tgt : Nat) (hd : decode cc pc = .ok (.lookupswitch dflt ps, len)) (hp : (ps.toList.zip (ps.toList.drop 1)).all (fun (a, next) => a.1 < next.1) = true) (ho : Op.lookupswitch.offset ps.toList dflt x.toInt = off) (ht : (pc : Int) + off = (tgt : Int)) (kk : Go X E tgt ls rest m o) : Go X E pc ls (.inl x :: rest) m o := by
  intro r m2 h hS hL H locs lsa hP hSt hl
  exact lv_lookup hC.1 hC.2.1 hd hp ho ht (kk r m2 h (ok1 hS) hL H locs lsa hP hSt hl)
theorem go_lsIn (hC : GC X cc P) {dflt off : Int} {ps : Array (Int × Int)} (v : Int32) (tgt : Nat) (hx : x = v) (hd : decode cc pc = .ok (.lookupswitch dflt ps, len)) (hp : (ps.toList.zip (ps.toList.drop 1)).all (fun (a, next) => a.1 < next.1) = true) (ho : Op.lookupswitch.offset ps.toList dflt v.toInt = off) (ht : (pc : Int) + off = (tgt : Int)) (kk : Go X E tgt ls rest m o) : Go X E pc ls (.inl x :: rest) m o := by
  subst hx
  exact go_ls hC tgt hd hp ho ht kk
theorem toInt_ne {x v : Int32} (h : ¬ x = v) : ¬ x.toInt = v.toInt := fun q => h (Int32.toInt_inj.mp q)
end GSW
/-! ===== the script ===== -/
section GSC
variable {X : XT} {cc : ByteArray} {P : PT} {ρ : Type} {E : ρ → Mem → State → Prop} {pc : Nat} {ls : ALs} {m : Mem} {o : Option (ρ × Mem)} {rest : ASt}
theorem go_slen (hC : GC X cc P) (hd : decode cc pc = .ok (.arraylength, 1)) (kk : Go X E (pc + 1) ls (.inl (Int32.ofNat (xL X)) :: rest) m o) : Go X E pc ls (.inr (.inr (60, 0)) :: rest) m o := by
  intro r m2 ho hS hL H locs lsa hP hSt hl
  have h := hC.2.2.2.2.2.2.2.1.2
  exact va_slen hC.1 hC.2.1 h.1 h.2.1 h.2.2 hSt hd (kk r m2 ho (okT trivial (ok1 hS)) hL H locs lsa hP hSt hl)
theorem go_sld (hC : GC X cc P) {j : Int32} (hd : decode cc pc = .ok (.iaload, 1)) (kk : inB j (xL X) = true → Go X E (pc + 1) ls (.inl (xx X (ix j)) :: rest) m o) : Go X E pc ls (.inl j :: .inr (.inr (60, 0)) :: rest) m (if inB j (xL X) = true then o else none) := by
  intro r m2 ho hS hL H locs lsa hP hSt hl
  split at ho
  case isFalse => cases ho
  rename_i hin
  have h := hC.2.2.2.2.2.2.2.1.2
  exact va_sld hC.1 hC.2.1 h.1 h.2.1 h.2.2 hSt (inB_in hin).1 hd (kk hin r m2 ho (okT trivial (ok2 hS)) hL H locs lsa hP hSt hl)
end GSC
