/-! ===== constructors: a row of rows, a call, an end ===== -/
theorem mtop_arr (cA : ClassId) (h0 : Nat) : mtop cA h0 5 = vp_cell cA (5, .inr (.inr (.inr (.inr (fun j => if j < 5 then some (h0 + 1 + j) else none))))) := by
  rw [vp_cell_q]
  unfold mtop
  congr 1
  funext j
  by_cases c : j < 5
  · rw [if_pos c, if_pos c]; rfl
  · rw [if_neg c, if_neg c]; rfl
def sixW (X : XT) (q : Nat) : va_W := [(q, .inl (xk X 3, 5, .inr (.inr (.inr (.inr (fun j => if j < 5 then some (q + 1 + j) else none)))))), (q + 1, .inl (xk X 0, 5, .inl (fun _ => 0))), (q + 2, .inl (xk X 0, 5, .inl (fun _ => 0))), (q + 3, .inl (xk X 0, 5, .inl (fun _ => 0))), (q + 4, .inl (xk X 0, 5, .inl (fun _ => 0))), (q + 5, .inl (xk X 0, 5, .inl (fun _ => 0)))]
theorem sixW_at {X : XT} {q i : Nat} {x : Nat × va_E} (h : (sixW X q)[i]? = some x) : x.1 = q + i ∧ i < 6 := by
  have hl : i < 6 := (List.getElem?_eq_some_iff.mp h).1
  have : i = 0 ∨ i = 1 ∨ i = 2 ∨ i = 3 ∨ i = 4 ∨ i = 5 := by omega
  rcases this with rfl | rfl | rfl | rfl | rfl | rfl <;> (cases h; exact ⟨rfl, by omega⟩)
section KMNA
variable {X : XT} {cc : ByteArray} {own : String} {A : Nat → Prop} {Q : State → Prop} {pc : Nat} {ls : List (Nat × Value)} {st : List Value} {ws : va_W} {n k : Nat}
theorem kg_mna (h : KC X cc own) (hA : ∀ q, (xs X).heap.size ≤ q → A q) {index : Nat} (hd : decode cc pc = .ok (.multianewarray index 2, 4)) (w1 : Cond.classLink own index ("[" ++ (FieldType.array .int).toString) ∈ wsC) (w2 : Cond.arrayClass .int ∈ wsC) (hn : n + 6 ≤ (xR X).cells ∧ k + 30 ≤ (xR X).slots)
    (kk : ∀ q, KG X A Q (pc + 4) ls (.ref q :: st) (ws ++ sixW X q) (n + 6) (k + 30)) : KG X A Q pc ls (.int 5 :: .int 5 :: st) ws n k := by
  intro H locs lsa hP hD hS hL T hT X9
  have hK := h.2.2.2.2.2.1.1
  obtain ⟨vm₁, cA, comp, L, e1, e2, hLb, X', step⟩ := mna_run X9 h.1 (own := own) (index := index) h.2.2.2.1 (h.2.2.2.2.1 _ w1) h.2.2.2.2.2.1.2.1.2.2 (h.2.2.2.2.1 _ w2) (g := F0 (xm X) pc lsa (.int 5 :: .int 5 :: st)) rfl (by rw [h.2.1]; exact hd) (rest := st) rfl hn.1 hn.2
  have ea : cA = xk X 3 := by
    have h2 : (xs X).vm.findClass _ = some (xk X 3) := (hK.2 3 (xk X 3, .array .int) rfl).2
    exact Option.some.inj (e1.symm.trans h2)
  have ec : comp = xk X 0 := by
    have h2 : (xs X).vm.findClass ("[" ++ FieldType.int.toString) = some (xk X 0) := (hK.2 0 (xk X 0, .int) rfl).2
    have h3 : (FieldType.array .int).toString = "[" ++ FieldType.int.toString := by decide
    rw [h3] at e2
    exact Option.some.inj (e2.symm.trans h2)
  subst ea; subst ec
  obtain ⟨f1, f2, -, -, f3, f4⟩ := mst_is (T.setVm vm₁) (xk X 3) (xk X 0) 5
  have hTH : (T.setVm vm₁).heap = H := by show T.heap = H; exact hT
  have hTs : T.heap.size = H.size := by rw [hT]
  rw [hTH] at f1 f2
  simp only [hTH] at f3 f4
  rw [hTs] at step
  rw [mtop_arr] at f2
  have hin : mrow (xk X 0) = vp_cell (xk X 0) (5, .inl (fun _ => 0)) := rfl
  rw [hin] at f4
  generalize hF : mst (T.setVm vm₁) (xk X 3) (xk X 0) 5 = T' at f1 f2 f3 f4 X' step
  have hk : ∀ (i : Nat) (x : Nat × va_E), ws[i]? = some x → T'.heap[x.1]? = H[x.1]? := fun i x hx => f3 x.1 ((hP i x hx).lt)
  have hP6 : va_P (xC X, xI X) vwCl (sixW X H.size) T'.heap := by
    intro i x hx
    have hl := (sixW_at hx).2
    have : i = 0 ∨ i = 1 ∨ i = 2 ∨ i = 3 ∨ i = 4 ∨ i = 5 := by omega
    rcases this with rfl | rfl | rfl | rfl | rfl | rfl
    · cases hx; exact f2
    · cases hx; exact f4 0 (by omega)
    · cases hx; exact f4 1 (by omega)
    · cases hx; exact f4 2 (by omega)
    · cases hx; exact f4 3 (by omega)
    · cases hx; exact f4 4 (by omega)
  have hD6 : va_D A (sixW X H.size) := ⟨fun i j x y hx hy hxy => by
    have a1 := (sixW_at hx).1
    have a2 := (sixW_at hy).1
    omega, fun i x hx => hA _ (by have a1 := (sixW_at hx).1; have := hS.1; omega)⟩
  have hD1 : va_D A (ws ++ sixW X H.size) := va_D.app hD hD6 (fun i j x y hx hy hxy => by
    have a1 := (hP i x hx).lt
    have a2 := (sixW_at hy).1
    omega)
  have hS1 : va_S A (xs X).heap T'.heap (locs ++ L) := ⟨Nat.le_trans hS.1 (by omega), fun x h1 h2 => (f3 x (Nat.lt_of_lt_of_le h1 hS.1)).trans (hS.2.1 x h1 h2), fun q hq => by
    rcases List.mem_append.mp hq with h1 | h1
    · exact hS.2.2 q h1
    · rw [hLb q h1, hTs]
      exact hA _ hS.1⟩
  obtain ⟨t, a1, b1⟩ := kk H.size T'.heap (locs ++ L) lsa ((hP.kept hk).app hP6) hD1 hS1 hL T' rfl X'
  exact ⟨t, step t a1, b1⟩
end KMNA
/-! a constructor's contract: it makes mc cells of ms slots, and leaves the world L, of new addresses -/
def CtI (l : Launch) (dC : Nat → ClassId) (dI : Nat → Nat → Nat) (cs : Nat → ClassId) (y : MethodName) (cc : ByteArray) (maxL d mc ms ci : Nat) (fs : List Value) (L : Nat → (Nat → Nat) → va_W) : Prop :=
  ∀ h0 sz : Nat, Met l y (.code y cc maxL none :: wsC) { frames := d, cells := mc, slots := ms, locals := 40 * d }
    (va_Pc [.ref h0] (fun U => U.heap.size = sz ∧ va_P (dC, dI) vwCl [(h0, .inr (ci, fs))] U.heap ∧ KU dC dI cs U ∧ va_D (fun _ => True) [(h0, .inr (ci, fs))]))
    (va_Qv (fun _ : Nat → Nat => True) (fun as t => va_P (dC, dI) vwCl (L h0 as) t.heap ∧ va_D (va_A [(h0, .inr (ci, fs))] sz) (L h0 as)) (va_A [(h0, .inr (ci, fs))] sz)) mc ms (va_A [(h0, .inr (ci, fs))] sz)
abbrev QI (X : XT) (A : Nat → Prop) (mc ms : Nat) (L : (Nat → Nat) → va_W) : State → Prop := MQ (xb X) (va_Qv (fun _ : Nat → Nat => True) (fun as t => va_P (xC X, xI X) vwCl (L as) t.heap ∧ va_D A (L as)) A) (xa X) (xs X) mc ms A
theorem cti_of {l : Launch} {dC : Nat → ClassId} {dI : Nat → Nat → Nat} {cs : Nat → ClassId} {y : MethodName} {cc : ByteArray} {maxL d mc ms ci : Nat} {fs : List Value} {L : Nat → (Nat → Nat) → va_W} (hy : plainName y.cls = true) (hnm : y.name = "<init>") (hle : Nat.ble 1 maxL = true)
    (body : ∀ (X : XT) (A : Nat → Prop) (h0 : Nat), KC X cc y.cls → (xM X).name = "<init>" → xl X = l → xC X = dC → xI X = dI → xk X = cs → xR X = { frames := d, cells := mc, slots := ms, locals := 40 * d } → xn X = maxL → (xM X).sig.returnType = none → (∀ q, (xs X).heap.size ≤ q → A q) →
      KG X A (QI X A mc ms (L h0)) 0 [(0, .ref h0)] [] [(h0, .inr (ci, fs))] 0 0) : CtI l dC dI cs y cc maxL d mc ms ci fs L := by
  intro h0 sz
  refine Met.ofW (cc := cc) (maxL := maxL) (ret := none) hy rfl ?_
  intro p e s mi args below meth c s₁ B hml hv
  obtain ⟨rfl, hsz, hP, hK, hD0⟩ := hv
  have hts := atoms_spec (ws := .code y cc maxL none :: wsC) B.pre
  have hfc : s.vm.findClass y.cls = some mi.cls := findClass_of_methodNamed B.named
  have hin : meth.name = "<init>" := (name_of_methodNamed B.named B.method).1.trans hnm
  subst hsz
  have hD := hD0.self (sz := s.heap.size)
  have hl := lv_entry ([.ref h0]) (n := maxL) (Nat.le_of_ble_eq_true hle)
  rw [lg_entry_eq]
  have hkc : KC (p, e, { frames := d, cells := mc, slots := ms, locals := 40 * d }, s, mi, ([.ref h0] : List Value).toArray, below, meth, c, (l, (fun _ => 0), dC, dI, cs, false, 0, fun _ => 0), 0, 0, maxL) cc y.cls :=
    ⟨B.exec, B.bytes, hml, hfc, fun w hw => hts w (List.mem_cons_of_mem _ hw), hK, B.notSynchronized⟩
  exact body _ _ h0 hkc hin rfl rfl rfl rfl rfl rfl B.returns (fun q h => Or.inr h) s.heap [] _ hP hD va_S.rf hl
theorem va_nd_of : ∀ l : List Nat, l.Nodup → va_nd l = true
  | [], _ => rfl
  | x :: l, h => by
    rw [List.nodup_cons] at h
    simp only [va_nd, Bool.and_eq_true, decide_eq_true_eq]
    exact ⟨h.1, va_nd_of l h.2⟩
theorem rest_at {ws : va_W} {x : Nat × va_E} : (List.range ws.length).map (fun i => (ws ++ [x])[i]?) = ws.map some := by
  apply List.ext_getElem?
  intro i
  rw [List.getElem?_map, List.getElem?_map]
  by_cases h : i < ws.length
  · rw [List.getElem?_range h]
    simp [List.getElem?_append_left h, List.getElem?_eq_getElem h]
  · rw [List.getElem?_eq_none (by simpa using h), List.getElem?_eq_none (by omega)]
    rfl
section KCALL
variable {X : XT} {cc : ByteArray} {own : String} {A : Nat → Prop} {Q : State → Prop} {pc : Nat} {ls : List (Nat × Value)} {st : List Value} {ws ws' : va_W} {n k : Nat}
theorem kg_behind {y : MethodName} {bytes : ByteArray} {mc ms ci q : Nat} {fs : List Value} {L : Nat → (Nat → Nat) → va_W} (hA : ∀ q, (xs X).heap.size ≤ q → A q) (kk : ∀ as, KG X A Q (pc + 3) ls st (ws ++ L q as) (n + mc) (k + ms))
    {H : Heap} {locs : List Loc} {lsa : Array Slot} (hP : va_P (xC X, xI X) vwCl (ws ++ [(q, .inr (ci, fs))]) H) (hD : va_D A (ws ++ [(q, .inr (ci, fs))])) (hS : va_S A (xs X).heap H locs) (hL : lv_has lsa (xn X) ls)
    (hr : va_Run (xp X) (xl X) (xe X) (xR X) (xs X) (xm X) (xa X) (xb X) (xM X) (xc X) H locs n k mc ms (F0 (xm X) pc lsa (.ref q :: st)) st (va_Qv (fun _ : Nat → Nat => True) (fun as t => va_P (xC X, xI X) vwCl (L q as) t.heap ∧ va_D (va_A [(q, .inr (ci, fs))] H.size) (L q as)) (va_A [(q, .inr (ci, fs))] H.size) (Value.ref q :: ([] : List Value)).toArray) (va_A [(q, .inr (ci, fs))] H.size)) :
    W (xp X) (xl X) (xe X) (xR X) (xs X) (xm X) (xa X) (xb X) (xM X) (xc X) H locs n k Q (F0 (xm X) pc lsa (.ref q :: st)) := by
  have hC : [ws.length].map (fun i => (ws ++ [(q, (.inr (ci, fs) : va_E))])[i]?) = [(q, (.inr (ci, fs) : va_E))].map some := by simp
  have hFc := va_free (wc := [(q, .inr (ci, fs))]) hD hS hA [ws.length] hC
  refine va_callv hr hS (fun q _ h => hFc q h) hFc (fun as t H1 locs1 ht hvm _ hB hz1 hk1 hS1 => ?_)
  obtain ⟨hP1, hD1⟩ := hB
  rw [ht] at hP1
  obtain ⟨hP2, hD2⟩ := va_join (wr := ws) (w1 := L q as) hP hD [ws.length] (List.range ws.length) hC rest_at (va_nd_of _ List.nodup_range) (fun i hi hj => by
    have := List.mem_range.mp hi
    have := List.mem_singleton.mp hj
    omega) hk1 hFc hP1 hD1
  exact kk as H1 locs1 lsa hP2 hD2 hS1 hL
theorem one_P {ci q : Nat} {fs : List Value} {D : va_G} {H : Heap} (hP : va_P D vwCl (ws ++ [(q, .inr (ci, fs))]) H) : va_P D vwCl [(q, .inr (ci, fs))] H := fun i x hx => by
  have hi : i < 1 := (List.getElem?_eq_some_iff.mp hx).1
  have : i = 0 := by omega
  subst this
  exact hP ws.length x (by simpa using hx)
theorem one_D {ci q : Nat} {fs : List Value} : va_D (fun _ => True) [(q, (.inr (ci, fs) : va_E))] := ⟨fun i j x y hx hy _ => by
  have := (List.getElem?_eq_some_iff.mp hx).1
  have := (List.getElem?_eq_some_iff.mp hy).1
  simp at *
  omega, fun _ _ _ => trivial⟩
theorem kg_ctor (h : KC X cc own) (hA : ∀ q, (xs X).heap.size ≤ q → A q) {y : MethodName} {bytes : ByteArray} {maxL d mc ms ci index q : Nat} {fs : List Value} {L : Nat → (Nat → Nat) → va_W} (hct : CtI (xl X) (xC X) (xI X) (xk X) y bytes maxL d mc ms ci fs L) (hd : decode cc pc = .ok (.invokespecial index, 3))
    (w1 : Cond.methodLink own index y ∈ wsC) (w2 : Cond.instanceMethod y ∈ wsC) (w3 : Cond.initialized y.cls ∈ wsC) (w4 : Cond.code y bytes maxL none ∈ wsC) (hy1 : y.name = "<init>") (hy2 : y.cls ≠ "java/lang/invoke/MethodHandle" ∧ y.cls ≠ "java/lang/invoke/VarHandle" ∧ (parseMethodDescriptor y.desc).map (fun d => d.parameters.length) = some 0)
    (hR : d + 1 ≤ (xR X).frames ∧ 8 + (maxL + 11) + 40 * d ≤ (xR X).locals) (hn : n + mc ≤ (xR X).cells ∧ k + ms ≤ (xR X).slots) (hcat : (st.map fun v => v.category).sum ≤ 8) (kk : ∀ as, KG X A Q (pc + 3) ls st (ws ++ L q as) (n + mc) (k + ms)) : KG X A Q pc ls (.ref q :: st) (ws ++ [(q, .inr (ci, fs))]) n k := by
  intro H locs lsa hP hD hS hL
  have hts := h.2.2.2.2.1
  exact kg_behind (y := y) (bytes := bytes) hA kk hP hD hS hL (va_runI (As := []) (rest := st) ⟨h.1, h.2.1, h.2.2.1, h.2.2.2.1, hts⟩ (hct q H.size) (cwI 0 hts (good_ws w4) rfl rfl rfl (hts _ w3) (hts _ w1) (hts _ w2) hy1 hy2 hR)
    ⟨fun a U g mk q => by obtain ⟨q0, q1, qP, qK, qD⟩ := q; exact ⟨q0, q1, qP, qK.call, qD⟩, fun U hU hW => ⟨rfl, by rw [hU], by rw [hU]; exact one_P hP, h.2.2.2.2.2.1.warm hW, one_D⟩⟩ rfl rfl hL.1 rfl (lv_room hcat) hd hn)
theorem kg_ctorN (h : KC X cc own) (hA : ∀ q, (xs X).heap.size ≤ q → A q) {y : MethodName} {host : String} {bytes : ByteArray} {maxL d mc ms ci index q : Nat} {fs : List Value} {L : Nat → (Nat → Nat) → va_W} (hct : CtI (xl X) (xC X) (xI X) (xk X) y bytes maxL d mc ms ci fs L) (hd : decode cc pc = .ok (.invokespecial index, 3))
    (w1 : Cond.methodLinkNest own index y host ∈ nestC) (w2 : Cond.instanceMethod y ∈ wsC) (w3 : Cond.initialized y.cls ∈ wsC) (w4 : Cond.code y bytes maxL none ∈ wsC) (hy1 : y.name = "<init>") (hy2 : y.cls ≠ "java/lang/invoke/MethodHandle" ∧ y.cls ≠ "java/lang/invoke/VarHandle" ∧ (parseMethodDescriptor y.desc).map (fun d => d.parameters.length) = some 0)
    (hR : d + 1 ≤ (xR X).frames ∧ 8 + (maxL + 11) + 40 * d ≤ (xR X).locals) (hn : n + mc ≤ (xR X).cells ∧ k + ms ≤ (xR X).slots) (hcat : (st.map fun v => v.category).sum ≤ 8) (kk : ∀ as, KG X A Q (pc + 3) ls st (ws ++ L q as) (n + mc) (k + ms)) : KG X A Q pc ls (.ref q :: st) (ws ++ [(q, .inr (ci, fs))]) n k := by
  intro H locs lsa hP hD hS hL
  have hts := h.2.2.2.2.1
  exact kg_behind (y := y) (bytes := bytes) hA kk hP hD hS hL (va_runIN (As := []) (rest := st) ⟨h.1, h.2.1, h.2.2.1, h.2.2.2.1, hts⟩ (hct q H.size) ⟨va_cnB 0 hts (good_ws w4) rfl rfl rfl (h.2.2.2.2.2.1.2.2 _ w1) (hts _ w3) hy2 hR, hy1, hts _ w2⟩
    ⟨fun a U g mk q => by obtain ⟨q0, q1, qP, qK, qD⟩ := q; exact ⟨q0, q1, qP, qK.call, qD⟩, fun U hU hW => ⟨rfl, by rw [hU], by rw [hU]; exact one_P hP, h.2.2.2.2.2.1.warm hW, one_D⟩⟩ rfl rfl hL.1 rfl (lv_room hcat) hd hn)
theorem kg_ret (h : KC X cc own) (hr : (xM X).sig.returnType = none) (hd : decode cc pc = .ok (.return_, 1)) {L : (Nat → Nat) → va_W} (as : Nat → Nat) (hw : ws = L as) : KG X A (QI X A n k L) pc ls [] ws n k := by
  intro H locs lsa hP hD hS hL
  subst hw
  exact W.vret h.1 h.2.1 hr (fun t ht hW => ⟨⟨as, rfl, trivial, by rw [ht]; exact hP, hD⟩, hS.F ht⟩) hS.2.2 hd h.2.2.2.2.2.2
end KCALL
