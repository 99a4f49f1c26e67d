/-! ===== five rows of five ints: the machine's own steps ===== -/
def mrow (cB : ClassId) : Cell := arrV cB 5 (fun _ => .int 0)
def mtop (cA : ClassId) (h i : Nat) : Cell := arrV cA 5 (fun j => if j < i then .ref (h + 1 + j) else .null)
theorem mtop_set (cA : ClassId) (h i : Nat) : (mtop cA h i).setSlot i (.ref (h + 1 + i)) = mtop cA h (i + 1) := by
  unfold mtop
  rw [arrV_store]
  congr 1
  funext j
  unfold updV
  by_cases e : j = i
  · subst e
    rw [if_pos rfl, if_pos (Nat.lt_succ_self j)]
  · rw [if_neg e]
    dsimp only
    by_cases c : j < i
    · rw [if_pos c, if_pos (by omega)]
    · rw [if_neg c, if_neg (by omega)]
theorem mtop_size (cA : ClassId) (h i : Nat) : (mtop cA h i).slots.size = 5 := arrV_size _ _ _
/-- the state with the top row, and i of its rows -/
def mst (s : State) (cA cB : ClassId) : Nat → State
  | 0 => s.pushCell (mtop cA s.heap.size 0)
  | i + 1 => ((mst s cA cB i).pushCell (mrow cB)).setCell s.heap.size ((mtop cA s.heap.size i).setSlot i (.ref (s.heap.size + 1 + i)))
theorem mst_is (s : State) (cA cB : ClassId) : ∀ i, (mst s cA cB i).heap.size = s.heap.size + 1 + i ∧ (mst s cA cB i).heap[s.heap.size]? = some (mtop cA s.heap.size i) ∧ (mst s cA cB i).vm = s.vm ∧ (mst s cA cB i).slotsUsed = s.slotsUsed + 5 + i * 5 ∧ (∀ a, a < s.heap.size → (mst s cA cB i).heap[a]? = s.heap[a]?) ∧ ∀ j, j < i → (mst s cA cB i).heap[s.heap.size + 1 + j]? = some (mrow cB)
  | 0 => by
    refine ⟨by simp [mst], by simp [mst], rfl, by simp [mst, mtop_size], fun a ha => State.heap_pushCell_of_lt _ _ ha, fun j hj => absurd hj (Nat.not_lt_zero j)⟩
  | i + 1 => by
    obtain ⟨h1, h2, h3, h4, h5, h6⟩ := mst_is s cA cB i
    have hlt : s.heap.size < (mst s cA cB i).heap.size := by omega
    have hc : ((mst s cA cB i).pushCell (mrow cB)).heap[s.heap.size]? = some (mtop cA s.heap.size i) := by rw [State.heap_pushCell_of_lt (h := hlt)]; exact h2
    refine ⟨?_, ?_, by simp [mst, h3], ?_, fun a ha => ?_, fun j hj => ?_⟩
    · simp [mst, State.setCell, h1]; omega
    · rw [← mtop_set]
      exact State.heap_setCell_self hc
    · simp [mst, h4, mrow, arrV_size]; omega
    · show (((mst s cA cB i).pushCell (mrow cB)).setCell s.heap.size _).heap[a]? = _
      rw [State.heap_setCell_other (Nat.ne_of_gt ha), State.heap_pushCell_of_lt (h := Nat.lt_trans ha hlt)]
      exact h5 a ha
    · show (((mst s cA cB i).pushCell (mrow cB)).setCell s.heap.size _).heap[s.heap.size + 1 + j]? = _
      rw [State.heap_setCell_other (show s.heap.size ≠ s.heap.size + 1 + j by omega)]
      by_cases e : j < i
      · rw [State.heap_pushCell_of_lt (h := show s.heap.size + 1 + j < (mst s cA cB i).heap.size by omega)]
        exact h6 j e
      · have : j = i := by omega
        subst this
        rw [← h1]
        exact State.heap_pushCell_size _ _
theorem mst_top (s : State) (f : JFrame) (cA cB : ClassId) : ∀ i, mst (s.setTop f) cA cB i = (mst s cA cB i).setTop f
  | 0 => rfl
  | i + 1 => by simp only [mst, mst_top s f cA cB i, State.heap_setTop, State.pushCell_setTop, State.setCell_setTop]
section MW5
variable {E : CtlPost} {e : Env} {d : Bool} {acts : List Action} {s : State}
/-- a new row of five of one value -/
theorem wp_row5 {c comp : ClassId} {k : Class} {type : FieldType} {v : Value} (hk : s.vm.classes[c]? = some k) (hkind : k.kind = .array comp type) (hl : ¬ 5 > e.platform.arrayLengthLimit) (hh : ¬ 5 * componentBytes type > e.platform.maxHeapBytes)
    (hfit : fits type v = true) (hdef : v.isDefault = true) {Q : Addr → Pre} (h1 : s.heap.size < e.platform.maxCells) (h2 : s.slotsUsed + 5 ≤ e.platform.maxSlots) (hq : Q s.heap.size d acts (s.pushCell (arrV c 5 (fun _ => v)))) :
    wp (Jvm.newArray c 5 v) Q E e d acts s := by
  have hf : ∀ i w, (Array.replicate 5 v)[i]? = some w → s.fitsSlot c .none i w = true := fun i w hw => by
    rw [Array.getElem?_replicate] at hw
    split at hw
    case isFalse => cases hw
    cases hw
    simp [State.fitsSlot, State.slotType?, hk, hkind, hfit]
  have ha : allocActs (Array.replicate 5 v) s.heap.size acts = acts := by
    unfold allocActs
    rw [if_pos (by rw [Array.all_replicate]; simp [hdef])]
  simp only [Jvm.newArray, Jvm.arrayFits, wp_bind', W.ask, W.ite, hl, if_false, wp_pure', W.theClass, hk, hkind, hh, W.alloc, W.stop, Option.some.injEq, exists_eq_left', Array.size_replicate, ha]
  rw [if_neg (by omega)]
  rw [← arrV_new] at hq
  exact ⟨h1, h2, hf, hq⟩
theorem wp_line5 {cB cC : ClassId} {kB : Class} (hB : s.vm.classes[cB]? = some kB) (hkB : kB.kind = .array cC .int) (hl : ¬ 5 > e.platform.arrayLengthLimit) (hh : ¬ 20 > e.platform.maxHeapBytes) (h1 : s.heap.size < e.platform.maxCells) (h2 : s.slotsUsed + 5 ≤ e.platform.maxSlots) {Q : Addr → Pre} (hq : Q s.heap.size d acts (s.pushCell (mrow cB))) :
    wp (multianewarray.make cB [5]) Q E e d acts s := by
  have n5 : (5 : Int32).toNatClampNeg = 5 := by decide
  rw [multianewarray.make]
  simp only [wp_bind', W.ite, show ¬ (5 : Int32) < 0 by decide, if_false, wp_pure', W.theClass, hB, hkB, Option.some.injEq, exists_eq_left', n5]
  exact wp_row5 hB hkB hl (by show ¬ 5 * 4 > _; omega) rfl rfl h1 h2 hq
theorem wp_make5 {cA cB cC : ClassId} {kA kB : Class} (hA : s.vm.classes[cA]? = some kA) (hkA : kA.kind = .array cB (.array .int)) (hB : s.vm.classes[cB]? = some kB) (hkB : kB.kind = .array cC .int)
    (hl : ¬ 5 > e.platform.arrayLengthLimit) (hh : ¬ 20 > e.platform.maxHeapBytes) (h1 : s.heap.size + 6 ≤ e.platform.maxCells) (h2 : s.slotsUsed + 30 ≤ e.platform.maxSlots) {Q : Addr → Pre} (hq : ∀ d' acts', Q s.heap.size d' acts' (mst s cA cB 5)) :
    wp (multianewarray.make cA [5, 5]) Q E e d acts s := by
  have n5 : (5 : Int32).toNatClampNeg = 5 := by decide
  have hfind : ([(5 : Int32)].find? (· < 0)) = none := by decide
  rw [multianewarray.make]
  simp only [wp_bind', W.ite, show ¬ (5 : Int32) < 0 by decide, if_false, wp_pure', W.theClass, hA, hkA, Option.some.injEq, exists_eq_left', n5]
  refine wp_row5 hA hkA hl (by show ¬ 5 * 4 > _; omega) rfl rfl (by omega) (by omega) ?_
  simp only [hfind]
  rw [ite_self, wp_bind', Std.Legacy.Range.forIn_eq_forIn_range']
  have hsz : ([:5] : Std.Legacy.Range).size = 5 := by simp [Std.Legacy.Range.size]
  rw [hsz]
  show wp (forIn (List.range' 0 5 1) PUnit.unit _) _ E e d acts _
  refine wp_forIn_inv (fun r t => ∃ i, i ≤ 5 ∧ r = List.range' i (5 - i) ∧ t = mst s cA cB i) _ _ ⟨0, by omega, rfl, rfl⟩ ?_ ?_
  · rintro x r t d' acts' Q' ⟨i, hi, hr, rfl⟩ hnext
    have hlt : i < 5 := by
      by_cases z : i < 5
      · exact z
      · rw [show 5 - i = 0 by omega] at hr; cases hr
    rw [show 5 - i = (5 - (i + 1)) + 1 by omega, List.range'_succ] at hr
    obtain ⟨rfl, hr⟩ := List.cons.inj hr
    obtain ⟨f1, f2, f3, f4, -, -⟩ := mst_is s cA cB x
    have hlt0 : s.heap.size < (mst s cA cB x).heap.size := by omega
    simp only [wp_bind']
    refine wp_line5 (by rw [f3]; exact hB) hkB hl hh (by rw [f1]; omega) (by rw [f4]; omega) ?_
    simp only [wp_bind', W.writeLoc, wp_pure']
    refine ⟨mtop cA s.heap.size x, by rw [State.heap_pushCell_of_lt (h := hlt0)]; exact f2, (by intro q; cases q), by rw [mtop_size]; exact hlt, ?_, hnext _ _ _ ⟨x + 1, hlt, hr, ?_⟩⟩
    · simp [State.fitsSlot, State.slotType?, mtop, arrV, f3, hA, hkA, fits]
    · rw [f1]
      rfl
  · rintro t d' acts' ⟨i, hi, hr, rfl⟩
    have : i = 5 := by
      by_cases z : i < 5
      · rw [show 5 - i = (5 - (i + 1)) + 1 by omega, List.range'_succ] at hr; cases hr
      · omega
    subst this
    simp only [wp_pure']
    exact hq _ _
end MW5
section MS5
variable {p : Program} {l : Launch} {e : Env} {R : Room} {s : State} {m : MethodId} {args : Array Value} {below : List Frame} {meth : Method} {c : Code} {T : State} {locs : List Loc} {cells slots : Nat}
theorem mst_stand (X : Stand p l e R s m args below meth c T locs cells slots) (cA cB : ClassId) : ∀ i, ∃ L, (∀ x ∈ L, x.base = T.heap.size) ∧ Stand p l e R s m args below meth c (mst T cA cB i) (locs ++ L) (cells + 1 + i) (slots + 5 + i * 5)
  | 0 => by
    have h := X.pushed (mtop cA T.heap.size 0)
    rw [mtop_size] at h
    exact ⟨[], fun x hx => (by cases hx), by simpa [mst] using h⟩
  | i + 1 => by
    obtain ⟨L, hL, Xi⟩ := mst_stand X cA cB i
    obtain ⟨f1, f2, -, -, -, -⟩ := mst_is T cA cB i
    have hc : ((mst T cA cB i).pushCell (mrow cB)).heap[T.heap.size]? = some (mtop cA T.heap.size i) := by rw [State.heap_pushCell_of_lt (h := show T.heap.size < (mst T cA cB i).heap.size by omega)]; exact f2
    have h := (Xi.pushed (mrow cB)).stored hc i (.ref (T.heap.size + 1 + i))
    have e1 : (mrow cB).slots.size = 5 := arrV_size _ _ _
    rw [e1] at h
    refine ⟨L ++ [⟨T.heap.size, i⟩], fun x hx => ?_, ?_⟩
    · rcases List.mem_append.mp hx with h1 | h1
      · exact hL x h1
      · rw [List.mem_singleton.mp h1]
    · rw [← List.append_assoc, show slots + 5 + (i + 1) * 5 = slots + 5 + i * 5 + 5 by omega]
      exact h
theorem mna_run (X : Stand p l e R s m args below meth c T locs cells slots) (hexec : p.tables.exec = Jvm.exec) {own : String} {index : Nat} (hown : s.vm.findClass own = some m.cls)
    (hclink : (Cond.classLink own index ("[" ++ (FieldType.array .int).toString)).before args s = true) (hover : (Cond.arrayOver (.array .int)).before args s = true) (harr : (Cond.arrayClass .int).before args s = true)
    {g : JFrame} (hg : g.method = m) (hdg : decode c.code g.pc = .ok (.multianewarray index 2, 4)) {rest : List Value} (hstack : g.stack = .int 5 :: .int 5 :: rest) (hcells : cells + 6 ≤ R.cells) (hslots : slots + 30 ≤ R.slots) :
    ∃ (vm₁ : Vm) (cA cB : ClassId) (L : List Loc), s.vm.findClass ("[" ++ (FieldType.array .int).toString) = some cA ∧ s.vm.findClass (FieldType.array .int).toString = some cB ∧ (∀ x ∈ L, x.base = T.heap.size) ∧
      Stand p l e R s m args below meth c (mst (T.setVm vm₁) cA cB 5) (locs ++ L) (cells + 6) (slots + 30) ∧
      ∀ target, Steps p.tables e below ((mst (T.setVm vm₁) cA cB 5).setTop { g with pc := g.pc + 4, stack := .ref T.heap.size :: rest }) target → Steps p.tables e below (T.setTop g) target := by
  subst hg
  have hpl : e.platform.magicAccessors = ({} : Platform).magicAccessors := by rw [X.admits.platform]
  obtain ⟨cB, cA, kA, hB, -, hkA, hkindA, hA⟩ := arrayOverA_spec hover
  obtain ⟨cB', kB, cC, hB', hkB, hkindB⟩ := Cond.arrayClass_spec harr
  have eBB : cB' = cB := Option.some.inj (hB'.symm.trans hB)
  subst eBB
  obtain ⟨c0, hc0, hcl⟩ := Cond.classLink_spec hown hclink e.platform hpl
  cases hA.symm.trans hc0
  obtain ⟨hgv, hwarm, hready⟩ := State.classEntry (e := e) X.warmed hcl
  generalize T.vm.noted g.method.cls index (.cls cA) = vm₁ at hgv hwarm hready
  have hal : s.vm.Alike vm₁ := hwarm.alike
  obtain ⟨kA1, hkA1, eA⟩ := hal.2.2 _ _ hkA
  obtain ⟨kB1, hkB1, eB⟩ := hal.2.2 _ _ hkB
  have hkindA1 : kA1.kind = .array cB' (.array .int) := by rw [eA]; exact hkindA
  have hkindB1 : kB1.kind = .array cC .int := by rw [eB]; exact hkindB
  have X1 := X.noted hwarm
  obtain ⟨hr1, hr2⟩ := X.roomAbove hcells hslots
  obtain ⟨L, hL, X5⟩ := mst_stand X1 cA cB' 5
  refine ⟨vm₁, cA, cB', L, hA, hB, hL, X5, fun target hrest => ?_⟩
  have hl : ¬ 5 > e.platform.arrayLengthLimit := by rw [Launch.admits_arrayLengthLimit X.admits]; omega
  have hh : ¬ 20 > e.platform.maxHeapBytes := by rw [Launch.admits_maxHeapBytes X.admits]; omega
  jvm_step X.here [hexec, hdg]
  simp only [multianewarray.sem, wp_bind', W.resolveClassAt_links (State.method?_setTop g X.here.top) hgv]
  rw [W.popN, if_neg (by decide)]
  refine ⟨g, State.topJava?_setTop' (s := T.setVm vm₁) g X.here.top, [.int 5, .int 5], rest, rfl, hstack, ?_⟩
  simp only [List.mapM_cons, List.mapM_nil, wp_bind', wp_pure']
  have eS : ((T.setTop g).setVm vm₁).setTop { g with stack := rest } = (T.setVm vm₁).setTop { g with stack := rest } := by
    show ((T.setVm vm₁).setTop g).setTop _ = _
    rw [State.setTop_setTop]
  rw [eS]
  refine wp_make5 (s := (T.setVm vm₁).setTop { g with stack := rest }) (kA := kA1) (kB := kB1) (cB := cB') (cC := cC) hkA1 hkindA1 hkB1 hkindB1 hl hh hr1 hr2 (fun d' acts' => ?_)
  rw [mst_top]
  simp only [wp_bind', W.mark, W.pushRef, State.topJava?_setTop' _ X5.here.top, Option.some.injEq, exists_eq_left', State.setTop_setTop, State.heap_setTop]
  intro acts
  simp [jvm, X5.here.top]
  exact hrest
end MS5
