/-! ===== the locals ===== -/
variable {ph : Bool}
def lsL (A : AR → Nat) (ls : ALs) : List (Nat × Value) := (List.range ls.length).filterMap fun k => match ls[k]? with
  | some (some v) => some (k, cv A v)
  | _ => none
theorem mem_lsL {A : AR → Nat} {ls : ALs} {q : Nat × Value} : q ∈ lsL A ls ↔ ∃ v, ls[q.1]? = some (some v) ∧ q.2 = cv A v := by
  unfold lsL
  rw [List.mem_filterMap]
  constructor
  · rintro ⟨k, hk, h⟩
    cases hv : ls[k]? with
    | none => rw [hv] at h; cases h
    | some o =>
      cases o with
      | none => rw [hv] at h; cases h
      | some v => rw [hv] at h; cases h; exact ⟨v, hv, rfl⟩
  · rintro ⟨v, h1, h2⟩
    refine ⟨q.1, List.mem_range.mpr (List.getElem?_eq_some_iff.mp h1).1, ?_⟩
    rw [h1]
    exact congrArg some (Prod.ext rfl h2.symm)
theorem lhas_has {A : AR → Nat} {nL : Nat} {lsa : Array Slot} {ls : ALs} (h : lhas A nL lsa ls) : lv_has lsa nL (lsL A ls) := by
  refine ⟨h.1, h.2.2.1, fun q hq => ?_⟩
  obtain ⟨v, h1, h2⟩ := mem_lsL.mp hq
  rw [h.2.2.2 q.1 v h1, h2]
theorem stA_spec : ∀ {ls : ALs} {k : Nat} {v : AV} {l : ALs}, stA ls k v = some l → k < ls.length ∧ l.length = ls.length ∧ ∀ (j : Nat) (w : AV), l[j]? = some (some w) → (j = k ∧ w = v) ∨ (j ≠ k ∧ ls[j]? = some (some w) ∧ (j + 1 = k → isLg (some w) = false))
  | [], _, _, _, h => by cases h
  | o :: r, 0, v, l, h => by
    cases h
    refine ⟨by simp, by simp, fun j w hw => ?_⟩
    cases j with
    | zero => simp only [List.getElem?_cons_zero] at hw; cases hw; exact Or.inl ⟨rfl, rfl⟩
    | succ j => exact Or.inr ⟨by omega, by simpa using hw, fun q => by omega⟩
  | o :: r, 1, v, l, h => by
    cases r with
    | nil => cases h
    | cons a r2 =>
      cases h
      refine ⟨by simp, by simp, fun j w hw => ?_⟩
      match j with
      | 0 =>
        simp only [List.getElem?_cons_zero] at hw
        have hw : clrL o = some w := Option.some.inj hw
        match o, hw with
        | none, hw => cases hw
        | some (.inl x), hw => cases hw; exact Or.inr ⟨by omega, rfl, fun _ => rfl⟩
        | some (.inr (.inl x)), hw => cases hw
        | some (.inr (.inr x)), hw => cases hw; exact Or.inr ⟨by omega, rfl, fun _ => rfl⟩
      | 1 => simp only [List.getElem?_cons_succ, List.getElem?_cons_zero] at hw; cases hw; exact Or.inl ⟨rfl, rfl⟩
      | j + 2 => exact Or.inr ⟨by omega, by simpa using hw, fun q => by omega⟩
  | o :: r, k + 2, v, l, h => by
    have h' : (match stA r (k + 1) v with
      | some l => some (o :: l)
      | none => none) = some l := h
    cases hr : stA r (k + 1) v with
    | none => rw [hr] at h'; cases h'
    | some l2 =>
      rw [hr] at h'
      cases h'
      obtain ⟨h1, h2, h3⟩ := stA_spec hr
      refine ⟨by simp only [List.length_cons]; omega, by simp [h2], fun j w hw => ?_⟩
      cases j with
      | zero => exact Or.inr ⟨by omega, by simpa using hw, fun q => by omega⟩
      | succ j =>
        rcases h3 j w (by simpa using hw) with ⟨g1, g2⟩ | ⟨g1, g2, g3⟩
        · exact Or.inl ⟨by omega, g2⟩
        · exact Or.inr ⟨by omega, by simpa using g2, fun q => g3 (by omega)⟩
theorem cat_of {A : AR → Nat} {w : AV} (h : isLg (some w) = false) : (cv A w).category = 1 := by
  match w, h with
  | .inl _, _ => rfl
  | .inr (.inr _), _ => rfl
theorem lhas_set {A : AR → Nat} {nL : Nat} {lsa : Array Slot} {ls l : ALs} {k : Nat} {v : AV} (hn : ls.length = nL) (hk : stA ls k v = some l)
    (h : lv_has lsa nL ((k, cv A v) :: (lsL A ls).filter (fun q => !(q.1 == k) && !(q.1 + 1 == k && q.2.category == 2)))) : lhas A nL lsa l := by
  obtain ⟨hkl, hlen, hst⟩ := stA_spec hk
  refine ⟨h.1, hlen.trans hn, h.2.1, fun j w hj => ?_⟩
  rcases hst j w hj with ⟨rfl, rfl⟩ | ⟨e, hj, hlg⟩
  · exact h.2.2 (j, cv A w) List.mem_cons_self
  · refine h.2.2 (j, cv A w) (List.mem_cons_of_mem _ (List.mem_filter.mpr ⟨mem_lsL.mpr ⟨w, hj, rfl⟩, ?_⟩))
    have e2 : (j == k) = false := by simpa using e
    by_cases e3 : j + 1 = k
    · have hc := cat_of (A := A) (hlg e3)
      simp [e2, hc]
    · have e4 : (j + 1 == k) = false := by simpa using e3
      simp [e2, e4]
theorem lhas_setL {A : AR → Nat} {nL : Nat} {lsa : Array Slot} {ls l : ALs} {k : Nat} {v : AV} (hn : ls.length = nL) (hk : stA ls k v = some l)
    (h : lv_has lsa nL ((k, cv A v) :: (lsL A ls).filter (fun q => !(q.1 == k) && (!(q.1 == k + 1) && !(q.1 + 1 == k && q.2.category == 2))))) : lhas A nL lsa (l.set (k + 1) none) := by
  obtain ⟨hkl, hlen, hst⟩ := stA_spec hk
  refine ⟨h.1, by simpa using hlen.trans hn, h.2.1, fun j w hj => ?_⟩
  rw [List.getElem?_set] at hj
  by_cases e0 : k + 1 = j
  · rw [if_pos e0] at hj
    split at hj <;> cases hj
  rw [if_neg e0] at hj
  rcases hst j w hj with ⟨rfl, rfl⟩ | ⟨e, hj, hlg⟩
  · exact h.2.2 (j, cv A w) List.mem_cons_self
  · refine h.2.2 (j, cv A w) (List.mem_cons_of_mem _ (List.mem_filter.mpr ⟨mem_lsL.mpr ⟨w, hj, rfl⟩, ?_⟩))
    have e2 : (j == k) = false := by simpa using e
    have e5 : (j == k + 1) = false := by simpa using fun q => e0 q.symm
    by_cases e3 : j + 1 = k
    · have hc := cat_of (A := A) (hlg e3)
      simp [e2, e5, hc]
    · have e4 : (j + 1 == k) = false := by simpa using e3
      simp [e2, e5, e4]
theorem ldv_spec {ls : ALs} {k : Nat} {v : AV} (h : ldv ls k = some v) : ls[k]? = some (some v) := by
  unfold ldv at h
  split at h
  · cases h; assumption
  · cases h
theorem okL_at {ls : ALs} {k : Nat} {v : AV} (h : okL ph ls) (hk : ls[k]? = some (some v)) : okV ph v := h v (List.mem_of_getElem? hk)
theorem okL_set {ls l : ALs} {k : Nat} {v : AV} (h : okL ph ls) (hv : okV ph v) (hk : stA ls k v = some l) : okL ph l := by
  intro w hw
  obtain ⟨j, hj⟩ := List.getElem?_of_mem hw
  rcases (stA_spec hk).2.2 j w hj with ⟨-, rfl⟩ | ⟨-, hj, -⟩
  · exact hv
  · exact h w (List.mem_of_getElem? hj)
theorem okL_setN {ls : ALs} {k : Nat} (h : okL ph ls) : okL ph (ls.set k none) := by
  intro w hw
  rcases List.mem_or_eq_of_mem_set hw with h1 | h1
  · exact h w h1
  · cases h1
theorem okS_cons {v : AV} {st : ASt} : okS ph (v :: st) ↔ okV ph v ∧ okS ph st := by
  constructor
  · intro h; exact ⟨h v List.mem_cons_self, fun w hw => h w (List.mem_cons_of_mem _ hw)⟩
  · rintro ⟨h1, h2⟩ w hw
    rcases List.mem_cons.mp hw with rfl | hw
    · exact h1
    · exact h2 w hw
theorem cl_cases {P : Nat → vw_C → Prop} (h0 : P 0 (RX0, TX0, 14)) (h1 : P 1 (RX1, TX1, 5)) (h2 : P 2 (RX2, TX2, 3)) (h3 : P 3 (RX3, TX3, 5)) (h4 : P 4 (RX4, TX4, 4)) (h5 : P 5 (RX5, TX5, 4)) (h6 : P 6 (RX6, TX6, 7)) :
    ∀ (ci : Nat) (z : vw_C), vwCl[ci]? = some z → P ci z := by
  intro ci z h
  match ci, h with
  | 0, h => cases h; exact h0
  | 1, h => cases h; exact h1
  | 2, h => cases h; exact h2
  | 3, h => cases h; exact h3
  | 4, h => cases h; exact h4
  | 5, h => cases h; exact h5
  | 6, h => cases h; exact h6
  | n + 7, h => simp [vwCl] at h
theorem u_all : ∀ (ci : Nat) (z : vw_C), vwCl[ci]? = some z → ∀ w ∈ u_ws z.1 z.2.1 z.2.2, w ∈ wsC :=
  cl_cases (by decide +kernel) (by decide +kernel) (by decide +kernel) (by decide +kernel) (by decide +kernel) (by decide +kernel) (by decide +kernel)
def tyK (ci : Nat) : Nat → FieldType := match ci with
  | 0 => tyX0
  | 1 => tyX1
  | 2 => tyX2
  | 3 => tyX3
  | 4 => tyX4
  | 5 => tyX5
  | _ => tyX6
theorem ty_all : ∀ (ci : Nat) (z : vw_C), vwCl[ci]? = some z → ∀ k, k < z.2.2 → parseFieldDescriptor (z.2.1 k).2.2.1 = some (tyK ci k) :=
  cl_cases tyX0_ok tyX1_ok tyX2_ok tyX3_ok tyX4_ok tyX5_ok tyX6_ok
theorem nm_all : ∀ (ci : Nat) (z : vw_C), vwCl[ci]? = some z → ∀ a, a < z.2.2 → ∀ b, b < z.2.2 → a ≠ b → (z.2.1 a).2.1 ≠ (z.2.1 b).2.1 :=
  cl_cases nmX0 nmX1 nmX2 nmX3 nmX4 nmX5 nmX6
theorem fkd_spec {ci k : Nat} {z : vw_C} (hz : vwCl[ci]? = some z) (h : fkd ci k = 0 ∨ fkd ci k = 1) : (z.2.1 k).2.2.2 = false ∧ (fkd ci k = 0 → parseFieldDescriptor (z.2.1 k).2.2.1 = some .int) ∧ (fkd ci k = 1 → parseFieldDescriptor (z.2.1 k).2.2.1 = some .boolean) := by
  unfold fkd at h ⊢
  rw [hz] at h ⊢
  dsimp only at h ⊢
  by_cases h1 : (z.2.1 k).2.2.2 = false
  · rw [if_pos h1] at h ⊢
    by_cases h2 : (z.2.1 k).2.2.1 = "I"
    · rw [if_pos h2] at h ⊢
      refine ⟨h1, fun _ => ?_, (fun q => absurd q (by decide))⟩
      rw [h2]
      decide +kernel
    · rw [if_neg h2] at h ⊢
      by_cases h3 : (z.2.1 k).2.2.1 = "Z"
      · rw [if_pos h3] at h ⊢
        refine ⟨h1, (fun q => absurd q (by decide)), fun _ => ?_⟩
        rw [h3]
        decide +kernel
      · rw [if_neg h3] at h
        omega
  · rw [if_neg h1] at h
    omega
/-! ===== a step ===== -/
theorem gg_get {X : XT} {cc : ByteArray} {P : PT} {Q : State → Prop} (hC : GC X cc P) {pc k : Nat} {ls ls' : ALs} {st st' : ASt} {m m' : Mem} (hd : decode cc pc = .ok (.getfield k, 3)) (hx : getF P.2.1 k ls st m = some (ls', st', m')) (kk : GG X Q (pc + 3) ls' st' m') : GG X Q pc ls st m := by
  obtain ⟨hexec, hb, hml, hown, hts, -, hK, hA, -, hpt, -, -⟩ := hC
  intro hS hL H locs lsa hP hSt hl
  unfold getF at hx
  split at hx
  case h_2 => cases hx
  rename_i q r
  split at hx
  case h_2 => cases hx
  rename_i z y hz hy
  split at hx
  case h_2 => cases hx
  rename_i hb2
  simp only [Bool.and_eq_true, beq_iff_eq] at hb2
  obtain ⟨e1, e2⟩ := hb2
  have e2 : z.2 < y.2 := Nat.blt_eq.mp e2
  obtain ⟨t, i⟩ := q
  have hq : (t, i) ∈ vrefs (xV X) := ok_cls (hS _ List.mem_cons_self) hy
  obtain ⟨ci, n⟩ := y
  obtain ⟨index, ci', k'⟩ : Nat × Nat × Nat := (k, z)
  obtain ⟨cz, hcz, hlt, hlink⟩ := hpt (k, z) (by
    have := List.lookup_eq_some_iff.mp hz
    obtain ⟨l1, l2, h1, -⟩ := this
    rw [h1]; simp)
  obtain ⟨q0, hq0, hw⟩ := wsM_at (ph := xV X) (A := xA X) (cs := xk X) (m := m) hq
  rw [cellOf_obj (k := z.2) hy] at hw
  dsimp only at e1 e2 hlt hlink hcz
  rw [e1] at hcz
  have hv : ((List.range n).map (fun k => match sh_ref t i k with
    | some z => Value.ref (xA X z)
    | none => Value.int (m t i k)))[z.2]? = some (match sh_ref t i z.2 with
    | some z => Value.ref (xA X z)
    | none => Value.int (m t i z.2)) := by
    rw [List.getElem?_map, List.getElem?_range e2]; rfl
  refine va_get (D := (xC X, xI X)) (ci := ci) (C := cz.1) (T := cz.2.1) (N := cz.2.2) hexec hb hts (u_all ci cz hcz) hown hK hP q0 hw hcz z.2 hlt (hts _ hlink) (fun _ h9 => h9) hv hd ?_
  have hS' : okS (xV X) r := (okS_cons.mp hS).2
  cases hr : sh_ref t i z.2 with
  | none =>
    rw [hr] at hx
    cases hx
    exact kk (okS_cons.mpr ⟨trivial, hS'⟩) hL H locs lsa hP hSt hl
  | some a =>
    rw [hr] at hx
    cases hx
    refine kk (okS_cons.mpr ⟨Or.inl (sh_closed hq (k := z.2) ?_ hr), hS'⟩) hL H locs lsa hP hSt hl
    show z.2 < lenOf t
    unfold lenOf
    rw [hy]
    exact e2
theorem gg_put {X : XT} {cc : ByteArray} {P : PT} {Q : State → Prop} (hC : GC X cc P) {pc k : Nat} {ls ls' : ALs} {st st' : ASt} {m m' : Mem} (hd : decode cc pc = .ok (.putfield k, 3)) (hx : putF P.2.1 k ls st m = some (ls', st', m')) (kk : GG X Q (pc + 3) ls' st' m') : GG X Q pc ls st m := by
  obtain ⟨hexec, hb, hml, hown, hts, -, hK, hA, -, hpt, -, -⟩ := hC
  intro hS hL H locs lsa hP hSt hl
  unfold putF at hx
  split at hx
  case h_2 => cases hx
  rename_i v q r
  split at hx
  case h_2 => cases hx
  rename_i z y hz hy
  split at hx
  case h_2 => cases hx
  rename_i hb2
  simp only [Bool.and_eq_true, beq_iff_eq] at hb2
  obtain ⟨e1, e2⟩ := hb2
  have e2 : z.2 < y.2 := Nat.blt_eq.mp e2
  obtain ⟨t, i⟩ := q
  have hS1 := (okS_cons.mp hS).2
  have hq : (t, i) ∈ vrefs (xV X) := ok_cls (hS1 _ List.mem_cons_self) hy
  have hS' : okS (xV X) r := (okS_cons.mp hS1).2
  obtain ⟨ci, n⟩ := y
  obtain ⟨cz, hcz, hlt, hlink⟩ := hpt (k, z) (by
    have := List.lookup_eq_some_iff.mp hz
    obtain ⟨l1, l2, h1, -⟩ := this
    rw [h1]; simp)
  obtain ⟨q0, hq0, hw⟩ := wsM_at (ph := xV X) (A := xA X) (cs := xk X) (m := m) hq
  rw [cellOf_obj (k := z.2) hy] at hw
  dsimp only at e1 e2 hlt hlink hcz
  rw [e1] at hcz
  have key : ∀ ty : FieldType, sh_ref t i z.2 = none → (cz.2.1 z.2).2.2.2 = false → parseFieldDescriptor (cz.2.1 z.2).2.2.1 = some ty → narrow ty (.int v) = .int v → fits ty (.int v) = true → GG X Q (pc + 3) ls r (mset m t i z.2 v) → xW X Q H locs (F0 (xm X) pc lsa (List.map (cv (xA X)) (Sum.inl v :: Sum.inr (Sum.inr (t, i)) :: r))) := by
    intro ty hr hfin hd2 hn hf kk
    refine va_put (D := (xC X, xI X)) (ci := ci) (v := .int v) (ty := ty) (C := cz.1) (T := cz.2.1) (N := cz.2.2) hexec hb hts (u_all ci cz hcz) (tyK ci) (ty_all ci cz hcz) (nm_all ci cz hcz) hown hK hP (wsM_D hA.1 m) hSt q0 hw hcz z.2 hlt (hts _ hlink) (fun _ h9 => h9) hfin hd2 hn hf (by simpa using e2) hd (fun H1 locs1 hP1 _ hS1 => ?_)
    rw [← cellOf_set (cs := xk X) hy hr, wsM_set hq0] at hP1
    exact kk hS' hL H1 locs1 lsa hP1 hS1 hl
  split at hx
  case h_3 => cases hx
  case h_1 h5 h6 =>
    cases hx
    obtain ⟨f1, f2, f3⟩ := fkd_spec hcz (k := z.2) (Or.inl (by rw [← e1]; exact h6))
    exact key .int h5 f1 (f2 (by rw [← e1]; exact h6)) rfl rfl kk
  case h_2 h5 h6 =>
    split at hx
    case isFalse => cases hx
    case isTrue hv =>
      cases hx
      obtain ⟨f1, f2, f3⟩ := fkd_spec hcz (k := z.2) (Or.inr (by rw [← e1]; exact h6))
      refine key .boolean h5 f1 (f3 (by rw [← e1]; exact h6)) ?_ ?_ kk
      · rcases hv with rfl | rfl <;> rfl
      · rcases hv with rfl | rfl <;> rfl
theorem gg_bin {X : XT} {Q : State → Prop} {f : Int32 → Int32 → Int32} {pc : Nat} {ls ls' : ALs} {st st' : ASt} {m m' : Mem} (row : ∀ (x y : Int32) (H : Heap) (locs : List Loc) (lsa : Array Slot) (rest : List Value), xW X Q H locs (F0 (xm X) (pc + 1) lsa (.int (f x y) :: rest)) → xW X Q H locs (F0 (xm X) pc lsa (.int y :: .int x :: rest)))
    (hx : bin f ls st m = some (ls', st', m')) (kk : GG X Q (pc + 1) ls' st' m') : GG X Q pc ls st m := by
  intro hS hL H locs lsa hP hSt hl
  unfold bin at hx
  split at hx
  case h_2 => cases hx
  cases hx
  exact row _ _ _ _ _ _ (kk (okS_cons.mpr ⟨trivial, (okS_cons.mp (okS_cons.mp hS).2).2⟩) hL H locs lsa hP hSt hl)
theorem gg_una {X : XT} {Q : State → Prop} {f : Int32 → Int32} {pc : Nat} {ls ls' : ALs} {st st' : ASt} {m m' : Mem} (row : ∀ (x : Int32) (H : Heap) (locs : List Loc) (lsa : Array Slot) (rest : List Value), xW X Q H locs (F0 (xm X) (pc + 1) lsa (.int (f x) :: rest)) → xW X Q H locs (F0 (xm X) pc lsa (.int x :: rest)))
    (hx : una f ls st m = some (ls', st', m')) (kk : GG X Q (pc + 1) ls' st' m') : GG X Q pc ls st m := by
  intro hS hL H locs lsa hP hSt hl
  unfold una at hx
  split at hx
  case h_2 => cases hx
  cases hx
  exact row _ _ _ _ _ (kk (okS_cons.mpr ⟨trivial, (okS_cons.mp hS).2⟩) hL H locs lsa hP hSt hl)
/-- a constant comes upon the stack -/
theorem gg_push {X : XT} {Q : State → Prop} {pc n : Nat} {v : AV} {ls : ALs} {st : ASt} {m : Mem} (row : ∀ (H : Heap) (locs : List Loc) (lsa : Array Slot) (rest : List Value), xW X Q H locs (F0 (xm X) (pc + n) lsa (cv (xA X) v :: rest)) → xW X Q H locs (F0 (xm X) pc lsa rest)) (hv : okV (xV X) v)
    (kk : GG X Q (pc + n) ls (v :: st) m) : GG X Q pc ls st m := by
  intro hS hL H locs lsa hP hSt hl
  exact row _ _ _ _ (kk (okS_cons.mpr ⟨hv, hS⟩) hL H locs lsa hP hSt hl)
/-- a local comes upon the stack -/
theorem gg_load {X : XT} {Q : State → Prop} {pc n k : Nat} {v : AV} {ls : ALs} {st : ASt} {m : Mem} (hv : ldv ls k = some v) (row : ∀ (H : Heap) (locs : List Loc) (lsa : Array Slot) (rest : List Value), lsa[k]? = some (.val (cv (xA X) v)) → xW X Q H locs (F0 (xm X) (pc + n) lsa (cv (xA X) v :: rest)) → xW X Q H locs (F0 (xm X) pc lsa rest))
    (kk : GG X Q (pc + n) ls (v :: st) m) : GG X Q pc ls st m := by
  intro hS hL H locs lsa hP hSt hl
  have h1 := ldv_spec hv
  exact row _ _ _ _ (hl.2.2.2 k v h1) (kk (okS_cons.mpr ⟨okL_at hL h1, hS⟩) hL H locs lsa hP hSt hl)
theorem gg_ldI {X : XT} {Q : State → Prop} {pc n k : Nat} {ls ls' : ALs} {st st' : ASt} {m m' : Mem} (row : ∀ (x : Int32) (H : Heap) (locs : List Loc) (lsa : Array Slot) (rest : List Value), lsa[k]? = some (.val (.int x)) → xW X Q H locs (F0 (xm X) (pc + n) lsa (.int x :: rest)) → xW X Q H locs (F0 (xm X) pc lsa rest))
    (hx : ldI ls k st m = some (ls', st', m')) (kk : GG X Q (pc + n) ls' st' m') : GG X Q pc ls st m := by
  unfold ldI at hx
  split at hx
  case h_2 => cases hx
  rename_i x hv
  cases hx
  exact gg_load hv (row x) kk
theorem gg_ldL {X : XT} {Q : State → Prop} {pc n k : Nat} {ls ls' : ALs} {st st' : ASt} {m m' : Mem} (row : ∀ (x : Int64) (H : Heap) (locs : List Loc) (lsa : Array Slot) (rest : List Value), lsa[k]? = some (.val (.long x)) → xW X Q H locs (F0 (xm X) (pc + n) lsa (.long x :: rest)) → xW X Q H locs (F0 (xm X) pc lsa rest))
    (hx : ldL ls k st m = some (ls', st', m')) (kk : GG X Q (pc + n) ls' st' m') : GG X Q pc ls st m := by
  unfold ldL at hx
  split at hx
  case h_2 => cases hx
  rename_i x hv
  cases hx
  exact gg_load hv (row x) kk
theorem gg_ldA {X : XT} {Q : State → Prop} {pc n k : Nat} {ls ls' : ALs} {st st' : ASt} {m m' : Mem} (row : ∀ (x : Nat) (H : Heap) (locs : List Loc) (lsa : Array Slot) (rest : List Value), lsa[k]? = some (.val (.ref x)) → xW X Q H locs (F0 (xm X) (pc + n) lsa (.ref x :: rest)) → xW X Q H locs (F0 (xm X) pc lsa rest))
    (hx : ldA ls k st m = some (ls', st', m')) (kk : GG X Q (pc + n) ls' st' m') : GG X Q pc ls st m := by
  unfold ldA at hx
  split at hx
  case h_2 => cases hx
  rename_i x hv
  cases hx
  exact gg_load hv (row (xA X x)) kk
theorem gg_stI {X : XT} {Q : State → Prop} {pc n k : Nat} {v : AV} {pre : List Value} {ls ls' : ALs} {r st' : ASt} {m m' : Mem} (row : ∀ (H : Heap) (locs : List Loc) (lsa : Array Slot) (lv : List (Nat × Value)), lv_has lsa (xn X) lv → k < xn X → (∀ j, ldv ls k = some j → lsa[k]? = some (.val (cv (xA X) j)) ∧ (k, cv (xA X) j) ∈ lv) →
      (∀ ls' : Array Slot, lv_has ls' (xn X) ((k, cv (xA X) v) :: lv.filter (fun q => !(q.1 == k) && !(q.1 + 1 == k && q.2.category == 2))) → xW X Q H locs (F0 (xm X) (pc + n) ls' (r.map (cv (xA X))))) → xW X Q H locs (F0 (xm X) pc lsa (pre ++ r.map (cv (xA X)))))
    (hx : stI ls k v r m = some (ls', st', m')) (kk : GG X Q (pc + n) ls' st' m') (hv : okL (xV X) ls → okV (xV X) v) : okS (xV X) r → okL (xV X) ls → ∀ (H : Heap) (locs : List Loc) (lsa : Array Slot), va_P (xC X, xI X) vwCl (wsM (xV X) (xA X) (xk X) m) H → va_S (frA (xV X) (xA X)) (xs X).heap H locs → lhas (xA X) (xn X) lsa ls →
    xW X Q H locs (F0 (xm X) pc lsa (pre ++ r.map (cv (xA X)))) := by
  intro hS hL H locs lsa hP hSt hl
  unfold stI at hx
  split at hx
  case h_2 => cases hx
  rename_i l hm
  cases hx
  have hk := (stA_spec hm).1
  refine row H locs lsa _ (lhas_has hl) (by rw [← hl.2.1]; exact hk) (fun j hj => ?_) (fun lsa' h' => kk hS (okL_set hL (hv hL) hm) H locs lsa' hP hSt (lhas_set hl.2.1 hm h'))
  exact ⟨hl.2.2.2 k j (ldv_spec hj), mem_lsL.mpr ⟨j, ldv_spec hj, rfl⟩⟩
theorem gg_stL {X : XT} {Q : State → Prop} {pc n k : Nat} {v : AV} {pre : List Value} {ls ls' : ALs} {r st' : ASt} {m m' : Mem} (row : ∀ (H : Heap) (locs : List Loc) (lsa : Array Slot) (lv : List (Nat × Value)), lv_has lsa (xn X) lv → k + 1 < xn X →
      (∀ ls' : Array Slot, lv_has ls' (xn X) ((k, cv (xA X) v) :: lv.filter (fun q => !(q.1 == k) && (!(q.1 == k + 1) && !(q.1 + 1 == k && q.2.category == 2)))) → xW X Q H locs (F0 (xm X) (pc + n) ls' (r.map (cv (xA X))))) → xW X Q H locs (F0 (xm X) pc lsa (pre ++ r.map (cv (xA X)))))
    (hx : stL ls k v r m = some (ls', st', m')) (kk : GG X Q (pc + n) ls' st' m') (hv : okV (xV X) v) : okS (xV X) r → okL (xV X) ls → ∀ (H : Heap) (locs : List Loc) (lsa : Array Slot), va_P (xC X, xI X) vwCl (wsM (xV X) (xA X) (xk X) m) H → va_S (frA (xV X) (xA X)) (xs X).heap H locs → lhas (xA X) (xn X) lsa ls →
    xW X Q H locs (F0 (xm X) pc lsa (pre ++ r.map (cv (xA X)))) := by
  intro hS hL H locs lsa hP hSt hl
  unfold stL at hx
  split at hx
  case h_2 => cases hx
  rename_i l hm hb
  have hb : k + 1 < ls.length := Nat.blt_eq.mp hb
  cases hx
  exact row H locs lsa _ (lhas_has hl) (by rw [← hl.2.1]; exact hb) (fun lsa' h' => kk hS (okL_setN (okL_set hL hv hm)) H locs lsa' hP hSt (lhas_setL hl.2.1 hm h'))
set_option maxHeartbeats 4000000 in
theorem gg_ex1 {X : XT} {cc : ByteArray} {P : PT} {Q : State → Prop} (hC : GC X cc P) {pc : Nat} {i : Instr} {ls ls' : ALs} {st st' : ASt} {m m' : Mem} (hd : decode cc pc = .ok (i, ilen i)) (hx : ex1 P i ls st m = some (ls', st', m')) (kk : GG X Q (pc + ilen i) ls' st' m') : GG X Q pc ls st m := by
  have hexec := hC.1
  have hb := hC.2.1
  have hown := hC.2.2.2.1
  have hts := hC.2.2.2.2.1
  have hpt := hC.2.2.2.2.2.2.2.2.2
  unfold ex1 at hx
  split at hx
  · cases hx; exact gg_push (v := .inl _) (fun H locs lsa rest k => lv_iconst hexec hb hd rfl k) trivial kk
  · cases hx; exact gg_push (v := .inl _) (fun H locs lsa rest k => lv_bipush hexec hb hd rfl k) trivial kk
  · cases hx; exact gg_push (v := .inl _) (fun H locs lsa rest k => lv_sipush hexec hb hd rfl k) trivial kk
  · cases hx; exact gg_push (v := .inr (.inl _)) (fun H locs lsa rest k => lv_lconst hexec hb hd rfl k) trivial kk
  · exact gg_ldI (fun x H locs lsa rest h k => lv_iload hexec hb hd h k) hx kk
  · exact gg_ldI (fun x H locs lsa rest h k => lv_iload_n hexec hb hd rfl h k) hx kk
  · exact gg_ldL (fun x H locs lsa rest h k => lv_lload hexec hb hd h k) hx kk
  · exact gg_ldL (fun x H locs lsa rest h k => lv_lload_n hexec hb hd rfl h k) hx kk
  · exact gg_ldA (fun x H locs lsa rest h k => lv_aload hexec hb hd h k) hx kk
  · exact gg_ldA (fun x H locs lsa rest h k => lv_aload_n hexec hb hd rfl h k) hx kk
  · split at hx
    case h_2 => cases hx
    rename_i x r
    exact fun hS hL => gg_stI (n := 2) (v := .inl x) (pre := [.int x]) (fun H locs lsa lv h hn _ k => lv_istore hexec hb hd h hn rfl k) hx kk (fun _ => trivial) (okS_cons.mp hS).2 hL
  · split at hx
    case h_2 => cases hx
    rename_i x r
    exact fun hS hL => gg_stI (n := 1) (v := .inl x) (pre := [.int x]) (fun H locs lsa lv h hn _ k => lv_istore_n hexec hb hd rfl h hn rfl k) hx kk (fun _ => trivial) (okS_cons.mp hS).2 hL
  · split at hx
    case h_2 => cases hx
    rename_i x r
    exact fun hS hL => gg_stI (n := 2) (v := .inr (.inr x)) (pre := [.ref (xA X x)]) (fun H locs lsa lv h hn _ k => lv_astore hexec hb hd h hn rfl k) hx kk (fun _ => (okS_cons.mp hS).1) (okS_cons.mp hS).2 hL
  · split at hx
    case h_2 => cases hx
    rename_i x r
    exact fun hS hL => gg_stI (n := 1) (v := .inr (.inr x)) (pre := [.ref (xA X x)]) (fun H locs lsa lv h hn _ k => lv_astore_n hexec hb hd rfl h hn rfl k) hx kk (fun _ => (okS_cons.mp hS).1) (okS_cons.mp hS).2 hL
  · split at hx
    case h_2 => cases hx
    rename_i x r
    exact fun hS hL => gg_stL (n := 2) (v := .inr (.inl x)) (pre := [.long x]) (fun H locs lsa lv h hn k => lv_lstore hexec hb hd h hn rfl k) hx kk trivial (okS_cons.mp hS).2 hL
  · split at hx
    case h_2 => cases hx
    rename_i x r
    exact fun hS hL => gg_stL (n := 1) (v := .inr (.inl x)) (pre := [.long x]) (fun H locs lsa lv h hn k => lv_lstore_n hexec hb hd rfl h hn rfl k) hx kk trivial (okS_cons.mp hS).2 hL
  · split at hx
    case h_2 => cases hx
    rename_i x hv
    refine fun hS hL => gg_stI (n := 3) (v := .inl _) (pre := []) (fun H locs lsa lv h hn hj k => ?_) hx kk (fun _ => trivial) hS hL
    obtain ⟨q, hq⟩ := List.getElem?_of_mem (hj _ hv).2
    exact lv_iinc hexec hb hd h hq rfl hn rfl k
  · exact gg_bin (fun x y H locs lsa rest k => lv_iadd hexec hb hd k) hx kk
  · exact gg_bin (fun x y H locs lsa rest k => lv_isub hexec hb hd k) hx kk
  · exact gg_bin (fun x y H locs lsa rest k => lv_imul hexec hb hd k) hx kk
  · exact gg_bin (fun x y H locs lsa rest k => lv_iand hexec hb hd k) hx kk
  · exact gg_bin (fun x y H locs lsa rest k => lv_ior hexec hb hd k) hx kk
  · exact gg_bin (fun x y H locs lsa rest k => lv_ixor hexec hb hd k) hx kk
  · exact gg_bin (fun x y H locs lsa rest k => lv_ishl hexec hb hd k) hx kk
  · exact gg_bin (fun x y H locs lsa rest k => lv_ishr hexec hb hd k) hx kk
  · exact gg_una (fun x H locs lsa rest k => lv_ineg hexec hb hd k) hx kk
  · exact gg_una (fun x H locs lsa rest k => lv_i2b hexec hb hd rfl k) hx kk
  · exact gg_una (fun x H locs lsa rest k => lv_i2s hexec hb hd rfl k) hx kk
  · split at hx
    case h_2 => cases hx
    cases hx
    exact fun hS hL H locs lsa hP hSt hl => lv_i2l hexec hb hd rfl (kk (okS_cons.mpr ⟨trivial, (okS_cons.mp hS).2⟩) hL H locs lsa hP hSt hl)
  · split at hx
    case h_2 => cases hx
    cases hx
    exact fun hS hL H locs lsa hP hSt hl => W.lcmp hexec hb hd (kk (okS_cons.mpr ⟨trivial, (okS_cons.mp (okS_cons.mp hS).2).2⟩) hL H locs lsa hP hSt hl)
  · split at hx
    case h_3 => cases hx
    · cases hx
      exact fun hS hL H locs lsa hP hSt hl => lv_dup hexec hb hd rfl (kk (okS_cons.mpr ⟨trivial, hS⟩) hL H locs lsa hP hSt hl)
    · cases hx
      exact fun hS hL H locs lsa hP hSt hl => lv_dup hexec hb hd rfl (kk (okS_cons.mpr ⟨(okS_cons.mp hS).1, hS⟩) hL H locs lsa hP hSt hl)
  · split at hx
    case h_3 => cases hx
    · cases hx
      exact fun hS hL H locs lsa hP hSt hl => lv_dup2_11 hexec hb hd rfl rfl (kk (okS_cons.mpr ⟨trivial, okS_cons.mpr ⟨trivial, hS⟩⟩) hL H locs lsa hP hSt hl)
    · cases hx
      exact fun hS hL H locs lsa hP hSt hl => lv_dup2_11 hexec hb hd rfl rfl (kk (okS_cons.mpr ⟨trivial, okS_cons.mpr ⟨(okS_cons.mp (okS_cons.mp hS).2).1, hS⟩⟩) hL H locs lsa hP hSt hl)
  · exact gg_get hC hd hx kk
  · exact gg_put hC hd hx kk
  · split at hx
    case h_2 => cases hx
    rename_i x hz
    cases hx
    refine gg_push (v := .inl x) (fun H locs lsa rest k => lv_ldc hexec hb hown (hts _ (hpt.2.1 (_, x) ?_)) hd k) trivial kk
    obtain ⟨l1, l2, h1, -⟩ := List.lookup_eq_some_iff.mp hz
    rw [h1]; simp
  · split at hx
    case h_2 => cases hx
    rename_i x hz
    cases hx
    refine gg_push (v := .inr (.inl x)) (fun H locs lsa rest k => lv_ldc2 hexec hb hown (hts _ (hpt.2.2 (_, x) ?_)) hd k) trivial kk
    obtain ⟨l1, l2, h1, -⟩ := List.lookup_eq_some_iff.mp hz
    rw [h1]; simp
  · cases hx
