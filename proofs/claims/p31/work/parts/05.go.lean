/-! ===== straight rows ===== -/
variable {ph : Bool}
def exN (P : PT) : List Instr → ALs → ASt → Mem → Option (ALs × ASt × Mem)
  | [], ls, st, m => some (ls, st, m)
  | i :: r, ls, st, m => match ex1 P i ls st m with
    | some q => exN P r q.1 q.2.1 q.2.2
    | none => none
def blk (cc : ByteArray) : Nat → List Instr → Nat → Bool
  | pc, [], e => Nat.beq pc e
  | pc, i :: r, e => decide (decode cc pc = .ok (i, ilen i)) && blk cc (pc + ilen i) r e
theorem gg_blk {X : XT} {cc : ByteArray} {P : PT} {Q : State → Prop} (hC : GC X cc P) : ∀ {is : List Instr} {pc pc' : Nat} {ls ls' : ALs} {st st' : ASt} {m m' : Mem}, blk cc pc is pc' = true → exN P is ls st m = some (ls', st', m') → GG X Q pc' ls' st' m' → GG X Q pc ls st m
  | [], pc, pc', ls, ls', st, st', m, m', hd, hx, kk => by
    cases hx
    rw [Nat.eq_of_beq_eq_true hd]
    exact kk
  | i :: r, pc, pc', ls, ls', st, st', m, m', hd, hx, kk => by
    simp only [blk, Bool.and_eq_true, decide_eq_true_eq] at hd
    unfold exN at hx
    split at hx
    case h_2 => cases hx
    rename_i q hq
    exact gg_ex1 hC hd.1 hq (gg_blk hC hd.2 hx kk)
/-- if the number's run ends with an answer and a memory, then the machine's does, with these -/
def Go (X : XT) {ρ : Type} (E : ρ → Mem → State → Prop) (pc : Nat) (ls : ALs) (st : ASt) (m : Mem) (o : Option (ρ × Mem)) : Prop := ∀ r m', o = some (r, m') → GG X (E r m') pc ls st m
section GO
variable {X : XT} {cc : ByteArray} {P : PT} {ρ : Type} {E : ρ → Mem → State → Prop} {pc : Nat} {ls : ALs} {st : ASt} {m : Mem} {o : Option (ρ × Mem)}
theorem go_blk (hC : GC X cc P) {is : List Instr} {pc' : Nat} {ls' : ALs} {st' : ASt} {m' : Mem} (hd : blk cc pc is pc' = true) (hx : exN P is ls st m = some (ls', st', m')) (kk : Go X E pc' ls' st' m' o) : Go X E pc ls st m o :=
  fun r m2 h => gg_blk hC hd hx (kk r m2 h)
theorem go_none : Go X E pc ls st m none := fun _ _ h => by cases h
theorem go_ite {c : Prop} [Decidable c] {a b : Option (ρ × Mem)} (ha : c → Go X E pc ls st m a) (hb : ¬ c → Go X E pc ls st m b) : Go X E pc ls st m (if c then a else b) := by
  by_cases h : c
  · rw [if_pos h]; exact ha h
  · rw [if_neg h]; exact hb h
theorem go_goto (hC : GC X cc P) {off : Int} (tgt : Nat) (hd : decode cc pc = .ok (.goto off, 3)) (ht : (pc : Int) + off = (tgt : Int)) (kk : Go X E tgt ls st m o) : Go X E pc ls st m o :=
  fun r m2 h hS hL H locs lsa hP hSt hl => lv_goto hC.1 hC.2.1 hd ht (kk r m2 h hS hL H locs lsa hP hSt hl)
theorem go_br {c : Prop} [Decidable c] {tgt nxt : Nat} {st2 : ASt} {a b : Option (ρ × Mem)} (hok : okS (xV X) st → okS (xV X) st2)
    (row : ∀ (Q : State → Prop) (H : Heap) (locs : List Loc) (lsa : Array Slot), (c → xW X Q H locs (F0 (xm X) tgt lsa (st2.map (cv (xA X))))) → (¬ c → xW X Q H locs (F0 (xm X) nxt lsa (st2.map (cv (xA X))))) → xW X Q H locs (F0 (xm X) pc lsa (st.map (cv (xA X)))))
    (ha : c → Go X E tgt ls st2 m a) (hb : ¬ c → Go X E nxt ls st2 m b) : Go X E pc ls st m (if c then a else b) := by
  intro r m2 h hS hL H locs lsa hP hSt hl
  refine row _ H locs lsa (fun hc => ?_) (fun hc => ?_)
  · rw [if_pos hc] at h
    exact ha hc r m2 h (hok hS) hL H locs lsa hP hSt hl
  · rw [if_neg hc] at h
    exact hb hc r m2 h (hok hS) hL H locs lsa hP hSt hl
theorem ok1 {v : AV} {st : ASt} : okS ph (v :: st) → okS ph st := fun h => (okS_cons.mp h).2
theorem ok2 {v w : AV} {st : ASt} : okS ph (v :: w :: st) → okS ph st := fun h => ok1 (ok1 h)
theorem ok3 {v w u : AV} {st : ASt} : okS ph (v :: w :: u :: st) → okS ph st := fun h => ok1 (ok2 h)
variable {x y : Int32} {off : Int} {a b : Option (ρ × Mem)} {rest : ASt}
theorem go_ifeq (hC : GC X cc P) (tgt : Nat) (hd : decode cc pc = .ok (.ifCond .eq off, 3)) (ht : (pc : Int) + off = (tgt : Int)) (ha : x = 0 → Go X E tgt ls rest m a) (hb : ¬ x = 0 → Go X E (pc + 3) ls rest m b) : Go X E pc ls (.inl x :: rest) m (if x = 0 then a else b) :=
  go_br ok1 (fun Q H locs lsa k1 k2 => lv_if_eq hC.1 hC.2.1 hd ht k1 k2) ha hb
theorem go_ifne (hC : GC X cc P) (tgt : Nat) (hd : decode cc pc = .ok (.ifCond .ne off, 3)) (ht : (pc : Int) + off = (tgt : Int)) (ha : ¬ x = 0 → Go X E tgt ls rest m a) (hb : x = 0 → Go X E (pc + 3) ls rest m b) : Go X E pc ls (.inl x :: rest) m (if x = 0 then b else a) :=
  go_br ok1 (fun Q H locs lsa k1 k2 => lv_if_ne hC.1 hC.2.1 hd ht k2 k1) hb ha
theorem go_iflt (hC : GC X cc P) (tgt : Nat) (hd : decode cc pc = .ok (.ifCond .lt off, 3)) (ht : (pc : Int) + off = (tgt : Int)) (ha : x < 0 → Go X E tgt ls rest m a) (hb : ¬ x < 0 → Go X E (pc + 3) ls rest m b) : Go X E pc ls (.inl x :: rest) m (if x < 0 then a else b) :=
  go_br ok1 (fun Q H locs lsa k1 k2 => lv_if_lt hC.1 hC.2.1 hd ht k1 k2) ha hb
theorem go_ifge (hC : GC X cc P) (tgt : Nat) (hd : decode cc pc = .ok (.ifCond .ge off, 3)) (ht : (pc : Int) + off = (tgt : Int)) (ha : 0 ≤ x → Go X E tgt ls rest m a) (hb : ¬ 0 ≤ x → Go X E (pc + 3) ls rest m b) : Go X E pc ls (.inl x :: rest) m (if 0 ≤ x then a else b) :=
  go_br ok1 (fun Q H locs lsa k1 k2 => lv_if_ge hC.1 hC.2.1 hd ht k1 k2) ha hb
theorem go_ifgt (hC : GC X cc P) (tgt : Nat) (hd : decode cc pc = .ok (.ifCond .gt off, 3)) (ht : (pc : Int) + off = (tgt : Int)) (ha : 0 < x → Go X E tgt ls rest m a) (hb : ¬ 0 < x → Go X E (pc + 3) ls rest m b) : Go X E pc ls (.inl x :: rest) m (if 0 < x then a else b) :=
  go_br ok1 (fun Q H locs lsa k1 k2 => lv_if_gt hC.1 hC.2.1 hd ht k1 k2) ha hb
theorem go_ifle (hC : GC X cc P) (tgt : Nat) (hd : decode cc pc = .ok (.ifCond .le off, 3)) (ht : (pc : Int) + off = (tgt : Int)) (ha : x ≤ 0 → Go X E tgt ls rest m a) (hb : ¬ x ≤ 0 → Go X E (pc + 3) ls rest m b) : Go X E pc ls (.inl x :: rest) m (if x ≤ 0 then a else b) :=
  go_br ok1 (fun Q H locs lsa k1 k2 => lv_if_le hC.1 hC.2.1 hd ht k1 k2) ha hb
theorem go_icmpeq (hC : GC X cc P) (tgt : Nat) (hd : decode cc pc = .ok (.if_icmp .eq off, 3)) (ht : (pc : Int) + off = (tgt : Int)) (ha : x = y → Go X E tgt ls rest m a) (hb : ¬ x = y → Go X E (pc + 3) ls rest m b) : Go X E pc ls (.inl y :: .inl x :: rest) m (if x = y then a else b) :=
  go_br ok2 (fun Q H locs lsa k1 k2 => lv_icmp_eq hC.1 hC.2.1 hd ht k1 k2) ha hb
theorem go_icmpne (hC : GC X cc P) (tgt : Nat) (hd : decode cc pc = .ok (.if_icmp .ne off, 3)) (ht : (pc : Int) + off = (tgt : Int)) (ha : ¬ x = y → Go X E tgt ls rest m a) (hb : x = y → Go X E (pc + 3) ls rest m b) : Go X E pc ls (.inl y :: .inl x :: rest) m (if x = y then b else a) :=
  go_br ok2 (fun Q H locs lsa k1 k2 => lv_icmp_ne hC.1 hC.2.1 hd ht k2 k1) hb ha
theorem go_icmplt (hC : GC X cc P) (tgt : Nat) (hd : decode cc pc = .ok (.if_icmp .lt off, 3)) (ht : (pc : Int) + off = (tgt : Int)) (ha : x < y → Go X E tgt ls rest m a) (hb : ¬ x < y → Go X E (pc + 3) ls rest m b) : Go X E pc ls (.inl y :: .inl x :: rest) m (if x < y then a else b) :=
  go_br ok2 (fun Q H locs lsa k1 k2 => lv_icmp_lt hC.1 hC.2.1 hd ht k1 k2) ha hb
theorem go_icmpge (hC : GC X cc P) (tgt : Nat) (hd : decode cc pc = .ok (.if_icmp .ge off, 3)) (ht : (pc : Int) + off = (tgt : Int)) (ha : y ≤ x → Go X E tgt ls rest m a) (hb : ¬ y ≤ x → Go X E (pc + 3) ls rest m b) : Go X E pc ls (.inl y :: .inl x :: rest) m (if y ≤ x then a else b) :=
  go_br ok2 (fun Q H locs lsa k1 k2 => lv_icmp_ge hC.1 hC.2.1 hd ht k1 k2) ha hb
theorem go_icmpgt (hC : GC X cc P) (tgt : Nat) (hd : decode cc pc = .ok (.if_icmp .gt off, 3)) (ht : (pc : Int) + off = (tgt : Int)) (ha : y < x → Go X E tgt ls rest m a) (hb : ¬ y < x → Go X E (pc + 3) ls rest m b) : Go X E pc ls (.inl y :: .inl x :: rest) m (if y < x then a else b) :=
  go_br ok2 (fun Q H locs lsa k1 k2 => lv_icmp_gt hC.1 hC.2.1 hd ht k1 k2) ha hb
theorem go_icmple (hC : GC X cc P) (tgt : Nat) (hd : decode cc pc = .ok (.if_icmp .le off, 3)) (ht : (pc : Int) + off = (tgt : Int)) (ha : x ≤ y → Go X E tgt ls rest m a) (hb : ¬ x ≤ y → Go X E (pc + 3) ls rest m b) : Go X E pc ls (.inl y :: .inl x :: rest) m (if x ≤ y then a else b) :=
  go_br ok2 (fun Q H locs lsa k1 k2 => lv_icmp_le hC.1 hC.2.1 hd ht k1 k2) ha hb
end GO
/-! ===== arrays: a place outside has no run ===== -/
abbrev ix (j : Int32) : Nat := j.toNatClampNeg
def inB (j : Int32) (n : Nat) : Bool := decide (0 ≤ j) && Nat.blt (ix j) n
theorem inB_in {j : Int32} {n : Nat} (h : inB j n = true) : vp_in j n ∧ ix j < n := by
  unfold inB at h
  rw [Bool.and_eq_true, decide_eq_true_eq] at h
  have h2 : ix j < n := Nat.blt_eq.mp h.2
  refine ⟨?_, h2⟩
  rintro (q | q)
  · have h1 := h.1
    rw [Int32.lt_iff_toInt_lt] at q
    rw [Int32.le_iff_toInt_le] at h1
    omega
  · exact absurd h2 (Nat.not_lt.mpr q)
/-- a quotient gets a name -/
def dv {α β : Type} (a : α) (k : α → β) : β := k a
section GA
variable {X : XT} {cc : ByteArray} {P : PT} {ρ : Type} {E : ρ → Mem → State → Prop} {pc : Nat} {ls : ALs} {m : Mem} {o : Option (ρ × Mem)} {rest : ASt} {t i n : Nat} {j : Int32}
theorem go_iald (hC : GC X cc P) (hd : decode cc pc = .ok (.iaload, 1)) (hc : sh_cls t = none) (ha : sh_arr t = some (0, n)) (kk : inB j n = true → Go X E (pc + 1) ls (.inl (m t i (ix j)) :: rest) m o) :
    Go X E pc ls (.inl j :: .inr (.inr (t, i)) :: rest) m (if inB j n = true then o else none) := by
  intro r m2 h hS hL H locs lsa hP hSt hl
  split at h
  case isFalse => cases h
  rename_i hin
  have hq : (t, i) ∈ vrefs (xV X) := ok_arr (okS_cons.mp (ok1 hS)).1 ha
  obtain ⟨q0, hq0, hw⟩ := wsM_at (ph := xV X) (A := xA X) (cs := xk X) (m := m) hq
  rw [cellOf_arr hc ha] at hw
  exact va_iald hC.1 hC.2.1 hC.2.2.2.2.2.2.1 hP q0 0 hw rfl (inB_in hin).1 hd (kk hin r m2 h (okS_cons.mpr ⟨trivial, ok2 hS⟩) hL H locs lsa hP hSt hl)
theorem go_iast (hC : GC X cc P) {v : Int32} (hd : decode cc pc = .ok (.iastore, 1)) (hc : sh_cls t = none) (ha : sh_arr t = some (0, n)) (kk : inB j n = true → Go X E (pc + 1) ls rest (mset m t i (ix j) v) o) :
    Go X E pc ls (.inl v :: .inl j :: .inr (.inr (t, i)) :: rest) m (if inB j n = true then o else none) := by
  intro r m2 h hS hL H locs lsa hP hSt hl
  split at h
  case isFalse => cases h
  rename_i hin
  have hq : (t, i) ∈ vrefs (xV X) := ok_arr (okS_cons.mp (ok2 hS)).1 ha
  obtain ⟨q0, hq0, hw⟩ := wsM_at (ph := xV X) (A := xA X) (cs := xk X) (m := m) hq
  rw [cellOf_arr hc ha] at hw
  refine va_iast hC.1 hC.2.1 hC.2.2.2.2.2.2.1 hP (wsM_D hC.2.2.2.2.2.2.2.1.1 m) hSt q0 0 hw rfl (inB_in hin).1 hd (fun H1 locs1 hP1 _ hS1 => ?_)
  refine kk hin r m2 h (ok3 hS) hL H1 locs1 lsa ?_ hS1 hl
  rw [← wsM_set hq0, cellOf_arr hc ha, mset_row]
  exact hP1
theorem go_aald (hC : GC X cc P) {kd : Nat} {z : AR} (hd : decode cc pc = .ok (.aaload, 1)) (hc : sh_cls t = none) (ha : sh_arr t = some (kd + 1, n)) (hk : kd < 3) (hz : sh_ref t i (ix j) = some z) (kk : inB j n = true → Go X E (pc + 1) ls (.inr (.inr z) :: rest) m o) :
    Go X E pc ls (.inl j :: .inr (.inr (t, i)) :: rest) m (if inB j n = true then o else none) := by
  intro r m2 h hS hL H locs lsa hP hSt hl
  split at h
  case isFalse => cases h
  rename_i hin
  have hq : (t, i) ∈ vrefs (xV X) := ok_arr (okS_cons.mp (ok1 hS)).1 ha
  obtain ⟨q0, hq0, hw⟩ := wsM_at (ph := xV X) (A := xA X) (cs := xk X) (m := m) hq
  rw [cellOf_arq hc ha] at hw
  obtain ⟨hin1, hin2⟩ := inB_in hin
  have hzr : z ∈ vrefs (xV X) := sh_closed hq (k := ix j) (by show ix j < lenOf t; unfold lenOf; rw [hc]; dsimp only; rw [ha]; exact hin2) hz
  have hty : (elT (kd + 1)).isReference = true := by
    match kd, hk with
    | 0, _ => rfl
    | 1, _ => rfl
    | 2, _ => rfl
  refine W.aald (v := .ref (xA X z)) (ty := elT (kd + 1)) hC.1 hC.2.1 (hP q0 _ hw) ((hC.2.2.2.2.2.2.1.2 (kd + 1) _ (tysM_at (by omega))).1 n (fun j => va_rf ((fun j => if j < n then (sh_ref t i j).map (xA X) else none) j))) hty (fun q => by cases q) (by show ¬ (j < 0 ∨ (arrV _ _ _).slots.size ≤ _); rw [arrV_size]; exact hin1) ?_ rfl rfl hd ?_
  · show (arrV _ _ _).slots[_]? = _
    rw [arrV_read _ _ hin2]
    show some (va_rf (if ix j < n then (sh_ref t i (ix j)).map (xA X) else none)) = _
    rw [if_pos hin2, hz]
    rfl
  · exact kk hin r m2 h (okS_cons.mpr ⟨Or.inl hzr, ok2 hS⟩) hL H locs lsa hP hSt hl
theorem go_alen (hC : GC X cc P) (hd : decode cc pc = .ok (.arraylength, 1)) (hc : sh_cls t = none) (ha : sh_arr t = some (0, n)) (kk : Go X E (pc + 1) ls (.inl (Int32.ofNat n) :: rest) m o) : Go X E pc ls (.inr (.inr (t, i)) :: rest) m o := by
  intro r m2 h hS hL H locs lsa hP hSt hl
  have hq : (t, i) ∈ vrefs (xV X) := ok_arr (okS_cons.mp hS).1 ha
  obtain ⟨q0, hq0, hw⟩ := wsM_at (ph := xV X) (A := xA X) (cs := xk X) (m := m) hq
  rw [cellOf_arr hc ha] at hw
  exact va_alen hC.1 hC.2.1 hC.2.2.2.2.2.2.1 hP q0 0 hw rfl rfl hd (kk r m2 h (okS_cons.mpr ⟨trivial, ok1 hS⟩) hL H locs lsa hP hSt hl)
variable {x y : Int32} {u w : Int64}
theorem go_guard {c : Prop} [Decidable c] {pc2 : Nat} {st st2 : ASt} (hok : okS (xV X) st → okS (xV X) st2) (row : c → ∀ (Q : State → Prop) (H : Heap) (locs : List Loc) (lsa : Array Slot), xW X Q H locs (F0 (xm X) pc2 lsa (st2.map (cv (xA X)))) → xW X Q H locs (F0 (xm X) pc lsa (st.map (cv (xA X))))) (kk : c → Go X E pc2 ls st2 m o) :
    Go X E pc ls st m (if c then o else none) := by
  intro r m2 h hS hL H locs lsa hP hSt hl
  split at h
  case isFalse => cases h
  rename_i hc
  exact row hc _ H locs lsa (kk hc r m2 h (hok hS) hL H locs lsa hP hSt hl)
theorem okT {v : AV} {st : ASt} (hv : okV ph v) (h : okS ph st) : okS ph (v :: st) := okS_cons.mpr ⟨hv, h⟩
theorem go_idiv (hC : GC X cc P) (hd : decode cc pc = .ok (.idiv, 1)) {k : Int32 → Option (ρ × Mem)} (kk : ¬ y = 0 → ∀ q, q = x / y → Go X E (pc + 1) ls (.inl q :: rest) m (k q)) : Go X E pc ls (.inl y :: .inl x :: rest) m (if ¬ y = 0 then dv (x / y) k else none) :=
  go_guard (fun h => okT (v := .inl (x / y)) trivial (ok2 h)) (fun hc Q H locs lsa k => lv_idiv hC.1 hC.2.1 hd hc k) (fun hc => kk hc _ rfl)
theorem go_irem (hC : GC X cc P) (hd : decode cc pc = .ok (.irem, 1)) {k : Int32 → Option (ρ × Mem)} (kk : ¬ y = 0 → ∀ q, q = x - x / y * y → Go X E (pc + 1) ls (.inl q :: rest) m (k q)) : Go X E pc ls (.inl y :: .inl x :: rest) m (if ¬ y = 0 then dv (x - x / y * y) k else none) :=
  go_guard (fun h => okT (v := .inl (x - x / y * y)) trivial (ok2 h)) (fun hc Q H locs lsa k => lv_irem hC.1 hC.2.1 hd hc k) (fun hc => kk hc _ rfl)
theorem go_ldiv (hC : GC X cc P) (hd : decode cc pc = .ok (.ldiv, 1)) {k : Int64 → Option (ρ × Mem)} (kk : ¬ w = 0 → ∀ q, q = u / w → Go X E (pc + 1) ls (.inr (.inl q) :: rest) m (k q)) : Go X E pc ls (.inr (.inl w) :: .inr (.inl u) :: rest) m (if ¬ w = 0 then dv (u / w) k else none) :=
  go_guard (fun h => okT (v := .inr (.inl (u / w))) trivial (ok2 h)) (fun hc Q H locs lsa k => lv_ldiv hC.1 hC.2.1 hd hc k) (fun hc => kk hc _ rfl)
theorem go_lrem (hC : GC X cc P) (hd : decode cc pc = .ok (.lrem, 1)) {k : Int64 → Option (ρ × Mem)} (kk : ¬ w = 0 → ∀ q, q = u - u / w * w → Go X E (pc + 1) ls (.inr (.inl q) :: rest) m (k q)) : Go X E pc ls (.inr (.inl w) :: .inr (.inl u) :: rest) m (if ¬ w = 0 then dv (u - u / w * w) k else none) :=
  go_guard (fun h => okT (v := .inr (.inl (u - u / w * w))) trivial (ok2 h)) (fun hc Q H locs lsa k => lv_lrem hC.1 hC.2.1 hd hc k) (fun hc => kk hc _ rfl)
end GA
/-! ===== loops: a body goes on with the next state, or with the state behind the loop, or answers at once ===== -/
def lpk {σ τ ω : Type} (body : (σ → Option ω) → (τ → Option ω) → σ → Option ω) : Nat → σ → (τ → Option ω) → Option ω
  | 0, _, _ => none
  | n + 1, s, K => body (fun s' => lpk body n s' K) K s
theorem lpk_0 {σ τ ω : Type} (body : (σ → Option ω) → (τ → Option ω) → σ → Option ω) (s : σ) (K : τ → Option ω) : lpk body 0 s K = none := rfl
theorem lpk_s {σ τ ω : Type} (body : (σ → Option ω) → (τ → Option ω) → σ → Option ω) (n : Nat) (s : σ) (K : τ → Option ω) : lpk body (n + 1) s K = body (fun s' => lpk body n s' K) K s := rfl
def fuelN : Nat := 5000
def bnd {α β : Type} (o : Option (α × Mem)) (k : α → Mem → Option β) : Option β := match o with
  | none => none
  | some q => k q.1 q.2
theorem bnd_some {α β : Type} (a : α) (m : Mem) (k : α → Mem → Option β) : bnd (some (a, m)) k = k a m := rfl
theorem go_lp0 {τ ω : Type} {body : (Mem → Option ω) → (τ → Option ω) → Mem → Option ω} {hd : Mem → Option ω → Prop} {K : τ → Option ω}
    (h0 : ∀ (m : Mem), hd m none) (hb : ∀ (m : Mem) (next : Mem → Option ω), (∀ (m : Mem), hd m (next m)) → hd m (body next K m)) :
    ∀ (n : Nat) (m : Mem), hd m (lpk body n m K)
  | 0, m => h0 m
  | n + 1, m => hb m _ (fun m => go_lp0 h0 hb n m)
theorem go_lp1 {T0 τ ω : Type} {body : (T0 × Mem → Option ω) → (τ → Option ω) → T0 × Mem → Option ω} {hd : T0 → Mem → Option ω → Prop} {K : τ → Option ω}
    (h0 : ∀ (a0 : T0) (m : Mem), hd a0 m none) (hb : ∀ (a0 : T0) (m : Mem) (next : T0 × Mem → Option ω), (∀ (a0 : T0) (m : Mem), hd a0 m (next (a0, m))) → hd a0 m (body next K (a0, m))) :
    ∀ (n : Nat) (a0 : T0) (m : Mem), hd a0 m (lpk body n (a0, m) K)
  | 0, a0, m => h0 a0 m
  | n + 1, a0, m => hb a0 m _ (fun a0 m => go_lp1 h0 hb n a0 m)
theorem go_lp2 {T0 T1 τ ω : Type} {body : (T0 × T1 × Mem → Option ω) → (τ → Option ω) → T0 × T1 × Mem → Option ω} {hd : T0 → T1 → Mem → Option ω → Prop} {K : τ → Option ω}
    (h0 : ∀ (a0 : T0) (a1 : T1) (m : Mem), hd a0 a1 m none) (hb : ∀ (a0 : T0) (a1 : T1) (m : Mem) (next : T0 × T1 × Mem → Option ω), (∀ (a0 : T0) (a1 : T1) (m : Mem), hd a0 a1 m (next (a0, a1, m))) → hd a0 a1 m (body next K (a0, a1, m))) :
    ∀ (n : Nat) (a0 : T0) (a1 : T1) (m : Mem), hd a0 a1 m (lpk body n (a0, a1, m) K)
  | 0, a0, a1, m => h0 a0 a1 m
  | n + 1, a0, a1, m => hb a0 a1 m _ (fun a0 a1 m => go_lp2 h0 hb n a0 a1 m)
theorem go_lp3 {T0 T1 T2 τ ω : Type} {body : (T0 × T1 × T2 × Mem → Option ω) → (τ → Option ω) → T0 × T1 × T2 × Mem → Option ω} {hd : T0 → T1 → T2 → Mem → Option ω → Prop} {K : τ → Option ω}
    (h0 : ∀ (a0 : T0) (a1 : T1) (a2 : T2) (m : Mem), hd a0 a1 a2 m none) (hb : ∀ (a0 : T0) (a1 : T1) (a2 : T2) (m : Mem) (next : T0 × T1 × T2 × Mem → Option ω), (∀ (a0 : T0) (a1 : T1) (a2 : T2) (m : Mem), hd a0 a1 a2 m (next (a0, a1, a2, m))) → hd a0 a1 a2 m (body next K (a0, a1, a2, m))) :
    ∀ (n : Nat) (a0 : T0) (a1 : T1) (a2 : T2) (m : Mem), hd a0 a1 a2 m (lpk body n (a0, a1, a2, m) K)
  | 0, a0, a1, a2, m => h0 a0 a1 a2 m
  | n + 1, a0, a1, a2, m => hb a0 a1 a2 m _ (fun a0 a1 a2 m => go_lp3 h0 hb n a0 a1 a2 m)
theorem go_lp4 {T0 T1 T2 T3 τ ω : Type} {body : (T0 × T1 × T2 × T3 × Mem → Option ω) → (τ → Option ω) → T0 × T1 × T2 × T3 × Mem → Option ω} {hd : T0 → T1 → T2 → T3 → Mem → Option ω → Prop} {K : τ → Option ω}
    (h0 : ∀ (a0 : T0) (a1 : T1) (a2 : T2) (a3 : T3) (m : Mem), hd a0 a1 a2 a3 m none) (hb : ∀ (a0 : T0) (a1 : T1) (a2 : T2) (a3 : T3) (m : Mem) (next : T0 × T1 × T2 × T3 × Mem → Option ω), (∀ (a0 : T0) (a1 : T1) (a2 : T2) (a3 : T3) (m : Mem), hd a0 a1 a2 a3 m (next (a0, a1, a2, a3, m))) → hd a0 a1 a2 a3 m (body next K (a0, a1, a2, a3, m))) :
    ∀ (n : Nat) (a0 : T0) (a1 : T1) (a2 : T2) (a3 : T3) (m : Mem), hd a0 a1 a2 a3 m (lpk body n (a0, a1, a2, a3, m) K)
  | 0, a0, a1, a2, a3, m => h0 a0 a1 a2 a3 m
  | n + 1, a0, a1, a2, a3, m => hb a0 a1 a2 a3 m _ (fun a0 a1 a2 a3 m => go_lp4 h0 hb n a0 a1 a2 a3 m)
theorem go_lp5 {T0 T1 T2 T3 T4 τ ω : Type} {body : (T0 × T1 × T2 × T3 × T4 × Mem → Option ω) → (τ → Option ω) → T0 × T1 × T2 × T3 × T4 × Mem → Option ω} {hd : T0 → T1 → T2 → T3 → T4 → Mem → Option ω → Prop} {K : τ → Option ω}
    (h0 : ∀ (a0 : T0) (a1 : T1) (a2 : T2) (a3 : T3) (a4 : T4) (m : Mem), hd a0 a1 a2 a3 a4 m none) (hb : ∀ (a0 : T0) (a1 : T1) (a2 : T2) (a3 : T3) (a4 : T4) (m : Mem) (next : T0 × T1 × T2 × T3 × T4 × Mem → Option ω), (∀ (a0 : T0) (a1 : T1) (a2 : T2) (a3 : T3) (a4 : T4) (m : Mem), hd a0 a1 a2 a3 a4 m (next (a0, a1, a2, a3, a4, m))) → hd a0 a1 a2 a3 a4 m (body next K (a0, a1, a2, a3, a4, m))) :
    ∀ (n : Nat) (a0 : T0) (a1 : T1) (a2 : T2) (a3 : T3) (a4 : T4) (m : Mem), hd a0 a1 a2 a3 a4 m (lpk body n (a0, a1, a2, a3, a4, m) K)
  | 0, a0, a1, a2, a3, a4, m => h0 a0 a1 a2 a3 a4 m
  | n + 1, a0, a1, a2, a3, a4, m => hb a0 a1 a2 a3 a4 m _ (fun a0 a1 a2 a3 a4 m => go_lp5 h0 hb n a0 a1 a2 a3 a4 m)
theorem go_lp6 {T0 T1 T2 T3 T4 T5 τ ω : Type} {body : (T0 × T1 × T2 × T3 × T4 × T5 × Mem → Option ω) → (τ → Option ω) → T0 × T1 × T2 × T3 × T4 × T5 × Mem → Option ω} {hd : T0 → T1 → T2 → T3 → T4 → T5 → Mem → Option ω → Prop} {K : τ → Option ω}
    (h0 : ∀ (a0 : T0) (a1 : T1) (a2 : T2) (a3 : T3) (a4 : T4) (a5 : T5) (m : Mem), hd a0 a1 a2 a3 a4 a5 m none) (hb : ∀ (a0 : T0) (a1 : T1) (a2 : T2) (a3 : T3) (a4 : T4) (a5 : T5) (m : Mem) (next : T0 × T1 × T2 × T3 × T4 × T5 × Mem → Option ω), (∀ (a0 : T0) (a1 : T1) (a2 : T2) (a3 : T3) (a4 : T4) (a5 : T5) (m : Mem), hd a0 a1 a2 a3 a4 a5 m (next (a0, a1, a2, a3, a4, a5, m))) → hd a0 a1 a2 a3 a4 a5 m (body next K (a0, a1, a2, a3, a4, a5, m))) :
    ∀ (n : Nat) (a0 : T0) (a1 : T1) (a2 : T2) (a3 : T3) (a4 : T4) (a5 : T5) (m : Mem), hd a0 a1 a2 a3 a4 a5 m (lpk body n (a0, a1, a2, a3, a4, a5, m) K)
  | 0, a0, a1, a2, a3, a4, a5, m => h0 a0 a1 a2 a3 a4 a5 m
  | n + 1, a0, a1, a2, a3, a4, a5, m => hb a0 a1 a2 a3 a4 a5 m _ (fun a0 a1 a2 a3 a4 a5 m => go_lp6 h0 hb n a0 a1 a2 a3 a4 a5 m)
