/-! ===== the law's own rows ===== -/
def P_L : PT := (RL, [], [], [])
theorem pt_L : ptOk P_L := ⟨fun _ h => absurd h List.not_mem_nil, fun _ h => absurd h List.not_mem_nil, fun _ h => absurd h List.not_mem_nil⟩
/-- what stands in the law behind its two constructors -/
def MW (X : XT) (L : Nat) (xsc : Nat → Int32) : Prop := GC X code P_L ∧ (xR X = room_1 ∧ xcl X ≤ 600000 ∧ xsl X ≤ 7302250) ∧ (va_X (xA X (60, 0)) L xsc (xs X) (xs X).heap ∧ xA X (60, 0) < (xs X).heap.size ∧ ¬ frA (xA X) (xA X (60, 0))) ∧ (∀ q, frA (xA X) q → (xs X).heap.size ≤ q) ∧ (xM X).sig.returnType = ret ∧ (∃ b : Nat, xa X = #[Value.ref b])
def El (X : XT) (r : Int32) (_ : Mem) : State → Prop := fun t => r = 1 → lw_Z (xb X) (xa X) (xs X) t
theorem MW.room {X : XT} {L : Nat} {xsc : Nat → Int32} (h : MW X L xsc) {d maxL : Nat} (h1 : d + 1 ≤ 2048) (h2 : maxL ≤ 21) : d + 1 ≤ (xR X).frames ∧ 8 + (maxL + 11) + 40 * d ≤ (xR X).locals := by
  rw [h.2.1.1]
  show d + 1 ≤ 2048 ∧ 8 + (maxL + 11) + 40 * d ≤ 84000
  omega
theorem MW.cl {X : XT} {L : Nat} {xsc : Nat → Int32} (h : MW X L xsc) : xcl X ≤ (xR X).cells ∧ xsl X ≤ (xR X).slots := by
  rw [h.2.1.1]
  exact h.2.1.2
section GLAW
variable {X : XT} {L : Nat} {xsc : Nat → Int32} {pc : Nat} {ls : ALs} {m : Mem} {rest : ASt} {ρ : Type} {E : ρ → Mem → State → Prop} {o : Option (ρ × Mem)}
theorem go_slen (h : MW X L xsc) (hd : decode code pc = .ok (.arraylength, 1)) (kk : Go X E (pc + 1) ls (.inl (Int32.ofNat L) :: rest) m o) : Go X E pc ls (.inr (.inr (60, 0)) :: rest) m o := by
  intro r m2 ho hS hL H locs lsa hP hSt hl
  exact va_slen h.1.1 h.1.2.1 h.2.2.1.1 h.2.2.1.2.1 h.2.2.1.2.2 hSt hd (kk r m2 ho (okT trivial (ok1 hS)) hL H locs lsa hP hSt hl)
theorem go_sld (h : MW X L xsc) {j : Int32} (hd : decode code pc = .ok (.iaload, 1)) (kk : inB j L = true → Go X E (pc + 1) ls (.inl (xsc (ix j)) :: rest) m o) : Go X E pc ls (.inl j :: .inr (.inr (60, 0)) :: rest) m (if inB j L = true then o else none) := by
  intro r m2 ho hS hL H locs lsa hP hSt hl
  split at ho
  case isFalse => cases ho
  rename_i hin
  exact va_sld h.1.1 h.1.2.1 h.2.2.1.1 h.2.2.1.2.1 h.2.2.1.2.2 hSt (inB_in hin).1 hd (kk hin r m2 ho (okT trivial (ok2 hS)) hL H locs lsa hP hSt hl)
theorem go_law0 : Go X (El X) pc ls [.inl (0 : Int32)] m (some ((0 : Int32), m)) := by
  intro r m2 ho hS hL H locs lsa hP hSt hl
  cases ho
  intro T hT Xs
  exact ⟨_, Steps.refl _, fun q => absurd q (by decide)⟩
theorem go_law1 (h : MW X L xsc) (hd : decode code pc = .ok (.ireturn, 1)) : Go X (El X) pc ls [.inl (1 : Int32)] m (some ((1 : Int32), m)) := by
  intro r m2 ho hS hL H locs lsa hP hSt hl
  cases ho
  obtain ⟨b, hb⟩ := h.2.2.2.2.2
  have k : xW X (lw_Z (xb X) (xa X) (xs X)) H locs (F0 (xm X) pc lsa [.int 1]) := by
    have hrow := lw_ret (p := xp X) (l := xl X) (e := xe X) (s := xs X) (m := xm X) (below := xb X) (meth := xM X) (c := xc X) (b := b) (pc := pc) (H := H) (ls := lsa) h.1.1 h.1.2.1 h.2.2.2.2.1 h.1.2.2.2.2.2.2.2.2.1 hd
    have h2 := W.widen h.2.1.2.1 h.2.1.2.2 hrow
    have h3 := va_forget (fun q hq => h.2.2.2.1 _ (hSt.2.2 q hq)) h2
    show W (xp X) (xl X) (xe X) (xR X) (xs X) (xm X) (xa X) (xb X) (xM X) (xc X) H locs (xcl X) (xsl X) _ _
    rw [h.2.1.1, hb]
    exact h3
  intro T hT Xs
  obtain ⟨t, a1, b1⟩ := k T hT Xs
  exact ⟨t, a1, fun _ => b1⟩
end GLAW
