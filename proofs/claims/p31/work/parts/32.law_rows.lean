/-! ===== the law's own rows ===== -/
/-- what stands in the law's body, with all its cells or all but the last three -/
def MW (X : XT) : Prop := GC X code P_L ∧ (xR X = room_1 ∧ xcl X ≤ 600000 ∧ xsl X ≤ 7302250) ∧ (∀ q, frA (xV X) (xA X) q → (xs X).heap.size ≤ q) ∧ (xM X).sig.returnType = ret ∧ (∃ b : Nat, xa X = #[Value.ref b])
def El (X : XT) (r : Int32) (_ : Mem) : State → Prop := fun t => r = 1 → lw_Z (xb X) (xa X) (xs X) t
/-- the first piece: if behind it, with these codes and fish, the law ends well, it does -/
def EA (X : XT) (r : Int32 × Int32) (m' : Mem) : State → Prop := fun t => GG X (lw_Z (xb X) (xa X) (xs X)) 59 [some (.inr (.inr (60, 0))), some (.inr (.inr (0, 0))), some (.inr (.inr (70, 0))), some (.inl r.1), some (.inl r.2), none, none, none, none, none, none, none, none, none, none, none, none] [] m' → lw_Z (xb X) (xa X) (xs X) t
theorem MW.room {X : XT} (h : MW X) {d maxL : Nat} (h1 : d + 1 ≤ 7) (h2 : maxL ≤ 21) : d + 1 ≤ (xR X).frames ∧ 8 + (maxL + 11) + 40 * d ≤ (xR X).locals := by
  rw [h.2.1.1]
  show d + 1 ≤ 9 ∧ 8 + (maxL + 11) + 40 * d ≤ 328
  omega
theorem MW.cl {X : XT} (h : MW X) : xcl X ≤ (xR X).cells ∧ xsl X ≤ (xR X).slots := by
  rw [h.2.1.1]
  exact h.2.1.2
section GLAW
variable {X : XT} {pc : Nat} {ls : ALs} {m : Mem}
theorem go_law0 : Go X (El X) pc ls [.inl (0 : Int32)] m (some ((0 : Int32), m)) := by
  intro r m2 ho hS hL H locs lsa hP hSt hl
  cases ho
  intro T hT Xs
  exact ⟨_, Steps.refl _, fun q => absurd q (by decide)⟩
theorem go_law1 (h : MW X) (hd : decode code pc = .ok (.ireturn, 1)) : Go X (El X) pc ls [.inl (1 : Int32)] m (some ((1 : Int32), m)) := by
  intro r m2 ho hS hL H locs lsa hP hSt hl
  cases ho
  obtain ⟨b, hb⟩ := h.2.2.2.2
  have k : xW X (lw_Z (xb X) (xa X) (xs X)) H locs (F0 (xm X) pc lsa [.int 1]) := by
    have hrow := lw_ret (p := xp X) (l := xl X) (e := xe X) (s := xs X) (m := xm X) (below := xb X) (meth := xM X) (c := xc X) (b := b) (pc := pc) (H := H) (ls := lsa) h.1.1 h.1.2.1 h.2.2.2.1 h.1.2.2.2.2.2.2.2.2.1 hd
    have h2 := W.widen h.2.1.2.1 h.2.1.2.2 hrow
    have h3 := va_forget (fun q hq => h.2.2.1 _ (hSt.2.2 q hq)) h2
    show W (xp X) (xl X) (xe X) (xR X) (xs X) (xm X) (xa X) (xb X) (xM X) (xc X) H locs (xcl X) (xsl X) _ _
    rw [h.2.1.1, hb]
    exact h3
  intro T hT Xs
  obtain ⟨t, a1, b1⟩ := k T hT Xs
  exact ⟨t, a1, fun _ => b1⟩
theorem go_stop {x y : Int32} : Go X (EA X) 59 [some (.inr (.inr (60, 0))), some (.inr (.inr (0, 0))), some (.inr (.inr (70, 0))), some (.inl x), some (.inl y), none, none, none, none, none, none, none, none, none, none, none, none] [] m (some ((x, y), m)) := by
  intro r m2 ho hS hL H locs lsa hP hSt hl
  cases ho
  intro T hT Xs
  by_cases hg : GG X (lw_Z (xb X) (xa X) (xs X)) 59 [some (.inr (.inr (60, 0))), some (.inr (.inr (0, 0))), some (.inr (.inr (70, 0))), some (.inl x), some (.inl y), none, none, none, none, none, none, none, none, none, none, none, none] [] m
  · obtain ⟨t, a1, b1⟩ := hg hS hL H locs lsa hP hSt hl T hT Xs
    exact ⟨t, a1, fun _ => b1⟩
  · exact ⟨_, Steps.refl _, fun q => absurd q hg⟩
end GLAW
