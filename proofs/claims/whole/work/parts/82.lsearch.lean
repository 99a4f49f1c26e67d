/-! ===== least, the class: the search ===== -/
theorem bst_le : ∀ (l : List (Nat × List Nat)) (B : Nat × List Nat), (bstS B l).1 ≤ B.1
  | [], B => Nat.le_refl _
  | x :: l, B => by
    show (bstS (if x.1 < B.1 then x else B) l).1 ≤ B.1
    have := bst_le l (if x.1 < B.1 then x else B)
    split at this
    · rename_i c
      rw [if_pos c]
      omega
    · rename_i c
      rw [if_neg c]
      exact this
theorem due_le {F C : FdT} {w : Nat} (hW : WC F) : ∀ t f, f + t ≤ F 0 0 → dueS F w C f t ≤ 1000000 * t
  | 0, f, _ => by unfold dueS; omega
  | t + 1, f, h => by
    have ih := due_le (C := C) (w := w) hW t (f + 1) (by omega)
    have := cheap_le (C := C) (w := w) hW (show f < F 0 0 by omega)
    rw [dueS_s]
    split <;> omega
def preS (pre : List Nat) (l : List (Nat × List Nat)) : List (Nat × List Nat) := l.map (fun x => (x.1, pre ++ x.2))
def SeS (m0 m : Mem) (F : FdT) (w : Nat) (C : FdT) (pre : List Nat) (B : Nat × List Nat) : Prop :=
  (∀ t, (t < 7 ∨ 16 < t) → t ≠ 17 → t ≠ 18 → t ≠ 19 → m t = m0 t) ∧ XR m 1 F C ∧ m 17 0 3 = nI w ∧ m 17 0 4 = nI B.1 ∧ (∀ j, j < pre.length → m 18 0 j = nI (pre.getD j 0)) ∧ (B.1 < 1000000 → ∀ j, j < F 0 0 → m 19 0 j = nI (B.2.getD j 0))
def RecOk (rec : Int32 → Mem → Option (Unit × Mem)) (m0 : Mem) (F : FdT) (w k : Nat) : Prop :=
  ∀ (C : FdT) (pre : List Nat) (B : Nat × List Nat) (m : Mem), pre.length + k = F 0 0 → cntS C 0 (F 0 0) = k → CB C (36 * pre.length) → B.1 ≤ 1000000 → SeS m0 m F w C pre B → ∃ m', rec (nI pre.length) m = some ((), m') ∧ SeS m0 m' F w C pre (bstS B (preS pre (extS F w k C)))
theorem getD_app {pre : List Nat} {c j : Nat} (h : j < pre.length) : (pre ++ [c]).getD j 0 = pre.getD j 0 := by
  simp [List.getD_eq_getElem?_getD, List.getElem?_append_left h]
theorem getD_last {pre : List Nat} {c : Nat} : (pre ++ [c]).getD pre.length 0 = c := by
  simp [List.getD_eq_getElem?_getD]
theorem pre_hows {pre : List Nat} {c : Nat} {l : List (Nat × List Nat)} : preS pre (l.map (fun x => (x.1, c :: x.2))) = preS (pre ++ [c]) l := by
  unfold preS
  rw [List.map_map]
  refine List.map_congr_left (fun x _ => ?_)
  simp
theorem pre_app {pre : List Nat} {a b : List (Nat × List Nat)} : preS pre (a ++ b) = preS pre a ++ preS pre b := List.map_append
theorem search_how {rec : Int32 → Mem → Option (Unit × Mem)} {m0 : Mem} {F C : FdT} {w k f : Nat} {pre : List Nat} {K : Mem → Option (Unit × Mem)} (hR : RecOk rec m0 F w k) (hW : WC F) (hw : w < 16) (hd : pre.length + (k + 1) = F 0 0) (hc : cntS C 0 (F 0 0) = k + 1) (hB : CB C (36 * pre.length)) (hf : f < F 0 0) (hb : (C 2 0).testBit f = false) :
    ∀ t h fu m B, h + t = 4 → t < fu → B.1 ≤ 1000000 → SeS m0 m F w C pre B →
      ∃ m', lpk (f_X3_goOn_b75 rec (nI pre.length) (nI f)) fu (nI h, m) K = K m' ∧ SeS m0 m' F w C pre (bstS B (preS pre (howsS F w (extS F w k) C f h t))) := by
  have hn := hW.1
  intro t
  induction t with
  | zero =>
    intro h fu m B hh hfu hB1 hL
    obtain ⟨fu, rfl⟩ : ∃ n', fu = n' + 1 := ⟨fu - 1, by omega⟩
    refine ⟨m, ?_, hL⟩
    rw [lpk_s]
    unfold f_X3_goOn_b75
    dsimp only
    have h3 : (3 : Int32) < nI h := nI_lt (a := 3) (by omega) (by omega)
    rw [if_pos h3]
  | succ t ih =>
    intro h fu m B hh hfu hB1 hL
    obtain ⟨fu, rfl⟩ : ∃ n', fu = n' + 1 := ⟨fu - 1, by omega⟩
    have hlt : ¬ (3 : Int32) < nI h := nI_nlt (a := 3) (by omega) (by decide)
    obtain ⟨l1, hX, l3, l4, l5, l6⟩ := hL
    have hbl := below_c hX hB (show f < 5 by omega)
    rw [hb, if_neg (by decide)] at hbl
    have hmb := mayBe_c (w := w) (h := h) (by omega) (by omega) m
    have sk : ∀ next, f_X3_goOn_j113 rec next K (-2 : Int32) (nI pre.length) (nI f) (nI h) m = next (nI (h + 1), m) := fun next => by
      unfold f_X3_goOn_j113 f_X3_goOn_j151
      rw [if_pos rfl, nI_1]
    have go : ∀ l m3, SeS m0 m3 F w C pre (bstS B (preS pre l)) → (∀ next, f_X3_goOn_b75 rec (nI pre.length) (nI f) next K (nI h, m) = next (nI (h + 1), m3)) → ∃ m', lpk (f_X3_goOn_b75 rec (nI pre.length) (nI f)) (fu + 1) (nI h, m) K = K m' ∧ SeS m0 m' F w C pre (bstS B (preS pre (l ++ howsS F w (extS F w k) C f (h + 1) t))) := fun l m3 hL3 st => by
      obtain ⟨m', r1, r2⟩ := ih (h + 1) fu m3 (bstS B (preS pre l)) (by omega) (by omega) (Nat.le_trans (bst_le _ _) hB1) hL3
      refine ⟨m', ?_, ?_⟩
      · rw [lpk_s, st]
        exact r1
      · rw [pre_app, bst_app]
        exact r2
    rw [howsS_s]
    by_cases c : w.testBit h = true
    · rw [if_pos c]
      rw [if_pos c] at hmb
      have hp := pass_c hX hW hB hf (show h < 4 by omega)
      cases hq : passS F C f h with
      | none =>
        rw [hq] at hp
        refine go [] m ⟨l1, hX, l3, l4, l5, l6⟩ (fun next => ?_)
        unfold f_X3_goOn_b75
        dsimp only
        rw [if_neg hlt, hbl, bnd_some, if_neg (by decide), l3, hmb, bnd_some, if_neg (by decide)]
        dsimp only at hp
        rw [hp, bnd_some, sk]
      | some q =>
        rw [hq] at hp
        obtain ⟨p1, m1, p2, p3, p4⟩ := hp
        have hne : ¬ payI q.2 = -2 := by
          have : ∀ x, x < 6 → ¬ payI x = -2 := by decide
          exact this _ (by omega)
        have ec : (10 : Int32) * nI f + nI h = nI (10 * f + h) := by rw [show (10 : Int32) = nI 10 from rfl, pk_mul, nI_add]
        have hlen : pre.length < 5 := by omega
        obtain ⟨b1, b2⟩ := i5 (f := pre.length) (n := F 0 0) (by omega) hn
        have hu := pass_up hq
        have c1 := cnt_step hb hu (F 0 0) 0
        rw [if_pos ⟨Nat.zero_le _, by omega⟩] at c1
        have hll : (pre ++ [10 * f + h]).length = pre.length + 1 := by simp
        have hL1 : SeS m0 (mset m1 18 0 pre.length (nI (10 * f + h))) F w q.1 (pre ++ [10 * f + h]) B := by
          refine ⟨fun t ht h17 h18 h19 => ?_, ?_, ?_, ?_, fun j hj => ?_, fun h6 j hj => ?_⟩
          · rw [mset_ne h18, p3 t ht, l1 t ht h17 h18 h19]
          · have : XF m1 (mset m1 18 0 pre.length (nI (10 * f + h))) → True := fun _ => trivial
            unfold XR at p4 ⊢
            rw [mset_ne (t := 18) (t' := 7) (by decide), mset_ne (t := 18) (t' := 8) (by decide), mset_ne (t := 18) (t' := 9) (by decide), mset_ne (t := 18) (t' := 10) (by decide), mset_ne (t := 18) (t' := 11) (by decide), mset_ne (t := 18) (t' := 12) (by decide), mset_ne (t := 18) (t' := 14) (by decide)]
            exact p4
          · rw [mset_ne (by decide), p3 17 (by decide)]; exact l3
          · rw [mset_ne (by decide), p3 17 (by decide)]; exact l4
          · by_cases e : j = pre.length
            · subst e
              rw [getD_last]
              simp [mset]
            · have hj' : j < pre.length := by omega
              rw [getD_app hj', ← l5 j hj', ← p3 18 (by decide)]
              simp [mset, e]
          · rw [mset_ne (by decide), p3 19 (by decide)]; exact l6 h6 j hj
        obtain ⟨m2, r1, r2⟩ := hR q.1 (pre ++ [10 * f + h]) B _ (by omega) (by omega) ((passS_CB (p := q.2) hW hf hB hq).mono (by omega)) hB1 hL1
        obtain ⟨s1, s2, s3, s4, s5, s6⟩ := r2
        obtain ⟨m3, u1, u2, u3⟩ := unpass_c hW hB hf (by omega) hq s2
        refine go ((extS F w k q.1).map (fun x => (x.1, (10 * f + h) :: x.2))) m3 ?_ (fun next => ?_)
        · rw [pre_hows]
          refine ⟨fun t ht h17 h18 h19 => by rw [u2 t ht, s1 t ht h17 h18 h19], u3, by rw [u2 17 (by decide)]; exact s3, by rw [u2 17 (by decide)]; exact s4, fun j hj => ?_, fun h6 j hj => by rw [u2 19 (by decide)]; exact s6 h6 j hj⟩
          rw [u2 18 (by decide), s5 j (by omega), getD_app hj]
        · rw [hll] at r1
          unfold f_X3_goOn_b75 f_X3_goOn_j113 f_X3_goOn_j151
          dsimp only
          rw [if_neg hlt, hbl, bnd_some, if_neg (by decide), l3, hmb, bnd_some, if_neg (by decide), p2, bnd_some, if_neg hne, if_pos b1, b2, ec, nI_1, r1, bnd_some, u1, bnd_some, nI_1]
    · rw [if_neg c]
      rw [if_neg c] at hmb
      refine go [] m ⟨l1, hX, l3, l4, l5, l6⟩ (fun next => ?_)
      unfold f_X3_goOn_b75
      dsimp only
      rw [if_neg hlt, hbl, bnd_some, if_neg (by decide), l3, hmb, bnd_some, if_pos rfl, sk]
theorem search_fish {rec : Int32 → Mem → Option (Unit × Mem)} {m0 : Mem} {F C : FdT} {w k : Nat} {pre : List Nat} {K : Mem → Option (Unit × Mem)} (hR : RecOk rec m0 F w k) (hW : WC F) (hw : w < 16) (hd : pre.length + (k + 1) = F 0 0) (hc : cntS C 0 (F 0 0) = k + 1) (hB : CB C (36 * pre.length)) :
    ∀ t f fu m B, f + t = F 0 0 → t < fu → B.1 ≤ 1000000 → SeS m0 m F w C pre B →
      ∃ m', lpk (f_X3_goOn_b64 rec (nI pre.length)) fu (nI f, m) K = K m' ∧ SeS m0 m' F w C pre (bstS B (preS pre (fishS F w (extS F w k) C f t))) := by
  have hn := hW.1
  intro t
  induction t with
  | zero =>
    intro f fu m B hf hfu hB1 hL
    obtain ⟨fu, rfl⟩ : ∃ n', fu = n' + 1 := ⟨fu - 1, by omega⟩
    have hle : m 7 1 8 ≤ nI f := by rw [hL.2.1.1]; exact nI_le (by omega) (by omega)
    refine ⟨m, ?_, hL⟩
    rw [lpk_s]
    unfold f_X3_goOn_b64
    dsimp only
    rw [if_pos hle]
  | succ t ih =>
    intro f fu m B hf hfu hB1 hL
    obtain ⟨fu, rfl⟩ : ∃ n', fu = n' + 1 := ⟨fu - 1, by omega⟩
    have hge : ¬ m 7 1 8 ≤ nI f := by rw [hL.2.1.1]; exact nI_ge (by omega) (by omega)
    have st : ∀ next K, f_X3_goOn_b64 rec (nI pre.length) next K (nI f, m) = lpk (f_X3_goOn_b75 rec (nI pre.length) (nI f)) fuelN (nI 0, m) (fun t75 => next (nI (f + 1), t75)) := fun next K => by
      unfold f_X3_goOn_b64
      dsimp only
      rw [if_neg hge, nI_0, nI_1]
    rw [fishS_s, pre_app, bst_app, lpk_s, st]
    by_cases c : (C 2 0).testBit f = true
    · rw [if_pos c]
      obtain ⟨m', r1, r2⟩ := ih (f + 1) fu m B (by omega) (by omega) hB1 hL
      refine ⟨m', ?_, r2⟩
      have hbl := below_c hL.2.1 hB (show f < 5 by omega)
      rw [if_pos c] at hbl
      rw [show fuelN = fuelN - 1 + 1 from rfl, lpk_s]
      unfold f_X3_goOn_b75
      dsimp only
      have h3 : ¬ (3 : Int32) < nI 0 := by decide
      rw [if_neg h3, hbl, bnd_some, if_pos rfl]
      exact r1
    · rw [if_neg c]
      obtain ⟨m1, q1, q2⟩ := search_how (K := fun t75 => lpk (f_X3_goOn_b64 rec (nI pre.length)) fu (nI (f + 1), t75) K) hR hW hw hd hc hB (show f < F 0 0 by omega) (by simpa using c) 4 0 fuelN m B (by omega) (by decide) hB1 hL
      obtain ⟨m', r1, r2⟩ := ih (f + 1) fu m1 _ (by omega) (by omega) (Nat.le_trans (bst_le _ _) hB1) q2
      exact ⟨m', by rw [q1]; exact r1, r2⟩
theorem search_all {m0 : Mem} {F : FdT} {w : Nat} (hW : WC F) (hw : w < 16) : ∀ k N, k < N → RecOk (f_X3_goOnN N) m0 F w k := by
  have hn := hW.1
  intro k
  induction k with
  | zero =>
    intro N hN C pre B m hd hc hB hB1 hL
    obtain ⟨N, rfl⟩ : ∃ n', N = n' + 1 := ⟨N - 1, by omega⟩
    obtain ⟨l1, hX, l3, l4, l5, l6⟩ := hL
    have hg := hB.2.2.2.1
    have hdue := due_c hX hW hB (show w < 64 by omega)
    rw [due_0 _ _ hc] at hdue
    show ∃ m', f_X3_goOn (f_X3_goOnN N) (nI pre.length) m = some ((), m') ∧ _
    unfold f_X3_goOn
    rw [l3, hdue, bnd_some]
    have hlist : bstS B (preS pre (extS F w 0 C)) = if C 3 0 < B.1 then (C 3 0, pre) else B := by
      show bstS (if C 3 0 < B.1 then (C 3 0, pre ++ []) else B) [] = _
      rw [List.append_nil]
      rfl
    rw [hlist]
    by_cases c : C 3 0 < B.1
    · have c' : m 7 1 13 + nI 0 < m 17 0 4 := by rw [hX.2.2.2.2.2.1, l4, nI_add]; exact nI_lt (by omega) (by omega)
      have hle : m 7 1 8 ≤ nI pre.length := by rw [hX.1]; exact nI_le (by omega) (by omega)
      rw [if_pos c', if_pos hle, if_pos c]
      unfold f_X3_goOn_j39
      rw [if_pos (by decide)]
      refine ⟨_, rfl, ?_, ?_, ?_, ?_, ?_, ?_⟩
      · intro t ht h17 h18 h19
        rw [← l1 t ht h17 h18 h19]
        funext a b
        simp [mcopy, mset, h17, h19]
      · unfold XR at hX ⊢
        simpa [mcopy, mset] using hX
      · simpa [mcopy, mset] using l3
      · simp [mcopy, mset]; exact hX.2.2.2.2.2.1
      · intro j hj
        have := l5 j hj
        simpa [mcopy, mset] using this
      · intro _ j hj
        have := l5 j (by omega)
        have hj5 : j < 5 := by omega
        simp [mcopy, mset, show ix (0 : Int32) = 0 from rfl, show ix (5 : Int32) = 5 from rfl, hj5]
        exact this
    · have c' : ¬ m 7 1 13 + nI 0 < m 17 0 4 := by rw [hX.2.2.2.2.2.1, l4, nI_add]; exact nI_nlt (by omega) (by omega)
      rw [if_neg c', if_neg c]
      exact ⟨m, rfl, l1, hX, l3, l4, l5, l6⟩
  | succ k ih =>
    intro N hN C pre B m hd hc hB hB1 hL
    obtain ⟨N, rfl⟩ : ∃ n', N = n' + 1 := ⟨N - 1, by omega⟩
    have hR := ih N (by omega)
    obtain ⟨l1, hX, l3, l4, l5, l6⟩ := hL
    have hg := hB.2.2.2.1
    have hdue := due_c hX hW hB (show w < 64 by omega)
    have hdl := due_le (C := C) (w := w) hW (F 0 0) 0 (by omega)
    show ∃ m', f_X3_goOn (f_X3_goOnN N) (nI pre.length) m = some ((), m') ∧ _
    unfold f_X3_goOn
    rw [l3, hdue, bnd_some]
    by_cases c : C 3 0 + dueS F w C 0 (F 0 0) < B.1
    · have c' : m 7 1 13 + nI (dueS F w C 0 (F 0 0)) < m 17 0 4 := by rw [hX.2.2.2.2.2.1, l4, nI_add]; exact nI_lt (by omega) (by omega)
      have hge : ¬ m 7 1 8 ≤ nI pre.length := by rw [hX.1]; exact nI_ge (by omega) (by omega)
      have h5 : nI pre.length < (5 : Int32) := nI_lt (b := 5) (by omega) (by decide)
      rw [if_pos c', if_neg hge, if_pos h5]
      obtain ⟨m', r1, r2⟩ := search_fish (K := fun t64 => some ((), t64)) hR hW hw hd hc hB (F 0 0) 0 fuelN m B (by omega) (by unfold fuelN; omega) hB1 ⟨l1, hX, l3, l4, l5, l6⟩
      exact ⟨m', r1, r2⟩
    · have c' : ¬ m 7 1 13 + nI (dueS F w C 0 (F 0 0)) < m 17 0 4 := by rw [hX.2.2.2.2.2.1, l4, nI_add]; exact nI_nlt (by omega) (by omega)
      rw [if_neg c']
      refine ⟨m, rfl, ?_⟩
      rw [bst_id]
      · exact ⟨l1, hX, l3, l4, l5, l6⟩
      · intro x hx
        obtain ⟨y, hy, rfl⟩ := List.mem_map.mp hx
        have := ext_ge (w := w) hW (k + 1) C hc y hy
        show B.1 ≤ y.1
        omega
