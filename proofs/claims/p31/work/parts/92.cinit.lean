/-! ===== constructors (printed by wip/p31/gen91.py) ===== -/
/-- HeronFord$Told() -/
def dvX5 : List Value := [.null, .int 0, .int 0, .int 0]
theorem dfX5 : ∀ j, j < 4 → defaultValue (tyK 5 j) = vp_V dvX5 j := fun j hj => by
  rcases (show j = 0 ∨ j = 1 ∨ j = 2 ∨ j = 3 by omega) with rfl | rfl | rfl | rfl <;> rfl
def LX5 (cs : Nat → ClassId) (h0 : Nat) (as : Nat → Nat) : va_W := [(h0, .inr (5, [.ref (as 0), .int 0, .int 0, .int 0])), (as 0, .inl (cs 2, 5, .inr (.inr (.inr (.inr (va_up (va_up (va_up (va_up (va_up (fun _ => none) 0 (some (as 1))) 1 (some (as 2))) 2 (some (as 3))) 3 (some (as 4))) 4 (some (as 5)))))))), (as 1, .inr (1, [.int 0, .int 0, .int 0, .int 0, .int 0])), (as 2, .inr (1, [.int 0, .int 0, .int 0, .int 0, .int 0])), (as 3, .inr (1, [.int 0, .int 0, .int 0, .int 0, .int 0])), (as 4, .inr (1, [.int 0, .int 0, .int 0, .int 0, .int 0])), (as 5, .inr (1, [.int 0, .int 0, .int 0, .int 0, .int 0]))]
set_option maxHeartbeats 4000000 in
set_option maxRecDepth 100000 in
theorem ctiX5 (l : Launch) (dC : Nat → ClassId) (dI : Nat → Nat → Nat) (cs : Nat → ClassId) : CtI l dC dI cs yX5_init prog_7_method_1_code 2 2 6 30 5 dvX5 (LX5 cs) := by
  refine cti_of (by decide +kernel) rfl rfl (fun X A h0 h hin hl hC hI hk hR hn hr hA => ?_)
  subst hl hC hI hk
  refine kg_aload h (j := 0) (x := h0) (i := 0) (by decide +kernel) rfl ?_
  refine kg_obj h (index := 3) (by decide +kernel) (wsC_at 57 (by decide +kernel) rfl) (wsC_at 28 (by decide +kernel) rfl) (wsC_at 29 (by decide +kernel) rfl) (by rw [hR]; exact ⟨Nat.le_of_ble_eq_true rfl, Nat.le_of_ble_eq_true rfl⟩) ?_
  refine kg_aload h (j := 0) (x := h0) (i := 0) (by decide +kernel) rfl ?_
  refine kg_iconst h (z := 5) (5 : Int32) (by decide +kernel) (by decide) ?_
  refine kg_newq h hA (index := 9) (t := 2) (C := RX1) 5 (by decide) (by decide) (by decide) (by decide +kernel) (wsC_at 58 (by decide +kernel) rfl) h.2.2.2.2.2.1.2.1.2.1 rfl (by rw [hR]; exact ⟨Nat.le_of_ble_eq_true rfl, Nat.le_of_ble_eq_true rfl⟩) (fun a0 => ?_)
  refine kg_putF h hin (index := 11) (ci := 5) (q0 := 0) (fk := 0) (C := RX5) (T := TX5) (N := 4) (v := .ref a0) (ws' := [(h0, .inr (5, [.ref a0, .int 0, .int 0, .int 0])), (a0, .inl (xk X 2, 5, .inr (.inr (.inr (.inr (fun _ => none))))))]) rfl rfl (by decide) (by decide +kernel) (wsC_at 91 (by decide +kernel) rfl) rfl rfl rfl rfl (Nat.le_of_ble_eq_true rfl) rfl ?_
  refine kg_iconst h (z := 0) (0 : Int32) (by decide +kernel) (by decide) ?_
  refine kg_istore h (j := 1) (ls' := [(1, .int 0), (0, .ref h0)]) (by decide +kernel) (by rw [hn]; decide) rfl ?_
  refine kg_iload h (j := 1) (x := 0) (i := 0) (by decide +kernel) rfl ?_
  refine kg_iconst h (z := 5) (5 : Int32) (by decide +kernel) (by decide) ?_
  refine kg_geF h (off := 22) 38 (by decide +kernel) (by decide) (by decide) ?_
  refine kg_aload h (j := 0) (x := h0) (i := 1) (by decide +kernel) rfl ?_
  refine kg_get h (index := 11) (ci := 5) (q0 := 0) (fk := 0) (C := RX5) (T := TX5) (N := 4) (.ref a0) rfl rfl (by decide) (by decide +kernel) (wsC_at 91 (by decide +kernel) rfl) rfl ?_
  refine kg_iload h (j := 1) (x := 0) (i := 0) (by decide +kernel) rfl ?_
  refine kg_new h hA (index := 9) (ci := 1) (C := RX1) (T := TX1) (N := 5) (fs := dvX1) rfl (by decide +kernel) (wsC_at 58 (by decide +kernel) rfl) (wsC_at 60 (by decide +kernel) rfl) (wsC_at 16 (by decide +kernel) rfl) dfX1 (by rw [hR]; exact ⟨Nat.le_of_ble_eq_true rfl, Nat.le_of_ble_eq_true rfl⟩) (fun a1 => ?_)
  refine kg_dup h (by decide +kernel) rfl ?_
  refine kg_ctorN h hA (index := 17) (host := "HeronFord") (ctiX1 _ _ _ _) (by decide +kernel) (List.mem_filter.mpr ⟨List.mem_of_getElem? (i := 61) (by decide +kernel), rfl⟩) (wsC_at 62 (by decide +kernel) rfl) (wsC_at 16 (by decide +kernel) rfl) (wsC_at 63 (by decide +kernel) rfl) rfl (by decide +kernel) (by rw [hR]; exact ⟨Nat.le_of_ble_eq_true rfl, Nat.le_of_ble_eq_true rfl⟩) (by rw [hR]; exact ⟨Nat.le_of_ble_eq_true rfl, Nat.le_of_ble_eq_true rfl⟩) (Nat.le_of_ble_eq_true rfl) (fun s2 => ?_)
  refine kg_aast h (q0 := 1) (qk := 2) (t := 2) (N := 5) (j := 0) (ci := 1) (C := RX1) (T := TX1) (N2 := 5) (ws' := [(h0, .inr (5, [.ref a0, .int 0, .int 0, .int 0])), (a0, .inl (xk X 2, 5, .inr (.inr (.inr (.inr (va_up (fun _ => none) 0 (some a1))))))), (a1, .inr (1, [.int 0, .int 0, .int 0, .int 0, .int 0]))]) rfl rfl rfl rfl (inB_in (by decide)).1 (by decide) (by decide +kernel) rfl ?_
  refine kg_iinc h (i := 1) (z := 1) (q := 0) (v := 1) (ls' := [(1, .int 1), (0, .ref h0)]) (by decide +kernel) rfl (by decide) (by rw [hn]; decide) rfl ?_
  refine kg_goto h (off := -21) 14 (by decide +kernel) (by decide) ?_
  refine kg_iload h (j := 1) (x := 1) (i := 0) (by decide +kernel) rfl ?_
  refine kg_iconst h (z := 5) (5 : Int32) (by decide +kernel) (by decide) ?_
  refine kg_geF h (off := 22) 38 (by decide +kernel) (by decide) (by decide) ?_
  refine kg_aload h (j := 0) (x := h0) (i := 1) (by decide +kernel) rfl ?_
  refine kg_get h (index := 11) (ci := 5) (q0 := 0) (fk := 0) (C := RX5) (T := TX5) (N := 4) (.ref a0) rfl rfl (by decide) (by decide +kernel) (wsC_at 91 (by decide +kernel) rfl) rfl ?_
  refine kg_iload h (j := 1) (x := 1) (i := 0) (by decide +kernel) rfl ?_
  refine kg_new h hA (index := 9) (ci := 1) (C := RX1) (T := TX1) (N := 5) (fs := dvX1) rfl (by decide +kernel) (wsC_at 58 (by decide +kernel) rfl) (wsC_at 60 (by decide +kernel) rfl) (wsC_at 16 (by decide +kernel) rfl) dfX1 (by rw [hR]; exact ⟨Nat.le_of_ble_eq_true rfl, Nat.le_of_ble_eq_true rfl⟩) (fun a3 => ?_)
  refine kg_dup h (by decide +kernel) rfl ?_
  refine kg_ctorN h hA (index := 17) (host := "HeronFord") (ctiX1 _ _ _ _) (by decide +kernel) (List.mem_filter.mpr ⟨List.mem_of_getElem? (i := 61) (by decide +kernel), rfl⟩) (wsC_at 62 (by decide +kernel) rfl) (wsC_at 16 (by decide +kernel) rfl) (wsC_at 63 (by decide +kernel) rfl) rfl (by decide +kernel) (by rw [hR]; exact ⟨Nat.le_of_ble_eq_true rfl, Nat.le_of_ble_eq_true rfl⟩) (by rw [hR]; exact ⟨Nat.le_of_ble_eq_true rfl, Nat.le_of_ble_eq_true rfl⟩) (Nat.le_of_ble_eq_true rfl) (fun s4 => ?_)
  refine kg_aast h (q0 := 1) (qk := 3) (t := 2) (N := 5) (j := 1) (ci := 1) (C := RX1) (T := TX1) (N2 := 5) (ws' := [(h0, .inr (5, [.ref a0, .int 0, .int 0, .int 0])), (a0, .inl (xk X 2, 5, .inr (.inr (.inr (.inr (va_up (va_up (fun _ => none) 0 (some a1)) 1 (some a3))))))), (a1, .inr (1, [.int 0, .int 0, .int 0, .int 0, .int 0])), (a3, .inr (1, [.int 0, .int 0, .int 0, .int 0, .int 0]))]) rfl rfl rfl rfl (inB_in (by decide)).1 (by decide) (by decide +kernel) rfl ?_
  refine kg_iinc h (i := 1) (z := 1) (q := 0) (v := 2) (ls' := [(1, .int 2), (0, .ref h0)]) (by decide +kernel) rfl (by decide) (by rw [hn]; decide) rfl ?_
  refine kg_goto h (off := -21) 14 (by decide +kernel) (by decide) ?_
  refine kg_iload h (j := 1) (x := 2) (i := 0) (by decide +kernel) rfl ?_
  refine kg_iconst h (z := 5) (5 : Int32) (by decide +kernel) (by decide) ?_
  refine kg_geF h (off := 22) 38 (by decide +kernel) (by decide) (by decide) ?_
  refine kg_aload h (j := 0) (x := h0) (i := 1) (by decide +kernel) rfl ?_
  refine kg_get h (index := 11) (ci := 5) (q0 := 0) (fk := 0) (C := RX5) (T := TX5) (N := 4) (.ref a0) rfl rfl (by decide) (by decide +kernel) (wsC_at 91 (by decide +kernel) rfl) rfl ?_
  refine kg_iload h (j := 1) (x := 2) (i := 0) (by decide +kernel) rfl ?_
  refine kg_new h hA (index := 9) (ci := 1) (C := RX1) (T := TX1) (N := 5) (fs := dvX1) rfl (by decide +kernel) (wsC_at 58 (by decide +kernel) rfl) (wsC_at 60 (by decide +kernel) rfl) (wsC_at 16 (by decide +kernel) rfl) dfX1 (by rw [hR]; exact ⟨Nat.le_of_ble_eq_true rfl, Nat.le_of_ble_eq_true rfl⟩) (fun a5 => ?_)
  refine kg_dup h (by decide +kernel) rfl ?_
  refine kg_ctorN h hA (index := 17) (host := "HeronFord") (ctiX1 _ _ _ _) (by decide +kernel) (List.mem_filter.mpr ⟨List.mem_of_getElem? (i := 61) (by decide +kernel), rfl⟩) (wsC_at 62 (by decide +kernel) rfl) (wsC_at 16 (by decide +kernel) rfl) (wsC_at 63 (by decide +kernel) rfl) rfl (by decide +kernel) (by rw [hR]; exact ⟨Nat.le_of_ble_eq_true rfl, Nat.le_of_ble_eq_true rfl⟩) (by rw [hR]; exact ⟨Nat.le_of_ble_eq_true rfl, Nat.le_of_ble_eq_true rfl⟩) (Nat.le_of_ble_eq_true rfl) (fun s6 => ?_)
  refine kg_aast h (q0 := 1) (qk := 4) (t := 2) (N := 5) (j := 2) (ci := 1) (C := RX1) (T := TX1) (N2 := 5) (ws' := [(h0, .inr (5, [.ref a0, .int 0, .int 0, .int 0])), (a0, .inl (xk X 2, 5, .inr (.inr (.inr (.inr (va_up (va_up (va_up (fun _ => none) 0 (some a1)) 1 (some a3)) 2 (some a5))))))), (a1, .inr (1, [.int 0, .int 0, .int 0, .int 0, .int 0])), (a3, .inr (1, [.int 0, .int 0, .int 0, .int 0, .int 0])), (a5, .inr (1, [.int 0, .int 0, .int 0, .int 0, .int 0]))]) rfl rfl rfl rfl (inB_in (by decide)).1 (by decide) (by decide +kernel) rfl ?_
  refine kg_iinc h (i := 1) (z := 1) (q := 0) (v := 3) (ls' := [(1, .int 3), (0, .ref h0)]) (by decide +kernel) rfl (by decide) (by rw [hn]; decide) rfl ?_
  refine kg_goto h (off := -21) 14 (by decide +kernel) (by decide) ?_
  refine kg_iload h (j := 1) (x := 3) (i := 0) (by decide +kernel) rfl ?_
  refine kg_iconst h (z := 5) (5 : Int32) (by decide +kernel) (by decide) ?_
  refine kg_geF h (off := 22) 38 (by decide +kernel) (by decide) (by decide) ?_
  refine kg_aload h (j := 0) (x := h0) (i := 1) (by decide +kernel) rfl ?_
  refine kg_get h (index := 11) (ci := 5) (q0 := 0) (fk := 0) (C := RX5) (T := TX5) (N := 4) (.ref a0) rfl rfl (by decide) (by decide +kernel) (wsC_at 91 (by decide +kernel) rfl) rfl ?_
  refine kg_iload h (j := 1) (x := 3) (i := 0) (by decide +kernel) rfl ?_
  refine kg_new h hA (index := 9) (ci := 1) (C := RX1) (T := TX1) (N := 5) (fs := dvX1) rfl (by decide +kernel) (wsC_at 58 (by decide +kernel) rfl) (wsC_at 60 (by decide +kernel) rfl) (wsC_at 16 (by decide +kernel) rfl) dfX1 (by rw [hR]; exact ⟨Nat.le_of_ble_eq_true rfl, Nat.le_of_ble_eq_true rfl⟩) (fun a7 => ?_)
  refine kg_dup h (by decide +kernel) rfl ?_
  refine kg_ctorN h hA (index := 17) (host := "HeronFord") (ctiX1 _ _ _ _) (by decide +kernel) (List.mem_filter.mpr ⟨List.mem_of_getElem? (i := 61) (by decide +kernel), rfl⟩) (wsC_at 62 (by decide +kernel) rfl) (wsC_at 16 (by decide +kernel) rfl) (wsC_at 63 (by decide +kernel) rfl) rfl (by decide +kernel) (by rw [hR]; exact ⟨Nat.le_of_ble_eq_true rfl, Nat.le_of_ble_eq_true rfl⟩) (by rw [hR]; exact ⟨Nat.le_of_ble_eq_true rfl, Nat.le_of_ble_eq_true rfl⟩) (Nat.le_of_ble_eq_true rfl) (fun s8 => ?_)
  refine kg_aast h (q0 := 1) (qk := 5) (t := 2) (N := 5) (j := 3) (ci := 1) (C := RX1) (T := TX1) (N2 := 5) (ws' := [(h0, .inr (5, [.ref a0, .int 0, .int 0, .int 0])), (a0, .inl (xk X 2, 5, .inr (.inr (.inr (.inr (va_up (va_up (va_up (va_up (fun _ => none) 0 (some a1)) 1 (some a3)) 2 (some a5)) 3 (some a7))))))), (a1, .inr (1, [.int 0, .int 0, .int 0, .int 0, .int 0])), (a3, .inr (1, [.int 0, .int 0, .int 0, .int 0, .int 0])), (a5, .inr (1, [.int 0, .int 0, .int 0, .int 0, .int 0])), (a7, .inr (1, [.int 0, .int 0, .int 0, .int 0, .int 0]))]) rfl rfl rfl rfl (inB_in (by decide)).1 (by decide) (by decide +kernel) rfl ?_
  refine kg_iinc h (i := 1) (z := 1) (q := 0) (v := 4) (ls' := [(1, .int 4), (0, .ref h0)]) (by decide +kernel) rfl (by decide) (by rw [hn]; decide) rfl ?_
  refine kg_goto h (off := -21) 14 (by decide +kernel) (by decide) ?_
  refine kg_iload h (j := 1) (x := 4) (i := 0) (by decide +kernel) rfl ?_
  refine kg_iconst h (z := 5) (5 : Int32) (by decide +kernel) (by decide) ?_
  refine kg_geF h (off := 22) 38 (by decide +kernel) (by decide) (by decide) ?_
  refine kg_aload h (j := 0) (x := h0) (i := 1) (by decide +kernel) rfl ?_
  refine kg_get h (index := 11) (ci := 5) (q0 := 0) (fk := 0) (C := RX5) (T := TX5) (N := 4) (.ref a0) rfl rfl (by decide) (by decide +kernel) (wsC_at 91 (by decide +kernel) rfl) rfl ?_
  refine kg_iload h (j := 1) (x := 4) (i := 0) (by decide +kernel) rfl ?_
  refine kg_new h hA (index := 9) (ci := 1) (C := RX1) (T := TX1) (N := 5) (fs := dvX1) rfl (by decide +kernel) (wsC_at 58 (by decide +kernel) rfl) (wsC_at 60 (by decide +kernel) rfl) (wsC_at 16 (by decide +kernel) rfl) dfX1 (by rw [hR]; exact ⟨Nat.le_of_ble_eq_true rfl, Nat.le_of_ble_eq_true rfl⟩) (fun a9 => ?_)
  refine kg_dup h (by decide +kernel) rfl ?_
  refine kg_ctorN h hA (index := 17) (host := "HeronFord") (ctiX1 _ _ _ _) (by decide +kernel) (List.mem_filter.mpr ⟨List.mem_of_getElem? (i := 61) (by decide +kernel), rfl⟩) (wsC_at 62 (by decide +kernel) rfl) (wsC_at 16 (by decide +kernel) rfl) (wsC_at 63 (by decide +kernel) rfl) rfl (by decide +kernel) (by rw [hR]; exact ⟨Nat.le_of_ble_eq_true rfl, Nat.le_of_ble_eq_true rfl⟩) (by rw [hR]; exact ⟨Nat.le_of_ble_eq_true rfl, Nat.le_of_ble_eq_true rfl⟩) (Nat.le_of_ble_eq_true rfl) (fun s10 => ?_)
  refine kg_aast h (q0 := 1) (qk := 6) (t := 2) (N := 5) (j := 4) (ci := 1) (C := RX1) (T := TX1) (N2 := 5) (ws' := [(h0, .inr (5, [.ref a0, .int 0, .int 0, .int 0])), (a0, .inl (xk X 2, 5, .inr (.inr (.inr (.inr (va_up (va_up (va_up (va_up (va_up (fun _ => none) 0 (some a1)) 1 (some a3)) 2 (some a5)) 3 (some a7)) 4 (some a9))))))), (a1, .inr (1, [.int 0, .int 0, .int 0, .int 0, .int 0])), (a3, .inr (1, [.int 0, .int 0, .int 0, .int 0, .int 0])), (a5, .inr (1, [.int 0, .int 0, .int 0, .int 0, .int 0])), (a7, .inr (1, [.int 0, .int 0, .int 0, .int 0, .int 0])), (a9, .inr (1, [.int 0, .int 0, .int 0, .int 0, .int 0]))]) rfl rfl rfl rfl (inB_in (by decide)).1 (by decide) (by decide +kernel) rfl ?_
  refine kg_iinc h (i := 1) (z := 1) (q := 0) (v := 5) (ls' := [(1, .int 5), (0, .ref h0)]) (by decide +kernel) rfl (by decide) (by rw [hn]; decide) rfl ?_
  refine kg_goto h (off := -21) 14 (by decide +kernel) (by decide) ?_
  refine kg_iload h (j := 1) (x := 5) (i := 0) (by decide +kernel) rfl ?_
  refine kg_iconst h (z := 5) (5 : Int32) (by decide +kernel) (by decide) ?_
  refine kg_geT h (off := 22) 38 (by decide +kernel) (by decide) (by decide) ?_
  refine kg_aload h (j := 0) (x := h0) (i := 1) (by decide +kernel) rfl ?_
  refine kg_iconst h (z := 0) (0 : Int32) (by decide +kernel) (by decide) ?_
  refine kg_put h (index := 18) (ci := 5) (q0 := 0) (fk := 1) (C := RX5) (T := TX5) (N := 4) (v := .int 0) (ws' := [(h0, .inr (5, [.ref a0, .int 0, .int 0, .int 0])), (a0, .inl (xk X 2, 5, .inr (.inr (.inr (.inr (va_up (va_up (va_up (va_up (va_up (fun _ => none) 0 (some a1)) 1 (some a3)) 2 (some a5)) 3 (some a7)) 4 (some a9))))))), (a1, .inr (1, [.int 0, .int 0, .int 0, .int 0, .int 0])), (a3, .inr (1, [.int 0, .int 0, .int 0, .int 0, .int 0])), (a5, .inr (1, [.int 0, .int 0, .int 0, .int 0, .int 0])), (a7, .inr (1, [.int 0, .int 0, .int 0, .int 0, .int 0])), (a9, .inr (1, [.int 0, .int 0, .int 0, .int 0, .int 0]))]) rfl rfl (by decide) (by decide +kernel) (wsC_at 94 (by decide +kernel) rfl) rfl rfl rfl (Nat.le_of_ble_eq_true rfl) rfl ?_
  refine kg_aload h (j := 0) (x := h0) (i := 1) (by decide +kernel) rfl ?_
  refine kg_iconst h (z := 0) (0 : Int32) (by decide +kernel) (by decide) ?_
  refine kg_put h (index := 22) (ci := 5) (q0 := 0) (fk := 2) (C := RX5) (T := TX5) (N := 4) (v := .int 0) (ws' := [(h0, .inr (5, [.ref a0, .int 0, .int 0, .int 0])), (a0, .inl (xk X 2, 5, .inr (.inr (.inr (.inr (va_up (va_up (va_up (va_up (va_up (fun _ => none) 0 (some a1)) 1 (some a3)) 2 (some a5)) 3 (some a7)) 4 (some a9))))))), (a1, .inr (1, [.int 0, .int 0, .int 0, .int 0, .int 0])), (a3, .inr (1, [.int 0, .int 0, .int 0, .int 0, .int 0])), (a5, .inr (1, [.int 0, .int 0, .int 0, .int 0, .int 0])), (a7, .inr (1, [.int 0, .int 0, .int 0, .int 0, .int 0])), (a9, .inr (1, [.int 0, .int 0, .int 0, .int 0, .int 0]))]) rfl rfl (by decide) (by decide +kernel) (wsC_at 97 (by decide +kernel) rfl) rfl rfl rfl (Nat.le_of_ble_eq_true rfl) rfl ?_
  refine kg_aload h (j := 0) (x := h0) (i := 1) (by decide +kernel) rfl ?_
  refine kg_iconst h (z := 0) (0 : Int32) (by decide +kernel) (by decide) ?_
  refine kg_put h (index := 25) (ci := 5) (q0 := 0) (fk := 3) (C := RX5) (T := TX5) (N := 4) (v := .int 0) (ws' := [(h0, .inr (5, [.ref a0, .int 0, .int 0, .int 0])), (a0, .inl (xk X 2, 5, .inr (.inr (.inr (.inr (va_up (va_up (va_up (va_up (va_up (fun _ => none) 0 (some a1)) 1 (some a3)) 2 (some a5)) 3 (some a7)) 4 (some a9))))))), (a1, .inr (1, [.int 0, .int 0, .int 0, .int 0, .int 0])), (a3, .inr (1, [.int 0, .int 0, .int 0, .int 0, .int 0])), (a5, .inr (1, [.int 0, .int 0, .int 0, .int 0, .int 0])), (a7, .inr (1, [.int 0, .int 0, .int 0, .int 0, .int 0])), (a9, .inr (1, [.int 0, .int 0, .int 0, .int 0, .int 0]))]) rfl rfl (by decide) (by decide +kernel) (wsC_at 100 (by decide +kernel) rfl) rfl rfl rfl (Nat.le_of_ble_eq_true rfl) rfl ?_
  refine kg_widen (n' := 6) (k' := 30) (Nat.le_of_ble_eq_true rfl) (Nat.le_of_ble_eq_true rfl) ?_
  exact kg_ret h hr (by decide +kernel) (fun j => [a0, a1, a3, a5, a7, a9].getD j 0) rfl
