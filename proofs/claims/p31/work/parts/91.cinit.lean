/-! ===== the small constructors (printed by wip/p31/gen91.py) ===== -/
/-- HeronFord$Fish() -/
def dvX1 : List Value := [.int 0, .int 0, .int 0, .int 0, .int 0]
theorem dfX1 : ∀ j, j < 5 → defaultValue (tyK 1 j) = vp_V dvX1 j := fun j hj => by
  rcases (show j = 0 ∨ j = 1 ∨ j = 2 ∨ j = 3 ∨ j = 4 by omega) with rfl | rfl | rfl | rfl | rfl <;> rfl
def LX1 (cs : Nat → ClassId) (h0 : Nat) (as : Nat → Nat) : va_W := [(h0, .inr (1, [.int 0, .int 0, .int 0, .int 0, .int 0]))]
set_option maxHeartbeats 4000000 in
set_option maxRecDepth 100000 in
theorem ctiX1 (l : Launch) (dC : Nat → ClassId) (dI : Nat → Nat → Nat) (cs : Nat → ClassId) : CtI l dC dI cs yX1_init prog_3_method_1_code 1 1 0 0 1 dvX1 (LX1 cs) := by
  refine cti_of (by decide +kernel) rfl rfl (fun X A h0 h hin hl hC hI hk hR hn hr hA => ?_)
  subst hl hC hI hk
  refine kg_aload h (j := 0) (x := h0) (i := 0) (by decide +kernel) rfl ?_
  refine kg_obj h (index := 1) (by decide +kernel) (wsC_at 64 (by decide +kernel) rfl) (wsC_at 28 (by decide +kernel) rfl) (wsC_at 29 (by decide +kernel) rfl) (by rw [hR]; exact ⟨Nat.le_of_ble_eq_true rfl, Nat.le_of_ble_eq_true rfl⟩) ?_
  refine kg_widen (n' := 0) (k' := 0) (Nat.le_of_ble_eq_true rfl) (Nat.le_of_ble_eq_true rfl) ?_
  exact kg_ret h hr (by decide +kernel) (fun j => [].getD j 0) rfl
/-- HeronFord$Readings() -/
def dvX2 : List Value := [.null, .null, .int 0]
theorem dfX2 : ∀ j, j < 3 → defaultValue (tyK 2 j) = vp_V dvX2 j := fun j hj => by
  rcases (show j = 0 ∨ j = 1 ∨ j = 2 by omega) with rfl | rfl | rfl <;> rfl
def LX2 (cs : Nat → ClassId) (h0 : Nat) (as : Nat → Nat) : va_W := [(h0, .inr (2, [.ref (as 0), .ref (as 1), .int 0])), (as 0, .inl (cs 0, 8, .inl (fun _ => 0))), (as 1, .inl (cs 0, 8, .inl (fun _ => 0)))]
set_option maxHeartbeats 4000000 in
set_option maxRecDepth 100000 in
theorem ctiX2 (l : Launch) (dC : Nat → ClassId) (dI : Nat → Nat → Nat) (cs : Nat → ClassId) : CtI l dC dI cs yX2_init prog_4_method_1_code 1 1 2 16 2 dvX2 (LX2 cs) := by
  refine cti_of (by decide +kernel) rfl rfl (fun X A h0 h hin hl hC hI hk hR hn hr hA => ?_)
  subst hl hC hI hk
  refine kg_aload h (j := 0) (x := h0) (i := 0) (by decide +kernel) rfl ?_
  refine kg_obj h (index := 3) (by decide +kernel) (wsC_at 199 (by decide +kernel) rfl) (wsC_at 28 (by decide +kernel) rfl) (wsC_at 29 (by decide +kernel) rfl) (by rw [hR]; exact ⟨Nat.le_of_ble_eq_true rfl, Nat.le_of_ble_eq_true rfl⟩) ?_
  refine kg_aload h (j := 0) (x := h0) (i := 0) (by decide +kernel) rfl ?_
  refine kg_bipush h (z := 8) (8 : Int32) (by decide +kernel) (by decide) ?_
  refine kg_newa h hA 8 (by decide) (by decide) (by decide) (by decide +kernel) (wsC_at 51 (by decide +kernel) rfl) (by rw [hR]; exact ⟨Nat.le_of_ble_eq_true rfl, Nat.le_of_ble_eq_true rfl⟩) (fun a0 => ?_)
  refine kg_putF h hin (index := 9) (ci := 2) (q0 := 0) (fk := 0) (C := RX2) (T := TX2) (N := 3) (v := .ref a0) (ws' := [(h0, .inr (2, [.ref a0, .null, .int 0])), (a0, .inl (xk X 0, 8, .inl (fun _ => 0)))]) rfl rfl (by decide) (by decide +kernel) (wsC_at 200 (by decide +kernel) rfl) rfl rfl rfl rfl (Nat.le_of_ble_eq_true rfl) rfl ?_
  refine kg_aload h (j := 0) (x := h0) (i := 0) (by decide +kernel) rfl ?_
  refine kg_bipush h (z := 8) (8 : Int32) (by decide +kernel) (by decide) ?_
  refine kg_newa h hA 8 (by decide) (by decide) (by decide) (by decide +kernel) (wsC_at 51 (by decide +kernel) rfl) (by rw [hR]; exact ⟨Nat.le_of_ble_eq_true rfl, Nat.le_of_ble_eq_true rfl⟩) (fun a1 => ?_)
  refine kg_putF h hin (index := 15) (ci := 2) (q0 := 0) (fk := 1) (C := RX2) (T := TX2) (N := 3) (v := .ref a1) (ws' := [(h0, .inr (2, [.ref a0, .ref a1, .int 0])), (a0, .inl (xk X 0, 8, .inl (fun _ => 0))), (a1, .inl (xk X 0, 8, .inl (fun _ => 0)))]) rfl rfl (by decide) (by decide +kernel) (wsC_at 201 (by decide +kernel) rfl) rfl rfl rfl rfl (Nat.le_of_ble_eq_true rfl) rfl ?_
  refine kg_aload h (j := 0) (x := h0) (i := 0) (by decide +kernel) rfl ?_
  refine kg_iconst h (z := 0) (0 : Int32) (by decide +kernel) (by decide) ?_
  refine kg_put h (index := 18) (ci := 2) (q0 := 0) (fk := 2) (C := RX2) (T := TX2) (N := 3) (v := .int 0) (ws' := [(h0, .inr (2, [.ref a0, .ref a1, .int 0])), (a0, .inl (xk X 0, 8, .inl (fun _ => 0))), (a1, .inl (xk X 0, 8, .inl (fun _ => 0)))]) rfl rfl (by decide) (by decide +kernel) (wsC_at 202 (by decide +kernel) rfl) rfl rfl rfl (Nat.le_of_ble_eq_true rfl) rfl ?_
  refine kg_widen (n' := 2) (k' := 16) (Nat.le_of_ble_eq_true rfl) (Nat.le_of_ble_eq_true rfl) ?_
  exact kg_ret h hr (by decide +kernel) (fun j => [a0, a1].getD j 0) rfl
/-- HeronFord$Sheet() -/
def dvX4 : List Value := [.null, .int 0, .int 0, .int 0]
theorem dfX4 : ∀ j, j < 4 → defaultValue (tyK 4 j) = vp_V dvX4 j := fun j hj => by
  rcases (show j = 0 ∨ j = 1 ∨ j = 2 ∨ j = 3 by omega) with rfl | rfl | rfl | rfl <;> rfl
def LX4 (cs : Nat → ClassId) (h0 : Nat) (as : Nat → Nat) : va_W := [(h0, .inr (4, [.ref (as 0), .int 0, .int 0, .int 0])), (as 0, .inl (cs 0, 60, .inl (fun _ => 0)))]
set_option maxHeartbeats 4000000 in
set_option maxRecDepth 100000 in
theorem ctiX4 (l : Launch) (dC : Nat → ClassId) (dI : Nat → Nat → Nat) (cs : Nat → ClassId) : CtI l dC dI cs yX4_init prog_6_method_1_code 1 1 1 60 4 dvX4 (LX4 cs) := by
  refine cti_of (by decide +kernel) rfl rfl (fun X A h0 h hin hl hC hI hk hR hn hr hA => ?_)
  subst hl hC hI hk
  refine kg_aload h (j := 0) (x := h0) (i := 0) (by decide +kernel) rfl ?_
  refine kg_obj h (index := 3) (by decide +kernel) (wsC_at 36 (by decide +kernel) rfl) (wsC_at 28 (by decide +kernel) rfl) (wsC_at 29 (by decide +kernel) rfl) (by rw [hR]; exact ⟨Nat.le_of_ble_eq_true rfl, Nat.le_of_ble_eq_true rfl⟩) ?_
  refine kg_aload h (j := 0) (x := h0) (i := 0) (by decide +kernel) rfl ?_
  refine kg_bipush h (z := 60) (60 : Int32) (by decide +kernel) (by decide) ?_
  refine kg_newa h hA 60 (by decide) (by decide) (by decide) (by decide +kernel) (wsC_at 51 (by decide +kernel) rfl) (by rw [hR]; exact ⟨Nat.le_of_ble_eq_true rfl, Nat.le_of_ble_eq_true rfl⟩) (fun a0 => ?_)
  refine kg_putF h hin (index := 9) (ci := 4) (q0 := 0) (fk := 0) (C := RX4) (T := TX4) (N := 4) (v := .ref a0) (ws' := [(h0, .inr (4, [.ref a0, .int 0, .int 0, .int 0])), (a0, .inl (xk X 0, 60, .inl (fun _ => 0)))]) rfl rfl (by decide) (by decide +kernel) (wsC_at 37 (by decide +kernel) rfl) rfl rfl rfl rfl (Nat.le_of_ble_eq_true rfl) rfl ?_
  refine kg_aload h (j := 0) (x := h0) (i := 0) (by decide +kernel) rfl ?_
  refine kg_iconst h (z := 0) (0 : Int32) (by decide +kernel) (by decide) ?_
  refine kg_put h (index := 15) (ci := 4) (q0 := 0) (fk := 1) (C := RX4) (T := TX4) (N := 4) (v := .int 0) (ws' := [(h0, .inr (4, [.ref a0, .int 0, .int 0, .int 0])), (a0, .inl (xk X 0, 60, .inl (fun _ => 0)))]) rfl rfl (by decide) (by decide +kernel) (wsC_at 38 (by decide +kernel) rfl) rfl rfl rfl (Nat.le_of_ble_eq_true rfl) rfl ?_
  refine kg_aload h (j := 0) (x := h0) (i := 0) (by decide +kernel) rfl ?_
  refine kg_iconst h (z := 0) (0 : Int32) (by decide +kernel) (by decide) ?_
  refine kg_put h (index := 19) (ci := 4) (q0 := 0) (fk := 2) (C := RX4) (T := TX4) (N := 4) (v := .int 0) (ws' := [(h0, .inr (4, [.ref a0, .int 0, .int 0, .int 0])), (a0, .inl (xk X 0, 60, .inl (fun _ => 0)))]) rfl rfl (by decide) (by decide +kernel) (wsC_at 40 (by decide +kernel) rfl) rfl rfl rfl (Nat.le_of_ble_eq_true rfl) rfl ?_
  refine kg_aload h (j := 0) (x := h0) (i := 0) (by decide +kernel) rfl ?_
  refine kg_iconst h (z := 0) (0 : Int32) (by decide +kernel) (by decide) ?_
  refine kg_put h (index := 23) (ci := 4) (q0 := 0) (fk := 3) (C := RX4) (T := TX4) (N := 4) (v := .int 0) (ws' := [(h0, .inr (4, [.ref a0, .int 0, .int 0, .int 0])), (a0, .inl (xk X 0, 60, .inl (fun _ => 0)))]) rfl rfl (by decide) (by decide +kernel) (wsC_at 41 (by decide +kernel) rfl) rfl rfl rfl (Nat.le_of_ble_eq_true rfl) rfl ?_
  refine kg_widen (n' := 1) (k' := 60) (Nat.le_of_ble_eq_true rfl) (Nat.le_of_ble_eq_true rfl) ?_
  exact kg_ret h hr (by decide +kernel) (fun j => [a0].getD j 0) rfl
/-- HeronFord$Crossing() -/
def dvX0 : List Value := [.null, .null, .null, .null, .null, .null, .null, .null, .int 0, .int 0, .int 0, .int 0, .int 0, .int 0]
theorem dfX0 : ∀ j, j < 14 → defaultValue (tyK 0 j) = vp_V dvX0 j := fun j hj => by
  rcases (show j = 0 ∨ j = 1 ∨ j = 2 ∨ j = 3 ∨ j = 4 ∨ j = 5 ∨ j = 6 ∨ j = 7 ∨ j = 8 ∨ j = 9 ∨ j = 10 ∨ j = 11 ∨ j = 12 ∨ j = 13 by omega) with rfl | rfl | rfl | rfl | rfl | rfl | rfl | rfl | rfl | rfl | rfl | rfl | rfl | rfl <;> rfl
def LX0 (cs : Nat → ClassId) (h0 : Nat) (as : Nat → Nat) : va_W := [(h0, .inr (0, [.ref (as 0), .ref (as 1), .ref (as 2), .ref (as 3), .ref (as 4), .ref (as 5), .ref (as 6), .ref (as 7), .int 0, .int 0, .int 0, .int 0, .int 0, .int 0])), (as 0, .inl (cs 0, 5, .inl (fun _ => 0))), (as 1, .inl (cs 0, 5, .inl (fun _ => 0))), (as 2, .inl (cs 0, 5, .inl (fun _ => 0))), (as 3, .inl (cs 0, 5, .inl (fun _ => 0))), (as 4, .inl (cs 0, 5, .inl (fun _ => 0))), (as 5, .inl (cs 3, 5, .inr (.inr (.inr (.inr (fun j => if j < 5 then some (as 5 + 1 + j) else none)))))), (as 5 + 1, .inl (cs 0, 5, .inl (fun _ => 0))), (as 5 + 2, .inl (cs 0, 5, .inl (fun _ => 0))), (as 5 + 3, .inl (cs 0, 5, .inl (fun _ => 0))), (as 5 + 4, .inl (cs 0, 5, .inl (fun _ => 0))), (as 5 + 5, .inl (cs 0, 5, .inl (fun _ => 0))), (as 6, .inl (cs 0, 32, .inl (fun _ => 0))), (as 7, .inl (cs 0, 32, .inl (fun _ => 0)))]
set_option maxHeartbeats 4000000 in
set_option maxRecDepth 100000 in
theorem ctiX0 (l : Launch) (dC : Nat → ClassId) (dI : Nat → Nat → Nat) (cs : Nat → ClassId) : CtI l dC dI cs yX0_init prog_2_method_1_code 1 1 13 119 0 dvX0 (LX0 cs) := by
  refine cti_of (by decide +kernel) rfl rfl (fun X A h0 h hin hl hC hI hk hR hn hr hA => ?_)
  subst hl hC hI hk
  refine kg_aload h (j := 0) (x := h0) (i := 0) (by decide +kernel) rfl ?_
  refine kg_obj h (index := 3) (by decide +kernel) (wsC_at 117 (by decide +kernel) rfl) (wsC_at 28 (by decide +kernel) rfl) (wsC_at 29 (by decide +kernel) rfl) (by rw [hR]; exact ⟨Nat.le_of_ble_eq_true rfl, Nat.le_of_ble_eq_true rfl⟩) ?_
  refine kg_aload h (j := 0) (x := h0) (i := 0) (by decide +kernel) rfl ?_
  refine kg_iconst h (z := 5) (5 : Int32) (by decide +kernel) (by decide) ?_
  refine kg_newa h hA 5 (by decide) (by decide) (by decide) (by decide +kernel) (wsC_at 51 (by decide +kernel) rfl) (by rw [hR]; exact ⟨Nat.le_of_ble_eq_true rfl, Nat.le_of_ble_eq_true rfl⟩) (fun a0 => ?_)
  refine kg_putF h hin (index := 9) (ci := 0) (q0 := 0) (fk := 0) (C := RX0) (T := TX0) (N := 14) (v := .ref a0) (ws' := [(h0, .inr (0, [.ref a0, .null, .null, .null, .null, .null, .null, .null, .int 0, .int 0, .int 0, .int 0, .int 0, .int 0])), (a0, .inl (xk X 0, 5, .inl (fun _ => 0)))]) rfl rfl (by decide) (by decide +kernel) (wsC_at 120 (by decide +kernel) rfl) rfl rfl rfl rfl (Nat.le_of_ble_eq_true rfl) rfl ?_
  refine kg_aload h (j := 0) (x := h0) (i := 0) (by decide +kernel) rfl ?_
  refine kg_iconst h (z := 5) (5 : Int32) (by decide +kernel) (by decide) ?_
  refine kg_newa h hA 5 (by decide) (by decide) (by decide) (by decide +kernel) (wsC_at 51 (by decide +kernel) rfl) (by rw [hR]; exact ⟨Nat.le_of_ble_eq_true rfl, Nat.le_of_ble_eq_true rfl⟩) (fun a1 => ?_)
  refine kg_putF h hin (index := 15) (ci := 0) (q0 := 0) (fk := 1) (C := RX0) (T := TX0) (N := 14) (v := .ref a1) (ws' := [(h0, .inr (0, [.ref a0, .ref a1, .null, .null, .null, .null, .null, .null, .int 0, .int 0, .int 0, .int 0, .int 0, .int 0])), (a0, .inl (xk X 0, 5, .inl (fun _ => 0))), (a1, .inl (xk X 0, 5, .inl (fun _ => 0)))]) rfl rfl (by decide) (by decide +kernel) (wsC_at 121 (by decide +kernel) rfl) rfl rfl rfl rfl (Nat.le_of_ble_eq_true rfl) rfl ?_
  refine kg_aload h (j := 0) (x := h0) (i := 0) (by decide +kernel) rfl ?_
  refine kg_iconst h (z := 5) (5 : Int32) (by decide +kernel) (by decide) ?_
  refine kg_newa h hA 5 (by decide) (by decide) (by decide) (by decide +kernel) (wsC_at 51 (by decide +kernel) rfl) (by rw [hR]; exact ⟨Nat.le_of_ble_eq_true rfl, Nat.le_of_ble_eq_true rfl⟩) (fun a2 => ?_)
  refine kg_putF h hin (index := 18) (ci := 0) (q0 := 0) (fk := 2) (C := RX0) (T := TX0) (N := 14) (v := .ref a2) (ws' := [(h0, .inr (0, [.ref a0, .ref a1, .ref a2, .null, .null, .null, .null, .null, .int 0, .int 0, .int 0, .int 0, .int 0, .int 0])), (a0, .inl (xk X 0, 5, .inl (fun _ => 0))), (a1, .inl (xk X 0, 5, .inl (fun _ => 0))), (a2, .inl (xk X 0, 5, .inl (fun _ => 0)))]) rfl rfl (by decide) (by decide +kernel) (wsC_at 122 (by decide +kernel) rfl) rfl rfl rfl rfl (Nat.le_of_ble_eq_true rfl) rfl ?_
  refine kg_aload h (j := 0) (x := h0) (i := 0) (by decide +kernel) rfl ?_
  refine kg_iconst h (z := 5) (5 : Int32) (by decide +kernel) (by decide) ?_
  refine kg_newa h hA 5 (by decide) (by decide) (by decide) (by decide +kernel) (wsC_at 51 (by decide +kernel) rfl) (by rw [hR]; exact ⟨Nat.le_of_ble_eq_true rfl, Nat.le_of_ble_eq_true rfl⟩) (fun a3 => ?_)
  refine kg_putF h hin (index := 21) (ci := 0) (q0 := 0) (fk := 3) (C := RX0) (T := TX0) (N := 14) (v := .ref a3) (ws' := [(h0, .inr (0, [.ref a0, .ref a1, .ref a2, .ref a3, .null, .null, .null, .null, .int 0, .int 0, .int 0, .int 0, .int 0, .int 0])), (a0, .inl (xk X 0, 5, .inl (fun _ => 0))), (a1, .inl (xk X 0, 5, .inl (fun _ => 0))), (a2, .inl (xk X 0, 5, .inl (fun _ => 0))), (a3, .inl (xk X 0, 5, .inl (fun _ => 0)))]) rfl rfl (by decide) (by decide +kernel) (wsC_at 124 (by decide +kernel) rfl) rfl rfl rfl rfl (Nat.le_of_ble_eq_true rfl) rfl ?_
  refine kg_aload h (j := 0) (x := h0) (i := 0) (by decide +kernel) rfl ?_
  refine kg_iconst h (z := 5) (5 : Int32) (by decide +kernel) (by decide) ?_
  refine kg_newa h hA 5 (by decide) (by decide) (by decide) (by decide +kernel) (wsC_at 51 (by decide +kernel) rfl) (by rw [hR]; exact ⟨Nat.le_of_ble_eq_true rfl, Nat.le_of_ble_eq_true rfl⟩) (fun a4 => ?_)
  refine kg_putF h hin (index := 24) (ci := 0) (q0 := 0) (fk := 4) (C := RX0) (T := TX0) (N := 14) (v := .ref a4) (ws' := [(h0, .inr (0, [.ref a0, .ref a1, .ref a2, .ref a3, .ref a4, .null, .null, .null, .int 0, .int 0, .int 0, .int 0, .int 0, .int 0])), (a0, .inl (xk X 0, 5, .inl (fun _ => 0))), (a1, .inl (xk X 0, 5, .inl (fun _ => 0))), (a2, .inl (xk X 0, 5, .inl (fun _ => 0))), (a3, .inl (xk X 0, 5, .inl (fun _ => 0))), (a4, .inl (xk X 0, 5, .inl (fun _ => 0)))]) rfl rfl (by decide) (by decide +kernel) (wsC_at 125 (by decide +kernel) rfl) rfl rfl rfl rfl (Nat.le_of_ble_eq_true rfl) rfl ?_
  refine kg_aload h (j := 0) (x := h0) (i := 0) (by decide +kernel) rfl ?_
  refine kg_iconst h (z := 5) (5 : Int32) (by decide +kernel) (by decide) ?_
  refine kg_iconst h (z := 5) (5 : Int32) (by decide +kernel) (by decide) ?_
  refine kg_mna h hA (index := 27) (by decide +kernel) (wsC_at 118 (by decide +kernel) rfl) (wsC_at 51 (by decide +kernel) rfl) (by rw [hR]; exact ⟨Nat.le_of_ble_eq_true rfl, Nat.le_of_ble_eq_true rfl⟩) (fun a5 => ?_)
  refine kg_putF h hin (index := 29) (ci := 0) (q0 := 0) (fk := 5) (C := RX0) (T := TX0) (N := 14) (v := .ref a5) (ws' := [(h0, .inr (0, [.ref a0, .ref a1, .ref a2, .ref a3, .ref a4, .ref a5, .null, .null, .int 0, .int 0, .int 0, .int 0, .int 0, .int 0])), (a0, .inl (xk X 0, 5, .inl (fun _ => 0))), (a1, .inl (xk X 0, 5, .inl (fun _ => 0))), (a2, .inl (xk X 0, 5, .inl (fun _ => 0))), (a3, .inl (xk X 0, 5, .inl (fun _ => 0))), (a4, .inl (xk X 0, 5, .inl (fun _ => 0))), (a5, .inl (xk X 3, 5, .inr (.inr (.inr (.inr (fun j => if j < 5 then some (a5 + 1 + j) else none)))))), (a5 + 1, .inl (xk X 0, 5, .inl (fun _ => 0))), (a5 + 2, .inl (xk X 0, 5, .inl (fun _ => 0))), (a5 + 3, .inl (xk X 0, 5, .inl (fun _ => 0))), (a5 + 4, .inl (xk X 0, 5, .inl (fun _ => 0))), (a5 + 5, .inl (xk X 0, 5, .inl (fun _ => 0)))]) rfl rfl (by decide) (by decide +kernel) (wsC_at 126 (by decide +kernel) rfl) rfl rfl rfl rfl (Nat.le_of_ble_eq_true rfl) rfl ?_
  refine kg_aload h (j := 0) (x := h0) (i := 0) (by decide +kernel) rfl ?_
  refine kg_bipush h (z := 32) (32 : Int32) (by decide +kernel) (by decide) ?_
  refine kg_newa h hA 32 (by decide) (by decide) (by decide) (by decide +kernel) (wsC_at 51 (by decide +kernel) rfl) (by rw [hR]; exact ⟨Nat.le_of_ble_eq_true rfl, Nat.le_of_ble_eq_true rfl⟩) (fun a6 => ?_)
  refine kg_putF h hin (index := 32) (ci := 0) (q0 := 0) (fk := 6) (C := RX0) (T := TX0) (N := 14) (v := .ref a6) (ws' := [(h0, .inr (0, [.ref a0, .ref a1, .ref a2, .ref a3, .ref a4, .ref a5, .ref a6, .null, .int 0, .int 0, .int 0, .int 0, .int 0, .int 0])), (a0, .inl (xk X 0, 5, .inl (fun _ => 0))), (a1, .inl (xk X 0, 5, .inl (fun _ => 0))), (a2, .inl (xk X 0, 5, .inl (fun _ => 0))), (a3, .inl (xk X 0, 5, .inl (fun _ => 0))), (a4, .inl (xk X 0, 5, .inl (fun _ => 0))), (a5, .inl (xk X 3, 5, .inr (.inr (.inr (.inr (fun j => if j < 5 then some (a5 + 1 + j) else none)))))), (a5 + 1, .inl (xk X 0, 5, .inl (fun _ => 0))), (a5 + 2, .inl (xk X 0, 5, .inl (fun _ => 0))), (a5 + 3, .inl (xk X 0, 5, .inl (fun _ => 0))), (a5 + 4, .inl (xk X 0, 5, .inl (fun _ => 0))), (a5 + 5, .inl (xk X 0, 5, .inl (fun _ => 0))), (a6, .inl (xk X 0, 32, .inl (fun _ => 0)))]) rfl rfl (by decide) (by decide +kernel) (wsC_at 128 (by decide +kernel) rfl) rfl rfl rfl rfl (Nat.le_of_ble_eq_true rfl) rfl ?_
  refine kg_aload h (j := 0) (x := h0) (i := 0) (by decide +kernel) rfl ?_
  refine kg_bipush h (z := 32) (32 : Int32) (by decide +kernel) (by decide) ?_
  refine kg_newa h hA 32 (by decide) (by decide) (by decide) (by decide +kernel) (wsC_at 51 (by decide +kernel) rfl) (by rw [hR]; exact ⟨Nat.le_of_ble_eq_true rfl, Nat.le_of_ble_eq_true rfl⟩) (fun a7 => ?_)
  refine kg_putF h hin (index := 35) (ci := 0) (q0 := 0) (fk := 7) (C := RX0) (T := TX0) (N := 14) (v := .ref a7) (ws' := [(h0, .inr (0, [.ref a0, .ref a1, .ref a2, .ref a3, .ref a4, .ref a5, .ref a6, .ref a7, .int 0, .int 0, .int 0, .int 0, .int 0, .int 0])), (a0, .inl (xk X 0, 5, .inl (fun _ => 0))), (a1, .inl (xk X 0, 5, .inl (fun _ => 0))), (a2, .inl (xk X 0, 5, .inl (fun _ => 0))), (a3, .inl (xk X 0, 5, .inl (fun _ => 0))), (a4, .inl (xk X 0, 5, .inl (fun _ => 0))), (a5, .inl (xk X 3, 5, .inr (.inr (.inr (.inr (fun j => if j < 5 then some (a5 + 1 + j) else none)))))), (a5 + 1, .inl (xk X 0, 5, .inl (fun _ => 0))), (a5 + 2, .inl (xk X 0, 5, .inl (fun _ => 0))), (a5 + 3, .inl (xk X 0, 5, .inl (fun _ => 0))), (a5 + 4, .inl (xk X 0, 5, .inl (fun _ => 0))), (a5 + 5, .inl (xk X 0, 5, .inl (fun _ => 0))), (a6, .inl (xk X 0, 32, .inl (fun _ => 0))), (a7, .inl (xk X 0, 32, .inl (fun _ => 0)))]) rfl rfl (by decide) (by decide +kernel) (wsC_at 129 (by decide +kernel) rfl) rfl rfl rfl rfl (Nat.le_of_ble_eq_true rfl) rfl ?_
  refine kg_widen (n' := 13) (k' := 119) (Nat.le_of_ble_eq_true rfl) (Nat.le_of_ble_eq_true rfl) ?_
  exact kg_ret h hr (by decide +kernel) (fun j => [a0, a1, a2, a3, a4, a5, a6, a7].getD j 0) rfl
/-- HeronFord$Search() -/
def dvX3 : List Value := [.null, .null, .null, .int 0, .int 0]
theorem dfX3 : ∀ j, j < 5 → defaultValue (tyK 3 j) = vp_V dvX3 j := fun j hj => by
  rcases (show j = 0 ∨ j = 1 ∨ j = 2 ∨ j = 3 ∨ j = 4 by omega) with rfl | rfl | rfl | rfl | rfl <;> rfl
def LX3 (cs : Nat → ClassId) (h0 : Nat) (as : Nat → Nat) : va_W := [(h0, .inr (3, [.ref (as 0), .ref (as 9), .ref (as 10), .int 0, .int 1000000])), (as 0, .inr (0, [.ref (as 1), .ref (as 2), .ref (as 3), .ref (as 4), .ref (as 5), .ref (as 6), .ref (as 7), .ref (as 8), .int 0, .int 0, .int 0, .int 0, .int 0, .int 0])), (as 1, .inl (cs 0, 5, .inl (fun _ => 0))), (as 2, .inl (cs 0, 5, .inl (fun _ => 0))), (as 3, .inl (cs 0, 5, .inl (fun _ => 0))), (as 4, .inl (cs 0, 5, .inl (fun _ => 0))), (as 5, .inl (cs 0, 5, .inl (fun _ => 0))), (as 6, .inl (cs 3, 5, .inr (.inr (.inr (.inr (fun j => if j < 5 then some (as 6 + 1 + j) else none)))))), (as 6 + 1, .inl (cs 0, 5, .inl (fun _ => 0))), (as 6 + 2, .inl (cs 0, 5, .inl (fun _ => 0))), (as 6 + 3, .inl (cs 0, 5, .inl (fun _ => 0))), (as 6 + 4, .inl (cs 0, 5, .inl (fun _ => 0))), (as 6 + 5, .inl (cs 0, 5, .inl (fun _ => 0))), (as 7, .inl (cs 0, 32, .inl (fun _ => 0))), (as 8, .inl (cs 0, 32, .inl (fun _ => 0))), (as 9, .inl (cs 0, 5, .inl (fun _ => 0))), (as 10, .inl (cs 0, 5, .inl (fun _ => 0)))]
set_option maxHeartbeats 4000000 in
set_option maxRecDepth 100000 in
theorem ctiX3 (l : Launch) (dC : Nat → ClassId) (dI : Nat → Nat → Nat) (cs : Nat → ClassId) : CtI l dC dI cs yX3_init prog_5_method_1_code 1 2 16 143 3 dvX3 (LX3 cs) := by
  refine cti_of (by decide +kernel) rfl rfl (fun X A h0 h hin hl hC hI hk hR hn hr hA => ?_)
  subst hl hC hI hk
  refine kg_aload h (j := 0) (x := h0) (i := 0) (by decide +kernel) rfl ?_
  refine kg_obj h (index := 3) (by decide +kernel) (wsC_at 174 (by decide +kernel) rfl) (wsC_at 28 (by decide +kernel) rfl) (wsC_at 29 (by decide +kernel) rfl) (by rw [hR]; exact ⟨Nat.le_of_ble_eq_true rfl, Nat.le_of_ble_eq_true rfl⟩) ?_
  refine kg_aload h (j := 0) (x := h0) (i := 0) (by decide +kernel) rfl ?_
  refine kg_new h hA (index := 9) (ci := 0) (C := RX0) (T := TX0) (N := 14) (fs := dvX0) rfl (by decide +kernel) (wsC_at 175 (by decide +kernel) rfl) (wsC_at 113 (by decide +kernel) rfl) (wsC_at 17 (by decide +kernel) rfl) dfX0 (by rw [hR]; exact ⟨Nat.le_of_ble_eq_true rfl, Nat.le_of_ble_eq_true rfl⟩) (fun a0 => ?_)
  refine kg_dup h (by decide +kernel) rfl ?_
  refine kg_ctor h hA (index := 11) (ctiX0 _ _ _ _) (by decide +kernel) (wsC_at 176 (by decide +kernel) rfl) (wsC_at 115 (by decide +kernel) rfl) (wsC_at 17 (by decide +kernel) rfl) (wsC_at 116 (by decide +kernel) rfl) rfl (by decide +kernel) (by rw [hR]; exact ⟨Nat.le_of_ble_eq_true rfl, Nat.le_of_ble_eq_true rfl⟩) (by rw [hR]; exact ⟨Nat.le_of_ble_eq_true rfl, Nat.le_of_ble_eq_true rfl⟩) (Nat.le_of_ble_eq_true rfl) (fun s1 => ?_)
  refine kg_putF h hin (index := 12) (ci := 3) (q0 := 0) (fk := 0) (C := RX3) (T := TX3) (N := 5) (v := .ref a0) (ws' := [(h0, .inr (3, [.ref a0, .null, .null, .int 0, .int 0])), (a0, .inr (0, [.ref (s1 0), .ref (s1 1), .ref (s1 2), .ref (s1 3), .ref (s1 4), .ref (s1 5), .ref (s1 6), .ref (s1 7), .int 0, .int 0, .int 0, .int 0, .int 0, .int 0])), (s1 0, .inl (xk X 0, 5, .inl (fun _ => 0))), (s1 1, .inl (xk X 0, 5, .inl (fun _ => 0))), (s1 2, .inl (xk X 0, 5, .inl (fun _ => 0))), (s1 3, .inl (xk X 0, 5, .inl (fun _ => 0))), (s1 4, .inl (xk X 0, 5, .inl (fun _ => 0))), (s1 5, .inl (xk X 3, 5, .inr (.inr (.inr (.inr (fun j => if j < 5 then some (s1 5 + 1 + j) else none)))))), (s1 5 + 1, .inl (xk X 0, 5, .inl (fun _ => 0))), (s1 5 + 2, .inl (xk X 0, 5, .inl (fun _ => 0))), (s1 5 + 3, .inl (xk X 0, 5, .inl (fun _ => 0))), (s1 5 + 4, .inl (xk X 0, 5, .inl (fun _ => 0))), (s1 5 + 5, .inl (xk X 0, 5, .inl (fun _ => 0))), (s1 6, .inl (xk X 0, 32, .inl (fun _ => 0))), (s1 7, .inl (xk X 0, 32, .inl (fun _ => 0)))]) rfl rfl (by decide) (by decide +kernel) (wsC_at 178 (by decide +kernel) rfl) rfl rfl rfl rfl (Nat.le_of_ble_eq_true rfl) rfl ?_
  refine kg_aload h (j := 0) (x := h0) (i := 0) (by decide +kernel) rfl ?_
  refine kg_iconst h (z := 5) (5 : Int32) (by decide +kernel) (by decide) ?_
  refine kg_newa h hA 5 (by decide) (by decide) (by decide) (by decide +kernel) (wsC_at 51 (by decide +kernel) rfl) (by rw [hR]; exact ⟨Nat.le_of_ble_eq_true rfl, Nat.le_of_ble_eq_true rfl⟩) (fun a2 => ?_)
  refine kg_putF h hin (index := 18) (ci := 3) (q0 := 0) (fk := 1) (C := RX3) (T := TX3) (N := 5) (v := .ref a2) (ws' := [(h0, .inr (3, [.ref a0, .ref a2, .null, .int 0, .int 0])), (a0, .inr (0, [.ref (s1 0), .ref (s1 1), .ref (s1 2), .ref (s1 3), .ref (s1 4), .ref (s1 5), .ref (s1 6), .ref (s1 7), .int 0, .int 0, .int 0, .int 0, .int 0, .int 0])), (s1 0, .inl (xk X 0, 5, .inl (fun _ => 0))), (s1 1, .inl (xk X 0, 5, .inl (fun _ => 0))), (s1 2, .inl (xk X 0, 5, .inl (fun _ => 0))), (s1 3, .inl (xk X 0, 5, .inl (fun _ => 0))), (s1 4, .inl (xk X 0, 5, .inl (fun _ => 0))), (s1 5, .inl (xk X 3, 5, .inr (.inr (.inr (.inr (fun j => if j < 5 then some (s1 5 + 1 + j) else none)))))), (s1 5 + 1, .inl (xk X 0, 5, .inl (fun _ => 0))), (s1 5 + 2, .inl (xk X 0, 5, .inl (fun _ => 0))), (s1 5 + 3, .inl (xk X 0, 5, .inl (fun _ => 0))), (s1 5 + 4, .inl (xk X 0, 5, .inl (fun _ => 0))), (s1 5 + 5, .inl (xk X 0, 5, .inl (fun _ => 0))), (s1 6, .inl (xk X 0, 32, .inl (fun _ => 0))), (s1 7, .inl (xk X 0, 32, .inl (fun _ => 0))), (a2, .inl (xk X 0, 5, .inl (fun _ => 0)))]) rfl rfl (by decide) (by decide +kernel) (wsC_at 179 (by decide +kernel) rfl) rfl rfl rfl rfl (Nat.le_of_ble_eq_true rfl) rfl ?_
  refine kg_aload h (j := 0) (x := h0) (i := 0) (by decide +kernel) rfl ?_
  refine kg_iconst h (z := 5) (5 : Int32) (by decide +kernel) (by decide) ?_
  refine kg_newa h hA 5 (by decide) (by decide) (by decide) (by decide +kernel) (wsC_at 51 (by decide +kernel) rfl) (by rw [hR]; exact ⟨Nat.le_of_ble_eq_true rfl, Nat.le_of_ble_eq_true rfl⟩) (fun a3 => ?_)
  refine kg_putF h hin (index := 22) (ci := 3) (q0 := 0) (fk := 2) (C := RX3) (T := TX3) (N := 5) (v := .ref a3) (ws' := [(h0, .inr (3, [.ref a0, .ref a2, .ref a3, .int 0, .int 0])), (a0, .inr (0, [.ref (s1 0), .ref (s1 1), .ref (s1 2), .ref (s1 3), .ref (s1 4), .ref (s1 5), .ref (s1 6), .ref (s1 7), .int 0, .int 0, .int 0, .int 0, .int 0, .int 0])), (s1 0, .inl (xk X 0, 5, .inl (fun _ => 0))), (s1 1, .inl (xk X 0, 5, .inl (fun _ => 0))), (s1 2, .inl (xk X 0, 5, .inl (fun _ => 0))), (s1 3, .inl (xk X 0, 5, .inl (fun _ => 0))), (s1 4, .inl (xk X 0, 5, .inl (fun _ => 0))), (s1 5, .inl (xk X 3, 5, .inr (.inr (.inr (.inr (fun j => if j < 5 then some (s1 5 + 1 + j) else none)))))), (s1 5 + 1, .inl (xk X 0, 5, .inl (fun _ => 0))), (s1 5 + 2, .inl (xk X 0, 5, .inl (fun _ => 0))), (s1 5 + 3, .inl (xk X 0, 5, .inl (fun _ => 0))), (s1 5 + 4, .inl (xk X 0, 5, .inl (fun _ => 0))), (s1 5 + 5, .inl (xk X 0, 5, .inl (fun _ => 0))), (s1 6, .inl (xk X 0, 32, .inl (fun _ => 0))), (s1 7, .inl (xk X 0, 32, .inl (fun _ => 0))), (a2, .inl (xk X 0, 5, .inl (fun _ => 0))), (a3, .inl (xk X 0, 5, .inl (fun _ => 0)))]) rfl rfl (by decide) (by decide +kernel) (wsC_at 180 (by decide +kernel) rfl) rfl rfl rfl rfl (Nat.le_of_ble_eq_true rfl) rfl ?_
  refine kg_aload h (j := 0) (x := h0) (i := 0) (by decide +kernel) rfl ?_
  refine kg_iconst h (z := 0) (0 : Int32) (by decide +kernel) (by decide) ?_
  refine kg_put h (index := 25) (ci := 3) (q0 := 0) (fk := 3) (C := RX3) (T := TX3) (N := 5) (v := .int 0) (ws' := [(h0, .inr (3, [.ref a0, .ref a2, .ref a3, .int 0, .int 0])), (a0, .inr (0, [.ref (s1 0), .ref (s1 1), .ref (s1 2), .ref (s1 3), .ref (s1 4), .ref (s1 5), .ref (s1 6), .ref (s1 7), .int 0, .int 0, .int 0, .int 0, .int 0, .int 0])), (s1 0, .inl (xk X 0, 5, .inl (fun _ => 0))), (s1 1, .inl (xk X 0, 5, .inl (fun _ => 0))), (s1 2, .inl (xk X 0, 5, .inl (fun _ => 0))), (s1 3, .inl (xk X 0, 5, .inl (fun _ => 0))), (s1 4, .inl (xk X 0, 5, .inl (fun _ => 0))), (s1 5, .inl (xk X 3, 5, .inr (.inr (.inr (.inr (fun j => if j < 5 then some (s1 5 + 1 + j) else none)))))), (s1 5 + 1, .inl (xk X 0, 5, .inl (fun _ => 0))), (s1 5 + 2, .inl (xk X 0, 5, .inl (fun _ => 0))), (s1 5 + 3, .inl (xk X 0, 5, .inl (fun _ => 0))), (s1 5 + 4, .inl (xk X 0, 5, .inl (fun _ => 0))), (s1 5 + 5, .inl (xk X 0, 5, .inl (fun _ => 0))), (s1 6, .inl (xk X 0, 32, .inl (fun _ => 0))), (s1 7, .inl (xk X 0, 32, .inl (fun _ => 0))), (a2, .inl (xk X 0, 5, .inl (fun _ => 0))), (a3, .inl (xk X 0, 5, .inl (fun _ => 0)))]) rfl rfl (by decide) (by decide +kernel) (wsC_at 181 (by decide +kernel) rfl) rfl rfl rfl (Nat.le_of_ble_eq_true rfl) rfl ?_
  refine kg_aload h (j := 0) (x := h0) (i := 0) (by decide +kernel) rfl ?_
  refine kg_ldc h (index := 29) (1000000 : Int32) (by decide +kernel) (wsC_at 177 (by decide +kernel) rfl) ?_
  refine kg_put h (index := 30) (ci := 3) (q0 := 0) (fk := 4) (C := RX3) (T := TX3) (N := 5) (v := .int 1000000) (ws' := [(h0, .inr (3, [.ref a0, .ref a2, .ref a3, .int 0, .int 1000000])), (a0, .inr (0, [.ref (s1 0), .ref (s1 1), .ref (s1 2), .ref (s1 3), .ref (s1 4), .ref (s1 5), .ref (s1 6), .ref (s1 7), .int 0, .int 0, .int 0, .int 0, .int 0, .int 0])), (s1 0, .inl (xk X 0, 5, .inl (fun _ => 0))), (s1 1, .inl (xk X 0, 5, .inl (fun _ => 0))), (s1 2, .inl (xk X 0, 5, .inl (fun _ => 0))), (s1 3, .inl (xk X 0, 5, .inl (fun _ => 0))), (s1 4, .inl (xk X 0, 5, .inl (fun _ => 0))), (s1 5, .inl (xk X 3, 5, .inr (.inr (.inr (.inr (fun j => if j < 5 then some (s1 5 + 1 + j) else none)))))), (s1 5 + 1, .inl (xk X 0, 5, .inl (fun _ => 0))), (s1 5 + 2, .inl (xk X 0, 5, .inl (fun _ => 0))), (s1 5 + 3, .inl (xk X 0, 5, .inl (fun _ => 0))), (s1 5 + 4, .inl (xk X 0, 5, .inl (fun _ => 0))), (s1 5 + 5, .inl (xk X 0, 5, .inl (fun _ => 0))), (s1 6, .inl (xk X 0, 32, .inl (fun _ => 0))), (s1 7, .inl (xk X 0, 32, .inl (fun _ => 0))), (a2, .inl (xk X 0, 5, .inl (fun _ => 0))), (a3, .inl (xk X 0, 5, .inl (fun _ => 0)))]) rfl rfl (by decide) (by decide +kernel) (wsC_at 182 (by decide +kernel) rfl) rfl rfl rfl (Nat.le_of_ble_eq_true rfl) rfl ?_
  refine kg_widen (n' := 16) (k' := 143) (Nat.le_of_ble_eq_true rfl) (Nat.le_of_ble_eq_true rfl) ?_
  exact kg_ret h hr (by decide +kernel) (fun j => [a0, (s1 0), (s1 1), (s1 2), (s1 3), (s1 4), (s1 5), (s1 6), (s1 7), a2, a3].getD j 0) rfl
