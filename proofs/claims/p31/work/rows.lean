section
-- ===== PART A: goes FIRST, ahead of the names: the tables' words, and 'selects' of the private methods out of them =====
/-- a private method of a class that the tables say can be made, by its rows of tables_1 -/
def lw_okq (q : MethodName × Nat) : Prop := (q.1.cls ≠ "java/lang/invoke/MethodHandle" ∧ q.1.cls ≠ "java/lang/invoke/VarHandle") ∧ Cond.instantiable q.1.cls q.2 ∈ tables_1 ∧ Cond.privateMethod q.1 ∈ tables_1 ∧ Cond.instanceMethod q.1 ∈ tables_1
theorem lw_p0 : lw_okq (⟨"HeronFord", "faulty", "(I)I"⟩, 7) := ⟨⟨by decide +kernel, by decide +kernel⟩, List.mem_of_getElem? (i := 11) (by decide +kernel), List.mem_of_getElem? (i := 243) (by decide +kernel), List.mem_of_getElem? (i := 244) (by decide +kernel)⟩
theorem lw_p1 : lw_okq (⟨"HeronFord", "refusalOf", "(IIIIZ)I"⟩, 7) := ⟨⟨by decide +kernel, by decide +kernel⟩, List.mem_of_getElem? (i := 11) (by decide +kernel), List.mem_of_getElem? (i := 307) (by decide +kernel), List.mem_of_getElem? (i := 308) (by decide +kernel)⟩
theorem lw_p2 : lw_okq (⟨"HeronFord", "walkAsTold", "(III)I"⟩, 7) := ⟨⟨by decide +kernel, by decide +kernel⟩, List.mem_of_getElem? (i := 11) (by decide +kernel), List.mem_of_getElem? (i := 311) (by decide +kernel), List.mem_of_getElem? (i := 312) (by decide +kernel)⟩
theorem lw_p3 : lw_okq (⟨"HeronFord$Crossing", "payerOf", "(II)I"⟩, 14) := ⟨⟨by decide +kernel, by decide +kernel⟩, List.mem_of_getElem? (i := 101) (by decide +kernel), List.mem_of_getElem? (i := 331) (by decide +kernel), List.mem_of_getElem? (i := 332) (by decide +kernel)⟩
theorem lw_p4 : lw_okq (⟨"HeronFord$Crossing", "hasNewSong", "(I)Z"⟩, 14) := ⟨⟨by decide +kernel, by decide +kernel⟩, List.mem_of_getElem? (i := 101) (by decide +kernel), List.mem_of_getElem? (i := 344) (by decide +kernel), List.mem_of_getElem? (i := 345) (by decide +kernel)⟩
theorem lw_p5 : lw_okq (⟨"HeronFord$Crossing", "hasSecret", "(I)Z"⟩, 14) := ⟨⟨by decide +kernel, by decide +kernel⟩, List.mem_of_getElem? (i := 101) (by decide +kernel), List.mem_of_getElem? (i := 348) (by decide +kernel), List.mem_of_getElem? (i := 349) (by decide +kernel)⟩
theorem lw_p6 : lw_okq (⟨"HeronFord$Crossing", "lenderFor", "(II)I"⟩, 14) := ⟨⟨by decide +kernel, by decide +kernel⟩, List.mem_of_getElem? (i := 101) (by decide +kernel), List.mem_of_getElem? (i := 352) (by decide +kernel), List.mem_of_getElem? (i := 353) (by decide +kernel)⟩
theorem lw_p7 : lw_okq (⟨"HeronFord$Crossing", "pay", "(III)V"⟩, 14) := ⟨⟨by decide +kernel, by decide +kernel⟩, List.mem_of_getElem? (i := 101) (by decide +kernel), List.mem_of_getElem? (i := 356) (by decide +kernel), List.mem_of_getElem? (i := 357) (by decide +kernel)⟩
theorem lw_p8 : lw_okq (⟨"HeronFord$Crossing", "turnWord", "(II)V"⟩, 14) := ⟨⟨by decide +kernel, by decide +kernel⟩, List.mem_of_getElem? (i := 101) (by decide +kernel), List.mem_of_getElem? (i := 360) (by decide +kernel), List.mem_of_getElem? (i := 361) (by decide +kernel)⟩
theorem lw_p9 : lw_okq (⟨"HeronFord", "refusalWithFish", "(IIIII)I"⟩, 7) := ⟨⟨by decide +kernel, by decide +kernel⟩, List.mem_of_getElem? (i := 11) (by decide +kernel), List.mem_of_getElem? (i := 368) (by decide +kernel), List.mem_of_getElem? (i := 369) (by decide +kernel)⟩
theorem lw_p10 : lw_okq (⟨"HeronFord", "unknownFish", "()I"⟩, 7) := ⟨⟨by decide +kernel, by decide +kernel⟩, List.mem_of_getElem? (i := 11) (by decide +kernel), List.mem_of_getElem? (i := 372) (by decide +kernel), List.mem_of_getElem? (i := 373) (by decide +kernel)⟩
theorem lw_p11 : lw_okq (⟨"HeronFord$Sheet", "cut", "(I)I"⟩, 4) := ⟨⟨by decide +kernel, by decide +kernel⟩, List.mem_of_getElem? (i := 20) (by decide +kernel), List.mem_of_getElem? (i := 394) (by decide +kernel), List.mem_of_getElem? (i := 395) (by decide +kernel)⟩
def lw_privs_1 : List (MethodName × Nat) := [(⟨"HeronFord", "faulty", "(I)I"⟩, 7), (⟨"HeronFord", "refusalOf", "(IIIIZ)I"⟩, 7), (⟨"HeronFord", "walkAsTold", "(III)I"⟩, 7), (⟨"HeronFord$Crossing", "payerOf", "(II)I"⟩, 14), (⟨"HeronFord$Crossing", "hasNewSong", "(I)Z"⟩, 14), (⟨"HeronFord$Crossing", "hasSecret", "(I)Z"⟩, 14), (⟨"HeronFord$Crossing", "lenderFor", "(II)I"⟩, 14), (⟨"HeronFord$Crossing", "pay", "(III)V"⟩, 14), (⟨"HeronFord$Crossing", "turnWord", "(II)V"⟩, 14), (⟨"HeronFord", "refusalWithFish", "(IIIII)I"⟩, 7), (⟨"HeronFord", "unknownFish", "()I"⟩, 7), (⟨"HeronFord$Sheet", "cut", "(I)I"⟩, 4)]
theorem lw_r1 : ∀ q ∈ lw_privs_1, lw_okq q := List.forall_mem_cons.mpr ⟨lw_p0, List.forall_mem_cons.mpr ⟨lw_p1, List.forall_mem_cons.mpr ⟨lw_p2, List.forall_mem_cons.mpr ⟨lw_p3, List.forall_mem_cons.mpr ⟨lw_p4, List.forall_mem_cons.mpr ⟨lw_p5, List.forall_mem_cons.mpr ⟨lw_p6, List.forall_mem_cons.mpr ⟨lw_p7, List.forall_mem_cons.mpr ⟨lw_p8, List.forall_mem_cons.mpr ⟨lw_p9, List.forall_mem_cons.mpr ⟨lw_p10, List.forall_mem_cons.mpr ⟨lw_p11, fun _ h => absurd h List.not_mem_nil⟩⟩⟩⟩⟩⟩⟩⟩⟩⟩⟩⟩
def lw_privs : List (MethodName × Nat) := lw_privs_1
def lw_tbl : List Cond := k2_sels lw_privs ++ tables_1
theorem lw_privs_ok : ∀ q ∈ lw_privs, lw_okq q := lw_r1
-- ===== end of PART A =====
def RX0 : String := "HeronFord$Crossing"
def TX0 : u_T := fun k => match k with
  | 0 => ("HeronFord$Crossing", "kind", "[I", true)
  | 1 => ("HeronFord$Crossing", "size", "[I", true)
  | 2 => ("HeronFord$Crossing", "scales", "[I", true)
  | 3 => ("HeronFord$Crossing", "song", "[I", true)
  | 4 => ("HeronFord$Crossing", "secret", "[I", true)
  | 5 => ("HeronFord$Crossing", "owed", "[[I", true)
  | 6 => ("HeronFord$Crossing", "groups", "[I", true)
  | 7 => ("HeronFord$Crossing", "sums", "[I", true)
  | 8 => ("HeronFord$Crossing", "count", "I", false)
  | 9 => ("HeronFord$Crossing", "dear", "I", false)
  | 10 => ("HeronFord$Crossing", "known", "I", false)
  | 11 => ("HeronFord$Crossing", "harmed", "I", false)
  | 12 => ("HeronFord$Crossing", "above", "I", false)
  | _ => ("HeronFord$Crossing", "got", "I", false)
def tyX0 : Nat → FieldType := fun k => match k with
  | 0 => .array .int
  | 1 => .array .int
  | 2 => .array .int
  | 3 => .array .int
  | 4 => .array .int
  | 5 => .array (.array .int)
  | 6 => .array .int
  | 7 => .array .int
  | 8 => .int
  | 9 => .int
  | 10 => .int
  | 11 => .int
  | 12 => .int
  | _ => .int
abbrev wsX00 : List Cond := u_ws RX0 TX0 14
theorem nmX0 : ∀ a, a < 14 → ∀ b, b < 14 → a ≠ b → (TX0 a).2.1 ≠ (TX0 b).2.1 := by decide +kernel
theorem tyX0_ok : ∀ k, k < 14 → parseFieldDescriptor (TX0 k).2.2.1 = some (tyX0 k) := by decide +kernel
abbrev cX0_init : ByteArray := prog_2_method_1_code
def yX0_init : MethodName := ⟨RX0, "<init>", "()V"⟩
abbrev cX0_start : ByteArray := prog_2_method_2_code
def yX0_start : MethodName := ⟨RX0, "start", "(LHeronFord$Told;)V"⟩
abbrev cX0_walk : ByteArray := prog_2_method_3_code
def yX0_walk : MethodName := ⟨RX0, "walk", "(LHeronFord$Sheet;II)I"⟩
abbrev cX0_pass : ByteArray := prog_2_method_4_code
def yX0_pass : MethodName := ⟨RX0, "pass", "(II)I"⟩
abbrev cX0_payerOf : ByteArray := prog_2_method_6_code
def yX0_payerOf : MethodName := ⟨RX0, "payerOf", "(II)I"⟩
abbrev cX0_pay : ByteArray := prog_2_method_7_code
def yX0_pay : MethodName := ⟨RX0, "pay", "(III)V"⟩
abbrev cX0_turnWord : ByteArray := prog_2_method_8_code
def yX0_turnWord : MethodName := ⟨RX0, "turnWord", "(II)V"⟩
abbrev cX0_hasNewSong : ByteArray := prog_2_method_9_code
def yX0_hasNewSong : MethodName := ⟨RX0, "hasNewSong", "(I)Z"⟩
abbrev cX0_hasSecret : ByteArray := prog_2_method_10_code
def yX0_hasSecret : MethodName := ⟨RX0, "hasSecret", "(I)Z"⟩
abbrev cX0_lenderFor : ByteArray := prog_2_method_11_code
def yX0_lenderFor : MethodName := ⟨RX0, "lenderFor", "(II)I"⟩
abbrev cX0_tollOf : ByteArray := prog_2_method_12_code
def yX0_tollOf : MethodName := ⟨RX0, "tollOf", "(I)I"⟩
abbrev cX0_isBelow : ByteArray := prog_2_method_13_code
def yX0_isBelow : MethodName := ⟨RX0, "isBelow", "(I)Z"⟩
def RX1 : String := "HeronFord$Fish"
def TX1 : u_T := fun k => match k with
  | 0 => ("HeronFord$Fish", "kind", "I", false)
  | 1 => ("HeronFord$Fish", "size", "I", false)
  | 2 => ("HeronFord$Fish", "scales", "I", false)
  | 3 => ("HeronFord$Fish", "song", "I", false)
  | _ => ("HeronFord$Fish", "secret", "I", false)
def tyX1 : Nat → FieldType := fun k => match k with
  | 0 => .int
  | 1 => .int
  | 2 => .int
  | 3 => .int
  | _ => .int
abbrev wsX10 : List Cond := u_ws RX1 TX1 5
theorem nmX1 : ∀ a, a < 5 → ∀ b, b < 5 → a ≠ b → (TX1 a).2.1 ≠ (TX1 b).2.1 := by decide +kernel
theorem tyX1_ok : ∀ k, k < 5 → parseFieldDescriptor (TX1 k).2.2.1 = some (tyX1 k) := by decide +kernel
abbrev cX1_init : ByteArray := prog_3_method_1_code
def yX1_init : MethodName := ⟨RX1, "<init>", "()V"⟩
abbrev cX1_take : ByteArray := prog_3_method_2_code
def yX1_take : MethodName := ⟨RX1, "take", "(LHeronFord$Sheet;I)V"⟩
def RX2 : String := "HeronFord$Readings"
def TX2 : u_T := fun k => match k with
  | 0 => ("HeronFord$Readings", "fish", "[I", true)
  | 1 => ("HeronFord$Readings", "left", "[I", true)
  | _ => ("HeronFord$Readings", "count", "I", false)
def tyX2 : Nat → FieldType := fun k => match k with
  | 0 => .array .int
  | 1 => .array .int
  | _ => .int
abbrev wsX20 : List Cond := u_ws RX2 TX2 3
theorem nmX2 : ∀ a, a < 3 → ∀ b, b < 3 → a ≠ b → (TX2 a).2.1 ≠ (TX2 b).2.1 := by decide +kernel
theorem tyX2_ok : ∀ k, k < 3 → parseFieldDescriptor (TX2 k).2.2.1 = some (tyX2 k) := by decide +kernel
abbrev cX2_init : ByteArray := prog_4_method_1_code
def yX2_init : MethodName := ⟨RX2, "<init>", "()V"⟩
def RX3 : String := "HeronFord$Search"
def TX3 : u_T := fun k => match k with
  | 0 => ("HeronFord$Search", "crossing", "LHeronFord$Crossing;", true)
  | 1 => ("HeronFord$Search", "row", "[I", true)
  | 2 => ("HeronFord$Search", "bestRow", "[I", true)
  | 3 => ("HeronFord$Search", "ways", "I", false)
  | _ => ("HeronFord$Search", "best", "I", false)
def tyX3 : Nat → FieldType := fun k => match k with
  | 0 => .object "HeronFord$Crossing"
  | 1 => .array .int
  | 2 => .array .int
  | 3 => .int
  | _ => .int
abbrev wsX30 : List Cond := u_ws RX3 TX3 5
theorem nmX3 : ∀ a, a < 5 → ∀ b, b < 5 → a ≠ b → (TX3 a).2.1 ≠ (TX3 b).2.1 := by decide +kernel
theorem tyX3_ok : ∀ k, k < 5 → parseFieldDescriptor (TX3 k).2.2.1 = some (tyX3 k) := by decide +kernel
abbrev cX3_init : ByteArray := prog_5_method_1_code
def yX3_init : MethodName := ⟨RX3, "<init>", "()V"⟩
abbrev cX3_forget : ByteArray := prog_5_method_2_code
def yX3_forget : MethodName := ⟨RX3, "forget", "()V"⟩
def RX4 : String := "HeronFord$Sheet"
def TX4 : u_T := fun k => match k with
  | 0 => ("HeronFord$Sheet", "cells", "[I", true)
  | 1 => ("HeronFord$Sheet", "hasRow", "Z", false)
  | 2 => ("HeronFord$Sheet", "lane", "I", false)
  | _ => ("HeronFord$Sheet", "length", "I", false)
def tyX4 : Nat → FieldType := fun k => match k with
  | 0 => .array .int
  | 1 => .boolean
  | 2 => .int
  | _ => .int
abbrev wsX40 : List Cond := u_ws RX4 TX4 4
theorem nmX4 : ∀ a, a < 4 → ∀ b, b < 4 → a ≠ b → (TX4 a).2.1 ≠ (TX4 b).2.1 := by decide +kernel
theorem tyX4_ok : ∀ k, k < 4 → parseFieldDescriptor (TX4 k).2.2.1 = some (tyX4 k) := by decide +kernel
abbrev cX4_init : ByteArray := prog_6_method_1_code
def yX4_init : MethodName := ⟨RX4, "<init>", "()V"⟩
abbrev cX4_begin : ByteArray := prog_6_method_2_code
def yX4_begin : MethodName := ⟨RX4, "begin", "(II)V"⟩
abbrev cX4_holds : ByteArray := prog_6_method_3_code
def yX4_holds : MethodName := ⟨RX4, "holds", "(II)Z"⟩
abbrev cX4_faultAt : ByteArray := prog_6_method_4_code
def yX4_faultAt : MethodName := ⟨RX4, "faultAt", "(III)I"⟩
abbrev cX4_at : ByteArray := prog_6_method_5_code
def yX4_at : MethodName := ⟨RX4, "at", "(I)I"⟩
abbrev cX4_set : ByteArray := prog_6_method_6_code
def yX4_set : MethodName := ⟨RX4, "set", "(II)V"⟩
abbrev cX4_cut : ByteArray := prog_6_method_7_code
def yX4_cut : MethodName := ⟨RX4, "cut", "(I)I"⟩
def RX5 : String := "HeronFord$Told"
def TX5 : u_T := fun k => match k with
  | 0 => ("HeronFord$Told", "fish", "[LHeronFord$Fish;", true)
  | 1 => ("HeronFord$Told", "count", "I", false)
  | 2 => ("HeronFord$Told", "dear", "I", false)
  | _ => ("HeronFord$Told", "known", "I", false)
def tyX5 : Nat → FieldType := fun k => match k with
  | 0 => .array (.object "HeronFord$Fish")
  | 1 => .int
  | 2 => .int
  | _ => .int
abbrev wsX50 : List Cond := u_ws RX5 TX5 4
theorem nmX5 : ∀ a, a < 4 → ∀ b, b < 4 → a ≠ b → (TX5 a).2.1 ≠ (TX5 b).2.1 := by decide +kernel
theorem tyX5_ok : ∀ k, k < 4 → parseFieldDescriptor (TX5 k).2.2.1 = some (tyX5 k) := by decide +kernel
abbrev cX5_init : ByteArray := prog_7_method_1_code
def yX5_init : MethodName := ⟨RX5, "<init>", "()V"⟩
abbrev cX5_has : ByteArray := prog_7_method_2_code
def yX5_has : MethodName := ⟨RX5, "has", "(I)Z"⟩
abbrev cX5_take : ByteArray := prog_7_method_3_code
def yX5_take : MethodName := ⟨RX5, "take", "(LHeronFord$Sheet;II)V"⟩
def RX6 : String := "HeronFord"
def TX6 : u_T := fun k => match k with
  | 0 => ("HeronFord", "sheets", "[LHeronFord$Sheet;", true)
  | 1 => ("HeronFord", "told", "LHeronFord$Told;", true)
  | 2 => ("HeronFord", "crossing", "LHeronFord$Crossing;", true)
  | 3 => ("HeronFord", "search", "LHeronFord$Search;", true)
  | 4 => ("HeronFord", "readings", "LHeronFord$Readings;", true)
  | 5 => ("HeronFord", "trace", "I", false)
  | _ => ("HeronFord", "fault", "I", false)
def tyX6 : Nat → FieldType := fun k => match k with
  | 0 => .array (.object "HeronFord$Sheet")
  | 1 => .object "HeronFord$Told"
  | 2 => .object "HeronFord$Crossing"
  | 3 => .object "HeronFord$Search"
  | 4 => .object "HeronFord$Readings"
  | 5 => .int
  | _ => .int
abbrev wsX60 : List Cond := u_ws RX6 TX6 7
theorem nmX6 : ∀ a, a < 7 → ∀ b, b < 7 → a ≠ b → (TX6 a).2.1 ≠ (TX6 b).2.1 := by decide +kernel
theorem tyX6_ok : ∀ k, k < 7 → parseFieldDescriptor (TX6 k).2.2.1 = some (tyX6 k) := by decide +kernel
abbrev cX6_init : ByteArray := prog_1_method_1_code
def yX6_init : MethodName := ⟨RX6, "<init>", "()V"⟩
abbrev cX6_ford : ByteArray := prog_1_method_2_code
def yX6_ford : MethodName := ⟨RX6, "ford", "(IIII)I"⟩
abbrev cX6_ofFish : ByteArray := prog_1_method_3_code
def yX6_ofFish : MethodName := ⟨RX6, "ofFish", "(II)I"⟩
abbrev cX6_dear : ByteArray := prog_1_method_4_code
def yX6_dear : MethodName := ⟨RX6, "dear", "(I)I"⟩
abbrev cX6_scales : ByteArray := prog_1_method_5_code
def yX6_scales : MethodName := ⟨RX6, "scales", "(II)I"⟩
abbrev cX6_hear : ByteArray := prog_1_method_6_code
def yX6_hear : MethodName := ⟨RX6, "hear", "(I)I"⟩
abbrev cX6_passes : ByteArray := prog_1_method_7_code
def yX6_passes : MethodName := ⟨RX6, "passes", "(IIIII)I"⟩
abbrev cX6_owes : ByteArray := prog_1_method_8_code
def yX6_owes : MethodName := ⟨RX6, "owes", "(IIIIII)I"⟩
abbrev cX6_toll : ByteArray := prog_1_method_9_code
def yX6_toll : MethodName := ⟨RX6, "toll", "(IIIII)I"⟩
abbrev cX6_wants : ByteArray := prog_1_method_12_code
def yX6_wants : MethodName := ⟨RX6, "wants", "(IIIII)I"⟩
abbrev cX6_sheet : ByteArray := prog_1_method_19_code
def yX6_sheet : MethodName := ⟨RX6, "sheet", "(III)I"⟩
abbrev cX6_put : ByteArray := prog_1_method_21_code
def yX6_put : MethodName := ⟨RX6, "put", "(III)I"⟩
abbrev cX6_many : ByteArray := prog_1_method_29_code
def yX6_many : MethodName := ⟨RX6, "many", "(I)I"⟩
abbrev cX6_isWithin : ByteArray := prog_1_method_30_code
def yX6_isWithin : MethodName := ⟨RX6, "isWithin", "(III)Z"⟩
abbrev cX6_isSheet : ByteArray := prog_1_method_31_code
def yX6_isSheet : MethodName := ⟨RX6, "isSheet", "(I)Z"⟩
abbrev cX6_isLane : ByteArray := prog_1_method_32_code
def yX6_isLane : MethodName := ⟨RX6, "isLane", "(I)Z"⟩
abbrev cX6_shareOf : ByteArray := prog_1_method_35_code
def yX6_shareOf : MethodName := ⟨RX6, "shareOf", "(II)I"⟩
abbrev cX6_faulty : ByteArray := prog_1_method_36_code
def yX6_faulty : MethodName := ⟨RX6, "faulty", "(I)I"⟩
abbrev cX6_unknownFish : ByteArray := prog_1_method_37_code
def yX6_unknownFish : MethodName := ⟨RX6, "unknownFish", "()I"⟩
abbrev cX6_refusalWithFish : ByteArray := prog_1_method_38_code
def yX6_refusalWithFish : MethodName := ⟨RX6, "refusalWithFish", "(IIIII)I"⟩
abbrev cX6_refusalOf : ByteArray := prog_1_method_39_code
def yX6_refusalOf : MethodName := ⟨RX6, "refusalOf", "(IIIIZ)I"⟩
abbrev cX6_walkAsTold : ByteArray := prog_1_method_40_code
def yX6_walkAsTold : MethodName := ⟨RX6, "walkAsTold", "(III)I"⟩
abbrev cX6_firstFault : ByteArray := prog_1_method_46_code
def yX6_firstFault : MethodName := ⟨RX6, "firstFault", "(LHeronFord$Sheet;II)I"⟩
abbrev cX6_goesOn : ByteArray := prog_1_method_47_code
def yX6_goesOn : MethodName := ⟨RX6, "goesOn", "(II)Z"⟩
abbrev cX6_isDigit : ByteArray := prog_1_method_48_code
def yX6_isDigit : MethodName := ⟨RX6, "isDigit", "(III)Z"⟩
abbrev cX6_kindOf : ByteArray := prog_1_method_49_code
def yX6_kindOf : MethodName := ⟨RX6, "kindOf", "(I)I"⟩
def RX7 : String := "HeronFordModel"
def TX7 : u_T := fun k => match k with
  | _ => ("", "", "", false)
def tyX7 : Nat → FieldType := fun k => match k with
  | _ => .int
abbrev wsX70 : List Cond := u_ws RX7 TX7 0
theorem nmX7 : ∀ a, a < 0 → ∀ b, b < 0 → a ≠ b → (TX7 a).2.1 ≠ (TX7 b).2.1 := by decide +kernel
theorem tyX7_ok : ∀ k, k < 0 → parseFieldDescriptor (TX7 k).2.2.1 = some (tyX7 k) := by decide +kernel
def RJ9 : String := "java/lang/Math"
abbrev cJ9_max_7cf53 : ByteArray := prog_10_method_65_code
def yJ9_max_7cf53 : MethodName := ⟨RJ9, "max", "(II)I"⟩
abbrev cJ9_min_7cf53 : ByteArray := prog_10_method_69_code
def yJ9_min_7cf53 : MethodName := ⟨RJ9, "min", "(II)I"⟩
def RJ7 : String := "java/util/Arrays"
abbrev cJ7_fill_53178 : ByteArray := prog_11_method_103_code
def yJ7_fill_53178 : MethodName := ⟨RJ7, "fill", "([II)V"⟩
def RL : String := "HeronFordLaw"
abbrev cL_cell : ByteArray := method_2_code
def yL_cell : MethodName := ⟨RL, "cell", "([II)I"⟩
abbrev cL_some : ByteArray := method_3_code
def yL_some : MethodName := ⟨RL, "some", "(II)I"⟩
abbrev cL_put : ByteArray := method_4_code
def yL_put : MethodName := ⟨RL, "put", "(LHeronFord;[III[I)I"⟩
abbrev cL_change : ByteArray := method_5_code
def yL_change : MethodName := ⟨RL, "change", "(LHeronFord;I[I)Z"⟩
abbrev cL_share : ByteArray := method_6_code
def yL_share : MethodName := ⟨RL, "share", "([II)I"⟩
abbrev cL_begin : ByteArray := method_7_code
def yL_begin : MethodName := ⟨RL, "begin", "([I[I[I)V"⟩
abbrev cL_toll : ByteArray := method_8_code
def yL_toll : MethodName := ⟨RL, "toll", "([II[I)I"⟩
abbrev cL_pass : ByteArray := method_9_code
def yL_pass : MethodName := ⟨RL, "pass", "([III[I[I)Z"⟩
abbrev cL_go : ByteArray := method_10_code
def yL_go : MethodName := ⟨RL, "go", "([I[II[I[I)I"⟩
abbrev cL_lay : ByteArray := method_11_code
def yL_lay : MethodName := ⟨RL, "lay", "(LHeronFord;[II[I[I[I[I)I"⟩
abbrev cL_law : ByteArray := code
def yL_law : MethodName := ⟨RL, "law", "([I)Z"⟩
abbrev vwCl : List vw_C := [(RX0, TX0, 14), (RX1, TX1, 5), (RX2, TX2, 3), (RX3, TX3, 5), (RX4, TX4, 4), (RX5, TX5, 4), (RX6, TX6, 7)]
end
section
/-! ===== the memory of both systems as numbers: a cell is (tag, index); its ints by places; its references never change ===== -/
abbrev AR : Type := Nat × Nat
abbrev AV : Type := Int32 ⊕ (Int64 ⊕ AR)
abbrev Mem : Type := Nat → Nat → Nat → Int32
abbrev ALs : Type := List (Option AV)
abbrev ASt : Type := List AV
variable {ph : Bool}
def mset (m : Mem) (t i j : Nat) (v : Int32) : Mem := fun t' i' j' => if t' = t ∧ i' = i ∧ j' = j then v else m t' i' j'
def cv (A : AR → Nat) : AV → Value
  | .inl x => .int x
  | .inr (.inl x) => .long x
  | .inr (.inr r) => .ref (A r)
/-- the objects: class by its number in vwCl, how many fields -/
def sh_cls : Nat → Option (Nat × Nat)
  | 0 => some (6, 7)
  | 2 => some (4, 4)
  | 4 => some (5, 4)
  | 6 => some (1, 5)
  | 7 => some (0, 14)
  | 17 => some (3, 5)
  | 20 => some (2, 3)
  | _ => none
/-- the arrays: kind (0 ints, 1 Sheets, 2 Fish, 3 rows of ints), how long -/
def sh_arr : Nat → Option (Nat × Nat)
  | 1 => some (1, 4)
  | 3 => some (0, 60)
  | 5 => some (2, 5)
  | 8 => some (0, 5)
  | 9 => some (0, 5)
  | 10 => some (0, 5)
  | 11 => some (0, 5)
  | 12 => some (0, 5)
  | 13 => some (3, 5)
  | 14 => some (0, 5)
  | 15 => some (0, 32)
  | 16 => some (0, 32)
  | 18 => some (0, 5)
  | 19 => some (0, 5)
  | 21 => some (0, 8)
  | 22 => some (0, 8)
  | 70 => some (0, 28)
  | 71 => some (0, 40)
  | 72 => some (0, 9)
  | 73 => some (0, 25)
  | _ => none
/-- the references: a field's, or a place's -/
def sh_ref : Nat → Nat → Nat → Option AR
  | 0, _, k => match k with
    | 0 => some (1, 0)
    | 1 => some (4, 0)
    | 2 => some (7, 0)
    | 3 => some (17, 0)
    | 4 => some (20, 0)
    | _ => none
  | 1, _, k => some (2, k)
  | 2, i, k => match k with
    | 0 => some (3, i)
    | _ => none
  | 4, _, k => match k with
    | 0 => some (5, 0)
    | _ => none
  | 5, _, k => some (6, k)
  | 7, i, k => match k with
    | 0 => some (8, i)
    | 1 => some (9, i)
    | 2 => some (10, i)
    | 3 => some (11, i)
    | 4 => some (12, i)
    | 5 => some (13, i)
    | 6 => some (15, i)
    | 7 => some (16, i)
    | _ => none
  | 13, i, k => some (14, 5 * i + k)
  | 17, _, k => match k with
    | 0 => some (7, 1)
    | 1 => some (18, 0)
    | 2 => some (19, 0)
    | _ => none
  | 20, _, k => match k with
    | 0 => some (21, 0)
    | 1 => some (22, 0)
    | _ => none
  | _, _, _ => none
def vr1 : List AR := [(0,0),(1,0),(2,0),(3,0),(2,1),(3,1),(2,2),(3,2),(2,3),(3,3),(4,0),(5,0),(6,0),(6,1),(6,2),(6,3),(6,4),
  (7,0),(8,0),(9,0),(10,0),(11,0),(12,0),(13,0),(14,0),(14,1),(14,2),(14,3),(14,4),(15,0),(16,0),
  (17,0),(7,1),(8,1),(9,1),(10,1),(11,1),(12,1),(13,1),(14,5),(14,6),(14,7),(14,8),(14,9),(15,1),(16,1),(18,0),(19,0),(20,0),(21,0),(22,0),(70,0)]
/-- the cells that there are: before the law's three later rows (false), and behind them (true) -/
def vrefs (ph : Bool) : List AR := match ph with
  | false => vr1
  | true => vr1 ++ [(71,0),(72,0),(73,0)]
theorem vrefs_nodup (ph : Bool) : (vrefs ph).Nodup := by cases ph <;> decide +kernel
/-- 0 an int that may be written, 1 a boolean, 2 a reference -/
def fkd (ci k : Nat) : Nat := match vwCl[ci]? with
  | some q => if (q.2.1 k).2.2.2 = false then (if (q.2.1 k).2.2.1 = "I" then 0 else if (q.2.1 k).2.2.1 = "Z" then 1 else 2) else 2
  | none => 2
def lenOf (t : Nat) : Nat := match sh_cls t with
  | some q => q.2
  | none => match sh_arr t with
    | some q => q.2
    | none => 0
theorem sh_closed0 (ph : Bool) : ((vrefs ph).all fun r => (List.range (lenOf r.1)).all fun k => match sh_ref r.1 r.2 k with
  | some q => decide (q ∈ vrefs ph)
  | none => true) = true := by cases ph <;> decide +kernel
theorem sh_closed {r : AR} (hr : r ∈ vrefs ph) {k : Nat} (hk : k < lenOf r.1) {q : AR} (hq : sh_ref r.1 r.2 k = some q) : q ∈ vrefs ph := by
  have h1 := List.all_eq_true.mp (List.all_eq_true.mp (sh_closed0 ph) r hr) k (List.mem_range.mpr hk)
  rw [hq] at h1
  exact of_decide_eq_true h1
/-- the classes of the objects fit their tables -/
theorem sh_ok0 (ph : Bool) : ((vrefs ph).all fun r => match sh_cls r.1 with
  | some q => (match vwCl[q.1]? with
    | some z => decide (z.2.2 = q.2)
    | none => false)
  | none => (match sh_arr r.1 with
    | some q => decide (q.1 < 4)
    | none => false)) = true := by cases ph <;> decide +kernel
theorem sh_ok {r : AR} (hr : r ∈ vrefs ph) {ci n : Nat} (h : sh_cls r.1 = some (ci, n)) : ∃ z, vwCl[ci]? = some z ∧ z.2.2 = n := by
  have h1 := List.all_eq_true.mp (sh_ok0 ph) r hr
  rw [h] at h1
  dsimp only at h1
  cases hz : vwCl[ci]? with
  | none => rw [hz] at h1; cases h1
  | some z => rw [hz] at h1; exact ⟨z, rfl, of_decide_eq_true h1⟩
def cellOf (A : AR → Nat) (cs : Nat → ClassId) (m : Mem) (r : AR) : va_E := match sh_cls r.1 with
  | some q => .inr (q.1, (List.range q.2).map (fun k => match sh_ref r.1 r.2 k with
    | some z => Value.ref (A z)
    | none => Value.int (m r.1 r.2 k)))
  | none => match sh_arr r.1 with
    | some q => if q.1 = 0 then .inl (cs 0, q.2, .inl (fun j => m r.1 r.2 j)) else .inl (cs q.1, q.2, .inr (.inr (.inr (.inr (fun j => if j < q.2 then (sh_ref r.1 r.2 j).map A else none)))))
    | none => .inl (cs 0, 0, .inl (fun _ => 0))
def wsM (ph : Bool) (A : AR → Nat) (cs : Nat → ClassId) (m : Mem) : va_W := (vrefs ph).map (fun r => (A r, cellOf A cs m r))
def tysM (cs : Nat → ClassId) : List (ClassId × FieldType) := [(cs 0, .int), (cs 1, .object RX4), (cs 2, .object RX1), (cs 3, .array .int)]
def elT : Nat → FieldType
  | 0 => .int
  | 1 => .object RX4
  | 2 => .object RX1
  | _ => .array .int
theorem tysM_at {cs : Nat → ClassId} {k : Nat} (h : k < 4) : (tysM cs)[k]? = some (cs k, elT k) := by
  match k, h with
  | 0, _ => rfl
  | 1, _ => rfl
  | 2, _ => rfl
  | 3, _ => rfl
def injA (ph : Bool) (A : AR → Nat) : Prop := ∀ r ∈ vrefs ph, ∀ q ∈ vrefs ph, A r = A q → r = q
def frA (ph : Bool) (A : AR → Nat) : Nat → Prop := fun q => ∃ r ∈ vrefs ph, A r = q
theorem wsM_at {A : AR → Nat} {cs : Nat → ClassId} {m : Mem} {r : AR} (hr : r ∈ vrefs ph) : ∃ k : Nat, (vrefs ph)[k]? = some r ∧ (wsM ph A cs m)[k]? = some (A r, cellOf A cs m r) := by
  obtain ⟨k, hk⟩ := List.getElem?_of_mem hr
  exact ⟨k, hk, by simp [wsM, hk]⟩
theorem vrefs_inj {i j : Nat} {r : AR} (hi : (vrefs ph)[i]? = some r) (hj : (vrefs ph)[j]? = some r) : i = j := by
  have h1 := (List.getElem?_eq_some_iff.mp hi).1
  have h2 := (List.getElem?_eq_some_iff.mp hj).1
  have e := (List.getElem?_eq_some_iff.mp hi).2.trans (List.getElem?_eq_some_iff.mp hj).2.symm
  have hp := List.pairwise_iff_getElem.mp (vrefs_nodup ph)
  rcases Nat.lt_trichotomy i j with h | h | h
  · exact absurd e (hp i j h1 h2 h)
  · exact h
  · exact absurd e.symm (hp j i h2 h1 h)
theorem wsM_D {A : AR → Nat} {cs : Nat → ClassId} (hA : injA ph A) (m : Mem) : va_D (frA ph A) (wsM ph A cs m) := by
  refine ⟨fun i j x y hi hj hxy => ?_, fun k x hk => ?_⟩
  · simp only [wsM, List.getElem?_map, Option.map_eq_some_iff] at hi hj
    obtain ⟨r, hr, rfl⟩ := hi
    obtain ⟨q, hq, rfl⟩ := hj
    have := hA r (List.mem_of_getElem? hr) q (List.mem_of_getElem? hq) hxy
    subst this
    exact vrefs_inj hr hq
  · simp only [wsM, List.getElem?_map, Option.map_eq_some_iff] at hk
    obtain ⟨r, hr, rfl⟩ := hk
    exact ⟨r, List.mem_of_getElem? hr, rfl⟩
theorem cellOf_ne {A : AR → Nat} {cs : Nat → ClassId} {m : Mem} {t i j : Nat} {v : Int32} {r : AR} (h : r ≠ (t, i)) : cellOf A cs (mset m t i j v) r = cellOf A cs m r := by
  have e : ∀ k, mset m t i j v r.1 r.2 k = m r.1 r.2 k := fun k => by
    unfold mset
    rw [if_neg]
    rintro ⟨h1, h2, -⟩
    exact h (Prod.ext h1 h2)
  unfold cellOf
  simp only [e]
theorem cellOf_obj {A : AR → Nat} {cs : Nat → ClassId} {m : Mem} {t i k ci n : Nat} (hc : sh_cls t = some (ci, n)) : cellOf A cs m (t, i) = .inr (ci, (List.range n).map (fun k => match sh_ref t i k with
    | some z => Value.ref (A z)
    | none => Value.int (m t i k))) := by
  unfold cellOf
  rw [hc]
theorem cellOf_set {A : AR → Nat} {cs : Nat → ClassId} {m : Mem} {t i k ci n : Nat} {v : Int32} (hc : sh_cls t = some (ci, n)) (hr : sh_ref t i k = none) :
    cellOf A cs (mset m t i k v) (t, i) = .inr (ci, ((List.range n).map (fun k => match sh_ref t i k with
    | some z => Value.ref (A z)
    | none => Value.int (m t i k))).set k (.int v)) := by
  rw [cellOf_obj (k := k) hc]
  congr 2
  apply List.ext_getElem?
  intro j
  rw [List.getElem?_set]
  by_cases hj : k = j
  · subst hj
    rw [if_pos rfl, List.length_map, List.length_range, List.getElem?_map]
    by_cases hn : k < n
    · rw [if_pos hn, List.getElem?_range hn]
      simp [hr, mset]
    · rw [if_neg hn, List.getElem?_eq_none (by simpa using hn)]
      rfl
  · rw [if_neg hj, List.getElem?_map, List.getElem?_map]
    by_cases hn : j < n
    · rw [List.getElem?_range hn]
      have e : mset m t i k v t i j = m t i j := by
        unfold mset
        rw [if_neg]
        rintro ⟨-, -, h⟩
        exact hj h.symm
      simp only [Option.map_some, e]
    · rw [List.getElem?_eq_none (by simpa using hn)]
      rfl

theorem cellOf_arr {A : AR → Nat} {cs : Nat → ClassId} {m : Mem} {t i n : Nat} (hc : sh_cls t = none) (ha : sh_arr t = some (0, n)) : cellOf A cs m (t, i) = .inl (cs 0, n, .inl (fun j => m t i j)) := by
  unfold cellOf
  rw [hc]
  dsimp only
  rw [ha]
  rfl
theorem cellOf_arq {A : AR → Nat} {cs : Nat → ClassId} {m : Mem} {t i n kd : Nat} (hc : sh_cls t = none) (ha : sh_arr t = some (kd + 1, n)) : cellOf A cs m (t, i) = .inl (cs (kd + 1), n, .inr (.inr (.inr (.inr (fun j => if j < n then (sh_ref t i j).map A else none))))) := by
  unfold cellOf
  rw [hc]
  dsimp only
  rw [ha]
  rfl
theorem mset_row {m : Mem} {t i k : Nat} {v : Int32} : (fun j => mset m t i k v t i j) = upd (fun j => m t i j) k v := by
  funext j
  unfold mset upd
  by_cases h : j = k
  · rw [if_pos ⟨rfl, rfl, h⟩, if_pos h]
  · rw [if_neg (fun q => h q.2.2), if_neg h]
theorem wsM_set {A : AR → Nat} {cs : Nat → ClassId} {m : Mem} {t i j k : Nat} {v : Int32} (hk : (vrefs ph)[k]? = some (t, i)) : (wsM ph A cs m).set k (A (t, i), cellOf A cs (mset m t i j v) (t, i)) = wsM ph A cs (mset m t i j v) := by
  apply List.ext_getElem?
  intro q
  rw [List.getElem?_set]
  have hlen : (wsM ph A cs m).length = (vrefs ph).length := by simp [wsM]
  have hkl := (List.getElem?_eq_some_iff.mp hk).1
  by_cases hq : k = q
  · subst hq
    rw [if_pos rfl, if_pos (by rw [hlen]; exact hkl)]
    simp [wsM, hk]
  · rw [if_neg hq]
    simp only [wsM, List.getElem?_map]
    cases hr : (vrefs ph)[q]? with
    | none => rfl
    | some r =>
      have hne : r ≠ (t, i) := fun e => hq (vrefs_inj hk (by rw [hr, e]))
      simp only [Option.map_some]
      rw [cellOf_ne hne]
end
section
/-! ===== one instruction at a time, over the memory as numbers ===== -/
/-- launch, addresses, classes, fields' places, array classes; which cells there are; the script: how long, its ints -/
abbrev ZT : Type := Launch × (AR → Nat) × (Nat → ClassId) × (Nat → Nat → Nat) × (Nat → ClassId) × Bool × Nat × (Nat → Int32)
abbrev zl (Z : ZT) : Launch := Z.1
abbrev zA (Z : ZT) : AR → Nat := Z.2.1
abbrev zC (Z : ZT) : Nat → ClassId := Z.2.2.1
abbrev zI (Z : ZT) : Nat → Nat → Nat := Z.2.2.2.1
abbrev zk (Z : ZT) : Nat → ClassId := Z.2.2.2.2.1
abbrev zV (Z : ZT) : Bool := Z.2.2.2.2.2.1
abbrev zL (Z : ZT) : Nat := Z.2.2.2.2.2.2.1
abbrev zx (Z : ZT) : Nat → Int32 := Z.2.2.2.2.2.2.2
abbrev XT : Type := Program × Env × Room × State × MethodId × Array Value × List Frame × Method × Code × ZT × Nat × Nat × Nat
abbrev xp (X : XT) : Program := X.1
abbrev xe (X : XT) : Env := X.2.1
abbrev xR (X : XT) : Room := X.2.2.1
abbrev xs (X : XT) : State := X.2.2.2.1
abbrev xm (X : XT) : MethodId := X.2.2.2.2.1
abbrev xa (X : XT) : Array Value := X.2.2.2.2.2.1
abbrev xb (X : XT) : List Frame := X.2.2.2.2.2.2.1
abbrev xM (X : XT) : Method := X.2.2.2.2.2.2.2.1
abbrev xc (X : XT) : Code := X.2.2.2.2.2.2.2.2.1
abbrev xZ (X : XT) : ZT := X.2.2.2.2.2.2.2.2.2.1
abbrev xcl (X : XT) : Nat := X.2.2.2.2.2.2.2.2.2.2.1
abbrev xsl (X : XT) : Nat := X.2.2.2.2.2.2.2.2.2.2.2.1
abbrev xn (X : XT) : Nat := X.2.2.2.2.2.2.2.2.2.2.2.2
abbrev xl (X : XT) : Launch := zl (xZ X)
abbrev xA (X : XT) : AR → Nat := zA (xZ X)
abbrev xC (X : XT) : Nat → ClassId := zC (xZ X)
abbrev xI (X : XT) : Nat → Nat → Nat := zI (xZ X)
abbrev xk (X : XT) : Nat → ClassId := zk (xZ X)
abbrev xV (X : XT) : Bool := zV (xZ X)
abbrev xL (X : XT) : Nat := zL (xZ X)
abbrev xx (X : XT) : Nat → Int32 := zx (xZ X)
variable {ph : Bool}
def wsC : List Cond := lw_tbl.filter goodWord
def nestC : List Cond := lw_tbl.filter (fun w => match w with
  | .methodLinkNest .. => true
  | _ => false)
def okV (ph : Bool) (v : AV) : Prop := match v with
  | .inr (.inr r) => r ∈ vrefs ph ∨ r.1 = 60
  | _ => True
theorem ok_cls {r : AR} (h : okV ph (.inr (.inr r))) {y : Nat × Nat} (hs : sh_cls r.1 = some y) : r ∈ vrefs ph := by
  rcases h with h | h
  · exact h
  · rw [h] at hs; cases hs
theorem ok_arr {r : AR} (h : okV ph (.inr (.inr r))) {y : Nat × Nat} (hs : sh_arr r.1 = some y) : r ∈ vrefs ph := by
  rcases h with h | h
  · exact h
  · rw [h] at hs; cases hs
def okS (ph : Bool) (st : ASt) : Prop := ∀ v ∈ st, okV ph v
def okL (ph : Bool) (ls : ALs) : Prop := ∀ v, some v ∈ ls → okV ph v
def lhas (A : AR → Nat) (nL : Nat) (lsa : Array Slot) (ls : ALs) : Prop := lsa.size = nL ∧ ls.length = nL ∧ lv_wf lsa ∧ ∀ (k : Nat) (v : AV), ls[k]? = some (some v) → lsa[k]? = some (.val (cv A v))
abbrev xW (X : XT) (Q : State → Prop) (H : Heap) (locs : List Loc) (g : JFrame) : Prop := W (xp X) (xl X) (xe X) (xR X) (xs X) (xm X) (xa X) (xb X) (xM X) (xc X) H locs (xcl X) (xsl X) Q g
/-- the machine, come to pc with these locals, this stack, this memory, ends in Q -/
def GG (X : XT) (Q : State → Prop) (pc : Nat) (ls : ALs) (st : ASt) (m : Mem) : Prop :=
  okS (xV X) st → okL (xV X) ls → ∀ (H : Heap) (locs : List Loc) (lsa : Array Slot), va_P (xC X, xI X) vwCl (wsM (xV X) (xA X) (xk X) m) H → va_S (frA (xV X) (xA X)) (xs X).heap H locs → lhas (xA X) (xn X) lsa ls →
    xW X Q H locs (F0 (xm X) pc lsa (st.map (cv (xA X))))
abbrev FT : Type := List (Nat × Nat × Nat)
/-- a class's pool: which field is which, its numbers -/
def ftOk (own : String) (ft : FT) : Prop := ∀ q ∈ ft, ∃ z, vwCl[q.2.1]? = some z ∧ q.2.2 < z.2.2 ∧ Cond.fieldLink own q.1 (z.2.1 q.2.2).1 (z.2.1 q.2.2).2.1 (z.2.1 q.2.2).2.2.1 ∈ wsC
def ctOk (own : String) (ct : List (Nat × Int32)) : Prop := ∀ q ∈ ct, Cond.constant own q.1 q.2 ∈ wsC
def clOk (own : String) (cl : List (Nat × Int64)) : Prop := ∀ q ∈ cl, Cond.constantLong own q.1 q.2 ∈ wsC
abbrev PT : Type := String × FT × List (Nat × Int32) × List (Nat × Int64)
def ptOk (P : PT) : Prop := ftOk P.1 P.2.1 ∧ ctOk P.1 P.2.2.1 ∧ clOk P.1 P.2.2.2
/-- the script: its ints at its address, which isn't the world's -/
def SX (Z : ZT) (U : State) : Prop := va_X (zA Z (60, 0)) (zL Z) (zx Z) U U.heap ∧ zA Z (60, 0) < U.heap.size ∧ ¬ frA (zV Z) (zA Z) (zA Z (60, 0))
/-- what stands in every method: the machine, the code, the words, the classes, the addresses apart -/
def GC (X : XT) (cc : ByteArray) (P : PT) : Prop := (xp X).tables.exec = Jvm.exec ∧ (xc X).code = cc ∧ (xc X).maxLocals = xn X ∧ (xs X).vm.findClass P.1 = some (xm X).cls ∧ (∀ w ∈ wsC, w.before (xa X) (xs X) = true) ∧ (∀ w ∈ nestC, va_Nw w (xs X)) ∧
  va_K (xC X, xI X) vwCl (tysM (xk X)) (xs X) ∧ (injA (xV X) (xA X) ∧ SX (xZ X) (xs X)) ∧ (xM X).locks = false ∧ ptOk P
def ldv (ls : ALs) (k : Nat) : Option AV := match ls[k]? with
  | some (some v) => some v
  | _ => none
def isLg : Option AV → Bool
  | some (.inr (.inl _)) => true
  | _ => false
/-- a long whose second half is stored over is gone -/
def clrL : Option AV → Option AV
  | some (.inr (.inl _)) => none
  | o => o
/-- slot k stored to -/
def stA : ALs → Nat → AV → Option ALs
  | [], _, _ => none
  | _ :: r, 0, v => some (some v :: r)
  | o :: r, k + 1, v => match k with
    | 0 => match r with
      | [] => none
      | _ :: r2 => some (clrL o :: some v :: r2)
    | j + 1 => match stA r (j + 1) v with
      | some l => some (o :: l)
      | none => none
def stI (ls : ALs) (k : Nat) (v : AV) (r : ASt) (m : Mem) : Option (ALs × ASt × Mem) := match stA ls k v with
  | some l => some (l, r, m)
  | none => none
def stL (ls : ALs) (k : Nat) (v : AV) (r : ASt) (m : Mem) : Option (ALs × ASt × Mem) := match stA ls k v, Nat.blt (k + 1) ls.length with
  | some l, true => some (l.set (k + 1) none, r, m)
  | _, _ => none
def ldI (ls : ALs) (k : Nat) (st : ASt) (m : Mem) : Option (ALs × ASt × Mem) := match ldv ls k with
  | some (.inl x) => some (ls, .inl x :: st, m)
  | _ => none
def ldL (ls : ALs) (k : Nat) (st : ASt) (m : Mem) : Option (ALs × ASt × Mem) := match ldv ls k with
  | some (.inr (.inl x)) => some (ls, .inr (.inl x) :: st, m)
  | _ => none
def ldA (ls : ALs) (k : Nat) (st : ASt) (m : Mem) : Option (ALs × ASt × Mem) := match ldv ls k with
  | some (.inr (.inr x)) => some (ls, .inr (.inr x) :: st, m)
  | _ => none
def bin (f : Int32 → Int32 → Int32) (ls : ALs) (st : ASt) (m : Mem) : Option (ALs × ASt × Mem) := match st with
  | .inl y :: .inl x :: r => some (ls, .inl (f x y) :: r, m)
  | _ => none
def una (f : Int32 → Int32) (ls : ALs) (st : ASt) (m : Mem) : Option (ALs × ASt × Mem) := match st with
  | .inl x :: r => some (ls, .inl (f x) :: r, m)
  | _ => none
def getF (ft : FT) (index : Nat) (ls : ALs) (st : ASt) (m : Mem) : Option (ALs × ASt × Mem) := match st with
  | .inr (.inr q) :: r => match ft.lookup index, sh_cls q.1 with
    | some z, some y => match z.1 == y.1 && Nat.blt z.2 y.2 with
      | true => match sh_ref q.1 q.2 z.2 with
        | some a => some (ls, .inr (.inr a) :: r, m)
        | none => some (ls, .inl (m q.1 q.2 z.2) :: r, m)
      | false => none
    | _, _ => none
  | _ => none
def putF (ft : FT) (index : Nat) (ls : ALs) (st : ASt) (m : Mem) : Option (ALs × ASt × Mem) := match st with
  | .inl v :: .inr (.inr q) :: r => match ft.lookup index, sh_cls q.1 with
    | some z, some y => match z.1 == y.1 && Nat.blt z.2 y.2 with
      | true => match sh_ref q.1 q.2 z.2, fkd z.1 z.2 with
        | none, 0 => some (ls, r, mset m q.1 q.2 z.2 v)
        | none, 1 => if v = 0 ∨ v = 1 then some (ls, r, mset m q.1 q.2 z.2 v) else none
        | _, _ => none
      | false => none
    | _, _ => none
  | _ => none
def ilen : Instr → Nat
  | .iload _ => 2
  | .aload _ => 2
  | .lload _ => 2
  | .istore _ => 2
  | .astore _ => 2
  | .lstore _ => 2
  | .bipush _ => 2
  | .ldc _ => 2
  | .sipush _ => 3
  | .iinc _ _ => 3
  | .getfield _ => 3
  | .putfield _ => 3
  | .ldc2_w _ => 3
  | _ => 1
def ex1 (P : PT) (i : Instr) (ls : ALs) (st : ASt) (m : Mem) : Option (ALs × ASt × Mem) := match i with
  | .iconst n => some (ls, .inl (Int32.ofInt n) :: st, m)
  | .bipush n => some (ls, .inl (Int8.ofInt n).toInt32 :: st, m)
  | .sipush n => some (ls, .inl (Int16.ofInt n).toInt32 :: st, m)
  | .lconst n => some (ls, .inr (.inl (Int64.ofNat n.val)) :: st, m)
  | .iload k => ldI ls k st m
  | .iload_n k => ldI ls k.val st m
  | .lload k => ldL ls k st m
  | .lload_n k => ldL ls k.val st m
  | .aload k => ldA ls k st m
  | .aload_n k => ldA ls k.val st m
  | .istore k => match st with
    | .inl x :: r => stI ls k (.inl x) r m
    | _ => none
  | .istore_n k => match st with
    | .inl x :: r => stI ls k.val (.inl x) r m
    | _ => none
  | .astore k => match st with
    | .inr (.inr x) :: r => stI ls k (.inr (.inr x)) r m
    | _ => none
  | .astore_n k => match st with
    | .inr (.inr x) :: r => stI ls k.val (.inr (.inr x)) r m
    | _ => none
  | .lstore k => match st with
    | .inr (.inl x) :: r => stL ls k (.inr (.inl x)) r m
    | _ => none
  | .lstore_n k => match st with
    | .inr (.inl x) :: r => stL ls k.val (.inr (.inl x)) r m
    | _ => none
  | .iinc k n => match ldv ls k with
    | some (.inl x) => stI ls k (.inl (x + Int32.ofInt n)) st m
    | _ => none
  | .iadd => bin (fun x y => x + y) ls st m
  | .isub => bin (fun x y => x - y) ls st m
  | .imul => bin (fun x y => x * y) ls st m
  | .iand => bin (fun x y => x &&& y) ls st m
  | .ior => bin (fun x y => x ||| y) ls st m
  | .ixor => bin (fun x y => x ^^^ y) ls st m
  | .ishl => bin (fun x y => x <<< (y &&& 31)) ls st m
  | .ishr => bin (fun x y => x >>> (y &&& 31)) ls st m
  | .ineg => una (fun x => -x) ls st m
  | .i2b => una (fun x => x.toInt8.toInt32) ls st m
  | .i2s => una (fun x => x.toInt16.toInt32) ls st m
  | .i2l => match st with
    | .inl x :: r => some (ls, .inr (.inl x.toInt64) :: r, m)
    | _ => none
  | .lcmp => match st with
    | .inr (.inl y) :: .inr (.inl x) :: r => some (ls, .inl (lg_cmp x y) :: r, m)
    | _ => none
  | .dup => match st with
    | .inl x :: r => some (ls, .inl x :: .inl x :: r, m)
    | .inr (.inr x) :: r => some (ls, .inr (.inr x) :: .inr (.inr x) :: r, m)
    | _ => none
  | .dup2 => match st with
    | .inl x :: .inl y :: r => some (ls, .inl x :: .inl y :: .inl x :: .inl y :: r, m)
    | .inl x :: .inr (.inr y) :: r => some (ls, .inl x :: .inr (.inr y) :: .inl x :: .inr (.inr y) :: r, m)
    | _ => none
  | .getfield k => getF P.2.1 k ls st m
  | .putfield k => putF P.2.1 k ls st m
  | .ldc k => match P.2.2.1.lookup k with
    | some x => some (ls, .inl x :: st, m)
    | none => none
  | .ldc2_w k => match P.2.2.2.lookup k with
    | some x => some (ls, .inr (.inl x) :: st, m)
    | none => none
  | _ => none
end
section
/-! ===== the locals ===== -/
variable {ph : Bool}
def lsL (A : AR → Nat) (ls : ALs) : List (Nat × Value) := (List.range ls.length).filterMap fun k => match ls[k]? with
  | some (some v) => some (k, cv A v)
  | _ => none
theorem mem_lsL {A : AR → Nat} {ls : ALs} {q : Nat × Value} : q ∈ lsL A ls ↔ ∃ v, ls[q.1]? = some (some v) ∧ q.2 = cv A v := by
  unfold lsL
  rw [List.mem_filterMap]
  constructor
  · rintro ⟨k, hk, h⟩
    cases hv : ls[k]? with
    | none => rw [hv] at h; cases h
    | some o =>
      cases o with
      | none => rw [hv] at h; cases h
      | some v => rw [hv] at h; cases h; exact ⟨v, hv, rfl⟩
  · rintro ⟨v, h1, h2⟩
    refine ⟨q.1, List.mem_range.mpr (List.getElem?_eq_some_iff.mp h1).1, ?_⟩
    rw [h1]
    exact congrArg some (Prod.ext rfl h2.symm)
theorem lhas_has {A : AR → Nat} {nL : Nat} {lsa : Array Slot} {ls : ALs} (h : lhas A nL lsa ls) : lv_has lsa nL (lsL A ls) := by
  refine ⟨h.1, h.2.2.1, fun q hq => ?_⟩
  obtain ⟨v, h1, h2⟩ := mem_lsL.mp hq
  rw [h.2.2.2 q.1 v h1, h2]
theorem stA_spec : ∀ {ls : ALs} {k : Nat} {v : AV} {l : ALs}, stA ls k v = some l → k < ls.length ∧ l.length = ls.length ∧ ∀ (j : Nat) (w : AV), l[j]? = some (some w) → (j = k ∧ w = v) ∨ (j ≠ k ∧ ls[j]? = some (some w) ∧ (j + 1 = k → isLg (some w) = false))
  | [], _, _, _, h => by cases h
  | o :: r, 0, v, l, h => by
    cases h
    refine ⟨by simp, by simp, fun j w hw => ?_⟩
    cases j with
    | zero => simp only [List.getElem?_cons_zero] at hw; cases hw; exact Or.inl ⟨rfl, rfl⟩
    | succ j => exact Or.inr ⟨by omega, by simpa using hw, fun q => by omega⟩
  | o :: r, 1, v, l, h => by
    cases r with
    | nil => cases h
    | cons a r2 =>
      cases h
      refine ⟨by simp, by simp, fun j w hw => ?_⟩
      match j with
      | 0 =>
        simp only [List.getElem?_cons_zero] at hw
        have hw : clrL o = some w := Option.some.inj hw
        match o, hw with
        | none, hw => cases hw
        | some (.inl x), hw => cases hw; exact Or.inr ⟨by omega, rfl, fun _ => rfl⟩
        | some (.inr (.inl x)), hw => cases hw
        | some (.inr (.inr x)), hw => cases hw; exact Or.inr ⟨by omega, rfl, fun _ => rfl⟩
      | 1 => simp only [List.getElem?_cons_succ, List.getElem?_cons_zero] at hw; cases hw; exact Or.inl ⟨rfl, rfl⟩
      | j + 2 => exact Or.inr ⟨by omega, by simpa using hw, fun q => by omega⟩
  | o :: r, k + 2, v, l, h => by
    have h' : (match stA r (k + 1) v with
      | some l => some (o :: l)
      | none => none) = some l := h
    cases hr : stA r (k + 1) v with
    | none => rw [hr] at h'; cases h'
    | some l2 =>
      rw [hr] at h'
      cases h'
      obtain ⟨h1, h2, h3⟩ := stA_spec hr
      refine ⟨by simp only [List.length_cons]; omega, by simp [h2], fun j w hw => ?_⟩
      cases j with
      | zero => exact Or.inr ⟨by omega, by simpa using hw, fun q => by omega⟩
      | succ j =>
        rcases h3 j w (by simpa using hw) with ⟨g1, g2⟩ | ⟨g1, g2, g3⟩
        · exact Or.inl ⟨by omega, g2⟩
        · exact Or.inr ⟨by omega, by simpa using g2, fun q => g3 (by omega)⟩
theorem cat_of {A : AR → Nat} {w : AV} (h : isLg (some w) = false) : (cv A w).category = 1 := by
  match w, h with
  | .inl _, _ => rfl
  | .inr (.inr _), _ => rfl
theorem lhas_set {A : AR → Nat} {nL : Nat} {lsa : Array Slot} {ls l : ALs} {k : Nat} {v : AV} (hn : ls.length = nL) (hk : stA ls k v = some l)
    (h : lv_has lsa nL ((k, cv A v) :: (lsL A ls).filter (fun q => !(q.1 == k) && !(q.1 + 1 == k && q.2.category == 2)))) : lhas A nL lsa l := by
  obtain ⟨hkl, hlen, hst⟩ := stA_spec hk
  refine ⟨h.1, hlen.trans hn, h.2.1, fun j w hj => ?_⟩
  rcases hst j w hj with ⟨rfl, rfl⟩ | ⟨e, hj, hlg⟩
  · exact h.2.2 (j, cv A w) List.mem_cons_self
  · refine h.2.2 (j, cv A w) (List.mem_cons_of_mem _ (List.mem_filter.mpr ⟨mem_lsL.mpr ⟨w, hj, rfl⟩, ?_⟩))
    have e2 : (j == k) = false := by simpa using e
    by_cases e3 : j + 1 = k
    · have hc := cat_of (A := A) (hlg e3)
      simp [e2, hc]
    · have e4 : (j + 1 == k) = false := by simpa using e3
      simp [e2, e4]
theorem lhas_setL {A : AR → Nat} {nL : Nat} {lsa : Array Slot} {ls l : ALs} {k : Nat} {v : AV} (hn : ls.length = nL) (hk : stA ls k v = some l)
    (h : lv_has lsa nL ((k, cv A v) :: (lsL A ls).filter (fun q => !(q.1 == k) && (!(q.1 == k + 1) && !(q.1 + 1 == k && q.2.category == 2))))) : lhas A nL lsa (l.set (k + 1) none) := by
  obtain ⟨hkl, hlen, hst⟩ := stA_spec hk
  refine ⟨h.1, by simpa using hlen.trans hn, h.2.1, fun j w hj => ?_⟩
  rw [List.getElem?_set] at hj
  by_cases e0 : k + 1 = j
  · rw [if_pos e0] at hj
    split at hj <;> cases hj
  rw [if_neg e0] at hj
  rcases hst j w hj with ⟨rfl, rfl⟩ | ⟨e, hj, hlg⟩
  · exact h.2.2 (j, cv A w) List.mem_cons_self
  · refine h.2.2 (j, cv A w) (List.mem_cons_of_mem _ (List.mem_filter.mpr ⟨mem_lsL.mpr ⟨w, hj, rfl⟩, ?_⟩))
    have e2 : (j == k) = false := by simpa using e
    have e5 : (j == k + 1) = false := by simpa using fun q => e0 q.symm
    by_cases e3 : j + 1 = k
    · have hc := cat_of (A := A) (hlg e3)
      simp [e2, e5, hc]
    · have e4 : (j + 1 == k) = false := by simpa using e3
      simp [e2, e5, e4]
theorem ldv_spec {ls : ALs} {k : Nat} {v : AV} (h : ldv ls k = some v) : ls[k]? = some (some v) := by
  unfold ldv at h
  split at h
  · cases h; assumption
  · cases h
theorem okL_at {ls : ALs} {k : Nat} {v : AV} (h : okL ph ls) (hk : ls[k]? = some (some v)) : okV ph v := h v (List.mem_of_getElem? hk)
theorem okL_set {ls l : ALs} {k : Nat} {v : AV} (h : okL ph ls) (hv : okV ph v) (hk : stA ls k v = some l) : okL ph l := by
  intro w hw
  obtain ⟨j, hj⟩ := List.getElem?_of_mem hw
  rcases (stA_spec hk).2.2 j w hj with ⟨-, rfl⟩ | ⟨-, hj, -⟩
  · exact hv
  · exact h w (List.mem_of_getElem? hj)
theorem okL_setN {ls : ALs} {k : Nat} (h : okL ph ls) : okL ph (ls.set k none) := by
  intro w hw
  rcases List.mem_or_eq_of_mem_set hw with h1 | h1
  · exact h w h1
  · cases h1
theorem okS_cons {v : AV} {st : ASt} : okS ph (v :: st) ↔ okV ph v ∧ okS ph st := by
  constructor
  · intro h; exact ⟨h v List.mem_cons_self, fun w hw => h w (List.mem_cons_of_mem _ hw)⟩
  · rintro ⟨h1, h2⟩ w hw
    rcases List.mem_cons.mp hw with rfl | hw
    · exact h1
    · exact h2 w hw
theorem cl_cases {P : Nat → vw_C → Prop} (h0 : P 0 (RX0, TX0, 14)) (h1 : P 1 (RX1, TX1, 5)) (h2 : P 2 (RX2, TX2, 3)) (h3 : P 3 (RX3, TX3, 5)) (h4 : P 4 (RX4, TX4, 4)) (h5 : P 5 (RX5, TX5, 4)) (h6 : P 6 (RX6, TX6, 7)) :
    ∀ (ci : Nat) (z : vw_C), vwCl[ci]? = some z → P ci z := by
  intro ci z h
  match ci, h with
  | 0, h => cases h; exact h0
  | 1, h => cases h; exact h1
  | 2, h => cases h; exact h2
  | 3, h => cases h; exact h3
  | 4, h => cases h; exact h4
  | 5, h => cases h; exact h5
  | 6, h => cases h; exact h6
  | n + 7, h => simp [vwCl] at h
theorem u_all : ∀ (ci : Nat) (z : vw_C), vwCl[ci]? = some z → ∀ w ∈ u_ws z.1 z.2.1 z.2.2, w ∈ wsC :=
  cl_cases (by decide +kernel) (by decide +kernel) (by decide +kernel) (by decide +kernel) (by decide +kernel) (by decide +kernel) (by decide +kernel)
def tyK (ci : Nat) : Nat → FieldType := match ci with
  | 0 => tyX0
  | 1 => tyX1
  | 2 => tyX2
  | 3 => tyX3
  | 4 => tyX4
  | 5 => tyX5
  | _ => tyX6
theorem ty_all : ∀ (ci : Nat) (z : vw_C), vwCl[ci]? = some z → ∀ k, k < z.2.2 → parseFieldDescriptor (z.2.1 k).2.2.1 = some (tyK ci k) :=
  cl_cases tyX0_ok tyX1_ok tyX2_ok tyX3_ok tyX4_ok tyX5_ok tyX6_ok
theorem nm_all : ∀ (ci : Nat) (z : vw_C), vwCl[ci]? = some z → ∀ a, a < z.2.2 → ∀ b, b < z.2.2 → a ≠ b → (z.2.1 a).2.1 ≠ (z.2.1 b).2.1 :=
  cl_cases nmX0 nmX1 nmX2 nmX3 nmX4 nmX5 nmX6
theorem fkd_spec {ci k : Nat} {z : vw_C} (hz : vwCl[ci]? = some z) (h : fkd ci k = 0 ∨ fkd ci k = 1) : (z.2.1 k).2.2.2 = false ∧ (fkd ci k = 0 → parseFieldDescriptor (z.2.1 k).2.2.1 = some .int) ∧ (fkd ci k = 1 → parseFieldDescriptor (z.2.1 k).2.2.1 = some .boolean) := by
  unfold fkd at h ⊢
  rw [hz] at h ⊢
  dsimp only at h ⊢
  by_cases h1 : (z.2.1 k).2.2.2 = false
  · rw [if_pos h1] at h ⊢
    by_cases h2 : (z.2.1 k).2.2.1 = "I"
    · rw [if_pos h2] at h ⊢
      refine ⟨h1, fun _ => ?_, (fun q => absurd q (by decide))⟩
      rw [h2]
      decide +kernel
    · rw [if_neg h2] at h ⊢
      by_cases h3 : (z.2.1 k).2.2.1 = "Z"
      · rw [if_pos h3] at h ⊢
        refine ⟨h1, (fun q => absurd q (by decide)), fun _ => ?_⟩
        rw [h3]
        decide +kernel
      · rw [if_neg h3] at h
        omega
  · rw [if_neg h1] at h
    omega
/-! ===== a step ===== -/
theorem gg_get {X : XT} {cc : ByteArray} {P : PT} {Q : State → Prop} (hC : GC X cc P) {pc k : Nat} {ls ls' : ALs} {st st' : ASt} {m m' : Mem} (hd : decode cc pc = .ok (.getfield k, 3)) (hx : getF P.2.1 k ls st m = some (ls', st', m')) (kk : GG X Q (pc + 3) ls' st' m') : GG X Q pc ls st m := by
  obtain ⟨hexec, hb, hml, hown, hts, -, hK, hA, -, hpt, -, -⟩ := hC
  intro hS hL H locs lsa hP hSt hl
  unfold getF at hx
  split at hx
  case h_2 => cases hx
  rename_i q r
  split at hx
  case h_2 => cases hx
  rename_i z y hz hy
  split at hx
  case h_2 => cases hx
  rename_i hb2
  simp only [Bool.and_eq_true, beq_iff_eq] at hb2
  obtain ⟨e1, e2⟩ := hb2
  have e2 : z.2 < y.2 := Nat.blt_eq.mp e2
  obtain ⟨t, i⟩ := q
  have hq : (t, i) ∈ vrefs (xV X) := ok_cls (hS _ List.mem_cons_self) hy
  obtain ⟨ci, n⟩ := y
  obtain ⟨index, ci', k'⟩ : Nat × Nat × Nat := (k, z)
  obtain ⟨cz, hcz, hlt, hlink⟩ := hpt (k, z) (by
    have := List.lookup_eq_some_iff.mp hz
    obtain ⟨l1, l2, h1, -⟩ := this
    rw [h1]; simp)
  obtain ⟨q0, hq0, hw⟩ := wsM_at (ph := xV X) (A := xA X) (cs := xk X) (m := m) hq
  rw [cellOf_obj (k := z.2) hy] at hw
  dsimp only at e1 e2 hlt hlink hcz
  rw [e1] at hcz
  have hv : ((List.range n).map (fun k => match sh_ref t i k with
    | some z => Value.ref (xA X z)
    | none => Value.int (m t i k)))[z.2]? = some (match sh_ref t i z.2 with
    | some z => Value.ref (xA X z)
    | none => Value.int (m t i z.2)) := by
    rw [List.getElem?_map, List.getElem?_range e2]; rfl
  refine va_get (D := (xC X, xI X)) (ci := ci) (C := cz.1) (T := cz.2.1) (N := cz.2.2) hexec hb hts (u_all ci cz hcz) hown hK hP q0 hw hcz z.2 hlt (hts _ hlink) (fun _ h9 => h9) hv hd ?_
  have hS' : okS (xV X) r := (okS_cons.mp hS).2
  cases hr : sh_ref t i z.2 with
  | none =>
    rw [hr] at hx
    cases hx
    exact kk (okS_cons.mpr ⟨trivial, hS'⟩) hL H locs lsa hP hSt hl
  | some a =>
    rw [hr] at hx
    cases hx
    refine kk (okS_cons.mpr ⟨Or.inl (sh_closed hq (k := z.2) ?_ hr), hS'⟩) hL H locs lsa hP hSt hl
    show z.2 < lenOf t
    unfold lenOf
    rw [hy]
    exact e2
theorem gg_put {X : XT} {cc : ByteArray} {P : PT} {Q : State → Prop} (hC : GC X cc P) {pc k : Nat} {ls ls' : ALs} {st st' : ASt} {m m' : Mem} (hd : decode cc pc = .ok (.putfield k, 3)) (hx : putF P.2.1 k ls st m = some (ls', st', m')) (kk : GG X Q (pc + 3) ls' st' m') : GG X Q pc ls st m := by
  obtain ⟨hexec, hb, hml, hown, hts, -, hK, hA, -, hpt, -, -⟩ := hC
  intro hS hL H locs lsa hP hSt hl
  unfold putF at hx
  split at hx
  case h_2 => cases hx
  rename_i v q r
  split at hx
  case h_2 => cases hx
  rename_i z y hz hy
  split at hx
  case h_2 => cases hx
  rename_i hb2
  simp only [Bool.and_eq_true, beq_iff_eq] at hb2
  obtain ⟨e1, e2⟩ := hb2
  have e2 : z.2 < y.2 := Nat.blt_eq.mp e2
  obtain ⟨t, i⟩ := q
  have hS1 := (okS_cons.mp hS).2
  have hq : (t, i) ∈ vrefs (xV X) := ok_cls (hS1 _ List.mem_cons_self) hy
  have hS' : okS (xV X) r := (okS_cons.mp hS1).2
  obtain ⟨ci, n⟩ := y
  obtain ⟨cz, hcz, hlt, hlink⟩ := hpt (k, z) (by
    have := List.lookup_eq_some_iff.mp hz
    obtain ⟨l1, l2, h1, -⟩ := this
    rw [h1]; simp)
  obtain ⟨q0, hq0, hw⟩ := wsM_at (ph := xV X) (A := xA X) (cs := xk X) (m := m) hq
  rw [cellOf_obj (k := z.2) hy] at hw
  dsimp only at e1 e2 hlt hlink hcz
  rw [e1] at hcz
  have key : ∀ ty : FieldType, sh_ref t i z.2 = none → (cz.2.1 z.2).2.2.2 = false → parseFieldDescriptor (cz.2.1 z.2).2.2.1 = some ty → narrow ty (.int v) = .int v → fits ty (.int v) = true → GG X Q (pc + 3) ls r (mset m t i z.2 v) → xW X Q H locs (F0 (xm X) pc lsa (List.map (cv (xA X)) (Sum.inl v :: Sum.inr (Sum.inr (t, i)) :: r))) := by
    intro ty hr hfin hd2 hn hf kk
    refine va_put (D := (xC X, xI X)) (ci := ci) (v := .int v) (ty := ty) (C := cz.1) (T := cz.2.1) (N := cz.2.2) hexec hb hts (u_all ci cz hcz) (tyK ci) (ty_all ci cz hcz) (nm_all ci cz hcz) hown hK hP (wsM_D hA.1 m) hSt q0 hw hcz z.2 hlt (hts _ hlink) (fun _ h9 => h9) hfin hd2 hn hf (by simpa using e2) hd (fun H1 locs1 hP1 _ hS1 => ?_)
    rw [← cellOf_set (cs := xk X) hy hr, wsM_set hq0] at hP1
    exact kk hS' hL H1 locs1 lsa hP1 hS1 hl
  split at hx
  case h_3 => cases hx
  case h_1 h5 h6 =>
    cases hx
    obtain ⟨f1, f2, f3⟩ := fkd_spec hcz (k := z.2) (Or.inl (by rw [← e1]; exact h6))
    exact key .int h5 f1 (f2 (by rw [← e1]; exact h6)) rfl rfl kk
  case h_2 h5 h6 =>
    split at hx
    case isFalse => cases hx
    case isTrue hv =>
      cases hx
      obtain ⟨f1, f2, f3⟩ := fkd_spec hcz (k := z.2) (Or.inr (by rw [← e1]; exact h6))
      refine key .boolean h5 f1 (f3 (by rw [← e1]; exact h6)) ?_ ?_ kk
      · rcases hv with rfl | rfl <;> rfl
      · rcases hv with rfl | rfl <;> rfl
theorem gg_bin {X : XT} {Q : State → Prop} {f : Int32 → Int32 → Int32} {pc : Nat} {ls ls' : ALs} {st st' : ASt} {m m' : Mem} (row : ∀ (x y : Int32) (H : Heap) (locs : List Loc) (lsa : Array Slot) (rest : List Value), xW X Q H locs (F0 (xm X) (pc + 1) lsa (.int (f x y) :: rest)) → xW X Q H locs (F0 (xm X) pc lsa (.int y :: .int x :: rest)))
    (hx : bin f ls st m = some (ls', st', m')) (kk : GG X Q (pc + 1) ls' st' m') : GG X Q pc ls st m := by
  intro hS hL H locs lsa hP hSt hl
  unfold bin at hx
  split at hx
  case h_2 => cases hx
  cases hx
  exact row _ _ _ _ _ _ (kk (okS_cons.mpr ⟨trivial, (okS_cons.mp (okS_cons.mp hS).2).2⟩) hL H locs lsa hP hSt hl)
theorem gg_una {X : XT} {Q : State → Prop} {f : Int32 → Int32} {pc : Nat} {ls ls' : ALs} {st st' : ASt} {m m' : Mem} (row : ∀ (x : Int32) (H : Heap) (locs : List Loc) (lsa : Array Slot) (rest : List Value), xW X Q H locs (F0 (xm X) (pc + 1) lsa (.int (f x) :: rest)) → xW X Q H locs (F0 (xm X) pc lsa (.int x :: rest)))
    (hx : una f ls st m = some (ls', st', m')) (kk : GG X Q (pc + 1) ls' st' m') : GG X Q pc ls st m := by
  intro hS hL H locs lsa hP hSt hl
  unfold una at hx
  split at hx
  case h_2 => cases hx
  cases hx
  exact row _ _ _ _ _ (kk (okS_cons.mpr ⟨trivial, (okS_cons.mp hS).2⟩) hL H locs lsa hP hSt hl)
/-- a constant comes upon the stack -/
theorem gg_push {X : XT} {Q : State → Prop} {pc n : Nat} {v : AV} {ls : ALs} {st : ASt} {m : Mem} (row : ∀ (H : Heap) (locs : List Loc) (lsa : Array Slot) (rest : List Value), xW X Q H locs (F0 (xm X) (pc + n) lsa (cv (xA X) v :: rest)) → xW X Q H locs (F0 (xm X) pc lsa rest)) (hv : okV (xV X) v)
    (kk : GG X Q (pc + n) ls (v :: st) m) : GG X Q pc ls st m := by
  intro hS hL H locs lsa hP hSt hl
  exact row _ _ _ _ (kk (okS_cons.mpr ⟨hv, hS⟩) hL H locs lsa hP hSt hl)
/-- a local comes upon the stack -/
theorem gg_load {X : XT} {Q : State → Prop} {pc n k : Nat} {v : AV} {ls : ALs} {st : ASt} {m : Mem} (hv : ldv ls k = some v) (row : ∀ (H : Heap) (locs : List Loc) (lsa : Array Slot) (rest : List Value), lsa[k]? = some (.val (cv (xA X) v)) → xW X Q H locs (F0 (xm X) (pc + n) lsa (cv (xA X) v :: rest)) → xW X Q H locs (F0 (xm X) pc lsa rest))
    (kk : GG X Q (pc + n) ls (v :: st) m) : GG X Q pc ls st m := by
  intro hS hL H locs lsa hP hSt hl
  have h1 := ldv_spec hv
  exact row _ _ _ _ (hl.2.2.2 k v h1) (kk (okS_cons.mpr ⟨okL_at hL h1, hS⟩) hL H locs lsa hP hSt hl)
theorem gg_ldI {X : XT} {Q : State → Prop} {pc n k : Nat} {ls ls' : ALs} {st st' : ASt} {m m' : Mem} (row : ∀ (x : Int32) (H : Heap) (locs : List Loc) (lsa : Array Slot) (rest : List Value), lsa[k]? = some (.val (.int x)) → xW X Q H locs (F0 (xm X) (pc + n) lsa (.int x :: rest)) → xW X Q H locs (F0 (xm X) pc lsa rest))
    (hx : ldI ls k st m = some (ls', st', m')) (kk : GG X Q (pc + n) ls' st' m') : GG X Q pc ls st m := by
  unfold ldI at hx
  split at hx
  case h_2 => cases hx
  rename_i x hv
  cases hx
  exact gg_load hv (row x) kk
theorem gg_ldL {X : XT} {Q : State → Prop} {pc n k : Nat} {ls ls' : ALs} {st st' : ASt} {m m' : Mem} (row : ∀ (x : Int64) (H : Heap) (locs : List Loc) (lsa : Array Slot) (rest : List Value), lsa[k]? = some (.val (.long x)) → xW X Q H locs (F0 (xm X) (pc + n) lsa (.long x :: rest)) → xW X Q H locs (F0 (xm X) pc lsa rest))
    (hx : ldL ls k st m = some (ls', st', m')) (kk : GG X Q (pc + n) ls' st' m') : GG X Q pc ls st m := by
  unfold ldL at hx
  split at hx
  case h_2 => cases hx
  rename_i x hv
  cases hx
  exact gg_load hv (row x) kk
theorem gg_ldA {X : XT} {Q : State → Prop} {pc n k : Nat} {ls ls' : ALs} {st st' : ASt} {m m' : Mem} (row : ∀ (x : Nat) (H : Heap) (locs : List Loc) (lsa : Array Slot) (rest : List Value), lsa[k]? = some (.val (.ref x)) → xW X Q H locs (F0 (xm X) (pc + n) lsa (.ref x :: rest)) → xW X Q H locs (F0 (xm X) pc lsa rest))
    (hx : ldA ls k st m = some (ls', st', m')) (kk : GG X Q (pc + n) ls' st' m') : GG X Q pc ls st m := by
  unfold ldA at hx
  split at hx
  case h_2 => cases hx
  rename_i x hv
  cases hx
  exact gg_load hv (row (xA X x)) kk
theorem gg_stI {X : XT} {Q : State → Prop} {pc n k : Nat} {v : AV} {pre : List Value} {ls ls' : ALs} {r st' : ASt} {m m' : Mem} (row : ∀ (H : Heap) (locs : List Loc) (lsa : Array Slot) (lv : List (Nat × Value)), lv_has lsa (xn X) lv → k < xn X → (∀ j, ldv ls k = some j → lsa[k]? = some (.val (cv (xA X) j)) ∧ (k, cv (xA X) j) ∈ lv) →
      (∀ ls' : Array Slot, lv_has ls' (xn X) ((k, cv (xA X) v) :: lv.filter (fun q => !(q.1 == k) && !(q.1 + 1 == k && q.2.category == 2))) → xW X Q H locs (F0 (xm X) (pc + n) ls' (r.map (cv (xA X))))) → xW X Q H locs (F0 (xm X) pc lsa (pre ++ r.map (cv (xA X)))))
    (hx : stI ls k v r m = some (ls', st', m')) (kk : GG X Q (pc + n) ls' st' m') (hv : okL (xV X) ls → okV (xV X) v) : okS (xV X) r → okL (xV X) ls → ∀ (H : Heap) (locs : List Loc) (lsa : Array Slot), va_P (xC X, xI X) vwCl (wsM (xV X) (xA X) (xk X) m) H → va_S (frA (xV X) (xA X)) (xs X).heap H locs → lhas (xA X) (xn X) lsa ls →
    xW X Q H locs (F0 (xm X) pc lsa (pre ++ r.map (cv (xA X)))) := by
  intro hS hL H locs lsa hP hSt hl
  unfold stI at hx
  split at hx
  case h_2 => cases hx
  rename_i l hm
  cases hx
  have hk := (stA_spec hm).1
  refine row H locs lsa _ (lhas_has hl) (by rw [← hl.2.1]; exact hk) (fun j hj => ?_) (fun lsa' h' => kk hS (okL_set hL (hv hL) hm) H locs lsa' hP hSt (lhas_set hl.2.1 hm h'))
  exact ⟨hl.2.2.2 k j (ldv_spec hj), mem_lsL.mpr ⟨j, ldv_spec hj, rfl⟩⟩
theorem gg_stL {X : XT} {Q : State → Prop} {pc n k : Nat} {v : AV} {pre : List Value} {ls ls' : ALs} {r st' : ASt} {m m' : Mem} (row : ∀ (H : Heap) (locs : List Loc) (lsa : Array Slot) (lv : List (Nat × Value)), lv_has lsa (xn X) lv → k + 1 < xn X →
      (∀ ls' : Array Slot, lv_has ls' (xn X) ((k, cv (xA X) v) :: lv.filter (fun q => !(q.1 == k) && (!(q.1 == k + 1) && !(q.1 + 1 == k && q.2.category == 2)))) → xW X Q H locs (F0 (xm X) (pc + n) ls' (r.map (cv (xA X))))) → xW X Q H locs (F0 (xm X) pc lsa (pre ++ r.map (cv (xA X)))))
    (hx : stL ls k v r m = some (ls', st', m')) (kk : GG X Q (pc + n) ls' st' m') (hv : okV (xV X) v) : okS (xV X) r → okL (xV X) ls → ∀ (H : Heap) (locs : List Loc) (lsa : Array Slot), va_P (xC X, xI X) vwCl (wsM (xV X) (xA X) (xk X) m) H → va_S (frA (xV X) (xA X)) (xs X).heap H locs → lhas (xA X) (xn X) lsa ls →
    xW X Q H locs (F0 (xm X) pc lsa (pre ++ r.map (cv (xA X)))) := by
  intro hS hL H locs lsa hP hSt hl
  unfold stL at hx
  split at hx
  case h_2 => cases hx
  rename_i l hm hb
  have hb : k + 1 < ls.length := Nat.blt_eq.mp hb
  cases hx
  exact row H locs lsa _ (lhas_has hl) (by rw [← hl.2.1]; exact hb) (fun lsa' h' => kk hS (okL_setN (okL_set hL hv hm)) H locs lsa' hP hSt (lhas_setL hl.2.1 hm h'))
set_option maxHeartbeats 4000000 in
theorem gg_ex1 {X : XT} {cc : ByteArray} {P : PT} {Q : State → Prop} (hC : GC X cc P) {pc : Nat} {i : Instr} {ls ls' : ALs} {st st' : ASt} {m m' : Mem} (hd : decode cc pc = .ok (i, ilen i)) (hx : ex1 P i ls st m = some (ls', st', m')) (kk : GG X Q (pc + ilen i) ls' st' m') : GG X Q pc ls st m := by
  have hexec := hC.1
  have hb := hC.2.1
  have hown := hC.2.2.2.1
  have hts := hC.2.2.2.2.1
  have hpt := hC.2.2.2.2.2.2.2.2.2
  unfold ex1 at hx
  split at hx
  · cases hx; exact gg_push (v := .inl _) (fun H locs lsa rest k => lv_iconst hexec hb hd rfl k) trivial kk
  · cases hx; exact gg_push (v := .inl _) (fun H locs lsa rest k => lv_bipush hexec hb hd rfl k) trivial kk
  · cases hx; exact gg_push (v := .inl _) (fun H locs lsa rest k => lv_sipush hexec hb hd rfl k) trivial kk
  · cases hx; exact gg_push (v := .inr (.inl _)) (fun H locs lsa rest k => lv_lconst hexec hb hd rfl k) trivial kk
  · exact gg_ldI (fun x H locs lsa rest h k => lv_iload hexec hb hd h k) hx kk
  · exact gg_ldI (fun x H locs lsa rest h k => lv_iload_n hexec hb hd rfl h k) hx kk
  · exact gg_ldL (fun x H locs lsa rest h k => lv_lload hexec hb hd h k) hx kk
  · exact gg_ldL (fun x H locs lsa rest h k => lv_lload_n hexec hb hd rfl h k) hx kk
  · exact gg_ldA (fun x H locs lsa rest h k => lv_aload hexec hb hd h k) hx kk
  · exact gg_ldA (fun x H locs lsa rest h k => lv_aload_n hexec hb hd rfl h k) hx kk
  · split at hx
    case h_2 => cases hx
    rename_i x r
    exact fun hS hL => gg_stI (n := 2) (v := .inl x) (pre := [.int x]) (fun H locs lsa lv h hn _ k => lv_istore hexec hb hd h hn rfl k) hx kk (fun _ => trivial) (okS_cons.mp hS).2 hL
  · split at hx
    case h_2 => cases hx
    rename_i x r
    exact fun hS hL => gg_stI (n := 1) (v := .inl x) (pre := [.int x]) (fun H locs lsa lv h hn _ k => lv_istore_n hexec hb hd rfl h hn rfl k) hx kk (fun _ => trivial) (okS_cons.mp hS).2 hL
  · split at hx
    case h_2 => cases hx
    rename_i x r
    exact fun hS hL => gg_stI (n := 2) (v := .inr (.inr x)) (pre := [.ref (xA X x)]) (fun H locs lsa lv h hn _ k => lv_astore hexec hb hd h hn rfl k) hx kk (fun _ => (okS_cons.mp hS).1) (okS_cons.mp hS).2 hL
  · split at hx
    case h_2 => cases hx
    rename_i x r
    exact fun hS hL => gg_stI (n := 1) (v := .inr (.inr x)) (pre := [.ref (xA X x)]) (fun H locs lsa lv h hn _ k => lv_astore_n hexec hb hd rfl h hn rfl k) hx kk (fun _ => (okS_cons.mp hS).1) (okS_cons.mp hS).2 hL
  · split at hx
    case h_2 => cases hx
    rename_i x r
    exact fun hS hL => gg_stL (n := 2) (v := .inr (.inl x)) (pre := [.long x]) (fun H locs lsa lv h hn k => lv_lstore hexec hb hd h hn rfl k) hx kk trivial (okS_cons.mp hS).2 hL
  · split at hx
    case h_2 => cases hx
    rename_i x r
    exact fun hS hL => gg_stL (n := 1) (v := .inr (.inl x)) (pre := [.long x]) (fun H locs lsa lv h hn k => lv_lstore_n hexec hb hd rfl h hn rfl k) hx kk trivial (okS_cons.mp hS).2 hL
  · split at hx
    case h_2 => cases hx
    rename_i x hv
    refine fun hS hL => gg_stI (n := 3) (v := .inl _) (pre := []) (fun H locs lsa lv h hn hj k => ?_) hx kk (fun _ => trivial) hS hL
    obtain ⟨q, hq⟩ := List.getElem?_of_mem (hj _ hv).2
    exact lv_iinc hexec hb hd h hq rfl hn rfl k
  · exact gg_bin (fun x y H locs lsa rest k => lv_iadd hexec hb hd k) hx kk
  · exact gg_bin (fun x y H locs lsa rest k => lv_isub hexec hb hd k) hx kk
  · exact gg_bin (fun x y H locs lsa rest k => lv_imul hexec hb hd k) hx kk
  · exact gg_bin (fun x y H locs lsa rest k => lv_iand hexec hb hd k) hx kk
  · exact gg_bin (fun x y H locs lsa rest k => lv_ior hexec hb hd k) hx kk
  · exact gg_bin (fun x y H locs lsa rest k => lv_ixor hexec hb hd k) hx kk
  · exact gg_bin (fun x y H locs lsa rest k => lv_ishl hexec hb hd k) hx kk
  · exact gg_bin (fun x y H locs lsa rest k => lv_ishr hexec hb hd k) hx kk
  · exact gg_una (fun x H locs lsa rest k => lv_ineg hexec hb hd k) hx kk
  · exact gg_una (fun x H locs lsa rest k => lv_i2b hexec hb hd rfl k) hx kk
  · exact gg_una (fun x H locs lsa rest k => lv_i2s hexec hb hd rfl k) hx kk
  · split at hx
    case h_2 => cases hx
    cases hx
    exact fun hS hL H locs lsa hP hSt hl => lv_i2l hexec hb hd rfl (kk (okS_cons.mpr ⟨trivial, (okS_cons.mp hS).2⟩) hL H locs lsa hP hSt hl)
  · split at hx
    case h_2 => cases hx
    cases hx
    exact fun hS hL H locs lsa hP hSt hl => W.lcmp hexec hb hd (kk (okS_cons.mpr ⟨trivial, (okS_cons.mp (okS_cons.mp hS).2).2⟩) hL H locs lsa hP hSt hl)
  · split at hx
    case h_3 => cases hx
    · cases hx
      exact fun hS hL H locs lsa hP hSt hl => lv_dup hexec hb hd rfl (kk (okS_cons.mpr ⟨trivial, hS⟩) hL H locs lsa hP hSt hl)
    · cases hx
      exact fun hS hL H locs lsa hP hSt hl => lv_dup hexec hb hd rfl (kk (okS_cons.mpr ⟨(okS_cons.mp hS).1, hS⟩) hL H locs lsa hP hSt hl)
  · split at hx
    case h_3 => cases hx
    · cases hx
      exact fun hS hL H locs lsa hP hSt hl => lv_dup2_11 hexec hb hd rfl rfl (kk (okS_cons.mpr ⟨trivial, okS_cons.mpr ⟨trivial, hS⟩⟩) hL H locs lsa hP hSt hl)
    · cases hx
      exact fun hS hL H locs lsa hP hSt hl => lv_dup2_11 hexec hb hd rfl rfl (kk (okS_cons.mpr ⟨trivial, okS_cons.mpr ⟨(okS_cons.mp (okS_cons.mp hS).2).1, hS⟩⟩) hL H locs lsa hP hSt hl)
  · exact gg_get hC hd hx kk
  · exact gg_put hC hd hx kk
  · split at hx
    case h_2 => cases hx
    rename_i x hz
    cases hx
    refine gg_push (v := .inl x) (fun H locs lsa rest k => lv_ldc hexec hb hown (hts _ (hpt.2.1 (_, x) ?_)) hd k) trivial kk
    obtain ⟨l1, l2, h1, -⟩ := List.lookup_eq_some_iff.mp hz
    rw [h1]; simp
  · split at hx
    case h_2 => cases hx
    rename_i x hz
    cases hx
    refine gg_push (v := .inr (.inl x)) (fun H locs lsa rest k => lv_ldc2 hexec hb hown (hts _ (hpt.2.2 (_, x) ?_)) hd k) trivial kk
    obtain ⟨l1, l2, h1, -⟩ := List.lookup_eq_some_iff.mp hz
    rw [h1]; simp
  · cases hx
end
section
/-! ===== straight rows ===== -/
variable {ph : Bool}
def exN (P : PT) : List Instr → ALs → ASt → Mem → Option (ALs × ASt × Mem)
  | [], ls, st, m => some (ls, st, m)
  | i :: r, ls, st, m => match ex1 P i ls st m with
    | some q => exN P r q.1 q.2.1 q.2.2
    | none => none
def blk (cc : ByteArray) : Nat → List Instr → Nat → Bool
  | pc, [], e => Nat.beq pc e
  | pc, i :: r, e => decide (decode cc pc = .ok (i, ilen i)) && blk cc (pc + ilen i) r e
theorem gg_blk {X : XT} {cc : ByteArray} {P : PT} {Q : State → Prop} (hC : GC X cc P) : ∀ {is : List Instr} {pc pc' : Nat} {ls ls' : ALs} {st st' : ASt} {m m' : Mem}, blk cc pc is pc' = true → exN P is ls st m = some (ls', st', m') → GG X Q pc' ls' st' m' → GG X Q pc ls st m
  | [], pc, pc', ls, ls', st, st', m, m', hd, hx, kk => by
    cases hx
    rw [Nat.eq_of_beq_eq_true hd]
    exact kk
  | i :: r, pc, pc', ls, ls', st, st', m, m', hd, hx, kk => by
    simp only [blk, Bool.and_eq_true, decide_eq_true_eq] at hd
    unfold exN at hx
    split at hx
    case h_2 => cases hx
    rename_i q hq
    exact gg_ex1 hC hd.1 hq (gg_blk hC hd.2 hx kk)
/-- if the number's run ends with an answer and a memory, then the machine's does, with these -/
def Go (X : XT) {ρ : Type} (E : ρ → Mem → State → Prop) (pc : Nat) (ls : ALs) (st : ASt) (m : Mem) (o : Option (ρ × Mem)) : Prop := ∀ r m', o = some (r, m') → GG X (E r m') pc ls st m
section GO
variable {X : XT} {cc : ByteArray} {P : PT} {ρ : Type} {E : ρ → Mem → State → Prop} {pc : Nat} {ls : ALs} {st : ASt} {m : Mem} {o : Option (ρ × Mem)}
theorem go_blk (hC : GC X cc P) {is : List Instr} {pc' : Nat} {ls' : ALs} {st' : ASt} {m' : Mem} (hd : blk cc pc is pc' = true) (hx : exN P is ls st m = some (ls', st', m')) (kk : Go X E pc' ls' st' m' o) : Go X E pc ls st m o :=
  fun r m2 h => gg_blk hC hd hx (kk r m2 h)
theorem go_none : Go X E pc ls st m none := fun _ _ h => by cases h
theorem go_ite {c : Prop} [Decidable c] {a b : Option (ρ × Mem)} (ha : c → Go X E pc ls st m a) (hb : ¬ c → Go X E pc ls st m b) : Go X E pc ls st m (if c then a else b) := by
  by_cases h : c
  · rw [if_pos h]; exact ha h
  · rw [if_neg h]; exact hb h
theorem go_goto (hC : GC X cc P) {off : Int} (tgt : Nat) (hd : decode cc pc = .ok (.goto off, 3)) (ht : (pc : Int) + off = (tgt : Int)) (kk : Go X E tgt ls st m o) : Go X E pc ls st m o :=
  fun r m2 h hS hL H locs lsa hP hSt hl => lv_goto hC.1 hC.2.1 hd ht (kk r m2 h hS hL H locs lsa hP hSt hl)
theorem go_br {c : Prop} [Decidable c] {tgt nxt : Nat} {st2 : ASt} {a b : Option (ρ × Mem)} (hok : okS (xV X) st → okS (xV X) st2)
    (row : ∀ (Q : State → Prop) (H : Heap) (locs : List Loc) (lsa : Array Slot), (c → xW X Q H locs (F0 (xm X) tgt lsa (st2.map (cv (xA X))))) → (¬ c → xW X Q H locs (F0 (xm X) nxt lsa (st2.map (cv (xA X))))) → xW X Q H locs (F0 (xm X) pc lsa (st.map (cv (xA X)))))
    (ha : c → Go X E tgt ls st2 m a) (hb : ¬ c → Go X E nxt ls st2 m b) : Go X E pc ls st m (if c then a else b) := by
  intro r m2 h hS hL H locs lsa hP hSt hl
  refine row _ H locs lsa (fun hc => ?_) (fun hc => ?_)
  · rw [if_pos hc] at h
    exact ha hc r m2 h (hok hS) hL H locs lsa hP hSt hl
  · rw [if_neg hc] at h
    exact hb hc r m2 h (hok hS) hL H locs lsa hP hSt hl
theorem ok1 {v : AV} {st : ASt} : okS ph (v :: st) → okS ph st := fun h => (okS_cons.mp h).2
theorem ok2 {v w : AV} {st : ASt} : okS ph (v :: w :: st) → okS ph st := fun h => ok1 (ok1 h)
theorem ok3 {v w u : AV} {st : ASt} : okS ph (v :: w :: u :: st) → okS ph st := fun h => ok1 (ok2 h)
variable {x y : Int32} {off : Int} {a b : Option (ρ × Mem)} {rest : ASt}
theorem go_ifeq (hC : GC X cc P) (tgt : Nat) (hd : decode cc pc = .ok (.ifCond .eq off, 3)) (ht : (pc : Int) + off = (tgt : Int)) (ha : x = 0 → Go X E tgt ls rest m a) (hb : ¬ x = 0 → Go X E (pc + 3) ls rest m b) : Go X E pc ls (.inl x :: rest) m (if x = 0 then a else b) :=
  go_br ok1 (fun Q H locs lsa k1 k2 => lv_if_eq hC.1 hC.2.1 hd ht k1 k2) ha hb
theorem go_ifne (hC : GC X cc P) (tgt : Nat) (hd : decode cc pc = .ok (.ifCond .ne off, 3)) (ht : (pc : Int) + off = (tgt : Int)) (ha : ¬ x = 0 → Go X E tgt ls rest m a) (hb : x = 0 → Go X E (pc + 3) ls rest m b) : Go X E pc ls (.inl x :: rest) m (if x = 0 then b else a) :=
  go_br ok1 (fun Q H locs lsa k1 k2 => lv_if_ne hC.1 hC.2.1 hd ht k2 k1) hb ha
theorem go_iflt (hC : GC X cc P) (tgt : Nat) (hd : decode cc pc = .ok (.ifCond .lt off, 3)) (ht : (pc : Int) + off = (tgt : Int)) (ha : x < 0 → Go X E tgt ls rest m a) (hb : ¬ x < 0 → Go X E (pc + 3) ls rest m b) : Go X E pc ls (.inl x :: rest) m (if x < 0 then a else b) :=
  go_br ok1 (fun Q H locs lsa k1 k2 => lv_if_lt hC.1 hC.2.1 hd ht k1 k2) ha hb
theorem go_ifge (hC : GC X cc P) (tgt : Nat) (hd : decode cc pc = .ok (.ifCond .ge off, 3)) (ht : (pc : Int) + off = (tgt : Int)) (ha : 0 ≤ x → Go X E tgt ls rest m a) (hb : ¬ 0 ≤ x → Go X E (pc + 3) ls rest m b) : Go X E pc ls (.inl x :: rest) m (if 0 ≤ x then a else b) :=
  go_br ok1 (fun Q H locs lsa k1 k2 => lv_if_ge hC.1 hC.2.1 hd ht k1 k2) ha hb
theorem go_ifgt (hC : GC X cc P) (tgt : Nat) (hd : decode cc pc = .ok (.ifCond .gt off, 3)) (ht : (pc : Int) + off = (tgt : Int)) (ha : 0 < x → Go X E tgt ls rest m a) (hb : ¬ 0 < x → Go X E (pc + 3) ls rest m b) : Go X E pc ls (.inl x :: rest) m (if 0 < x then a else b) :=
  go_br ok1 (fun Q H locs lsa k1 k2 => lv_if_gt hC.1 hC.2.1 hd ht k1 k2) ha hb
theorem go_ifle (hC : GC X cc P) (tgt : Nat) (hd : decode cc pc = .ok (.ifCond .le off, 3)) (ht : (pc : Int) + off = (tgt : Int)) (ha : x ≤ 0 → Go X E tgt ls rest m a) (hb : ¬ x ≤ 0 → Go X E (pc + 3) ls rest m b) : Go X E pc ls (.inl x :: rest) m (if x ≤ 0 then a else b) :=
  go_br ok1 (fun Q H locs lsa k1 k2 => lv_if_le hC.1 hC.2.1 hd ht k1 k2) ha hb
theorem go_icmpeq (hC : GC X cc P) (tgt : Nat) (hd : decode cc pc = .ok (.if_icmp .eq off, 3)) (ht : (pc : Int) + off = (tgt : Int)) (ha : x = y → Go X E tgt ls rest m a) (hb : ¬ x = y → Go X E (pc + 3) ls rest m b) : Go X E pc ls (.inl y :: .inl x :: rest) m (if x = y then a else b) :=
  go_br ok2 (fun Q H locs lsa k1 k2 => lv_icmp_eq hC.1 hC.2.1 hd ht k1 k2) ha hb
theorem go_icmpne (hC : GC X cc P) (tgt : Nat) (hd : decode cc pc = .ok (.if_icmp .ne off, 3)) (ht : (pc : Int) + off = (tgt : Int)) (ha : ¬ x = y → Go X E tgt ls rest m a) (hb : x = y → Go X E (pc + 3) ls rest m b) : Go X E pc ls (.inl y :: .inl x :: rest) m (if x = y then b else a) :=
  go_br ok2 (fun Q H locs lsa k1 k2 => lv_icmp_ne hC.1 hC.2.1 hd ht k2 k1) hb ha
theorem go_icmplt (hC : GC X cc P) (tgt : Nat) (hd : decode cc pc = .ok (.if_icmp .lt off, 3)) (ht : (pc : Int) + off = (tgt : Int)) (ha : x < y → Go X E tgt ls rest m a) (hb : ¬ x < y → Go X E (pc + 3) ls rest m b) : Go X E pc ls (.inl y :: .inl x :: rest) m (if x < y then a else b) :=
  go_br ok2 (fun Q H locs lsa k1 k2 => lv_icmp_lt hC.1 hC.2.1 hd ht k1 k2) ha hb
theorem go_icmpge (hC : GC X cc P) (tgt : Nat) (hd : decode cc pc = .ok (.if_icmp .ge off, 3)) (ht : (pc : Int) + off = (tgt : Int)) (ha : y ≤ x → Go X E tgt ls rest m a) (hb : ¬ y ≤ x → Go X E (pc + 3) ls rest m b) : Go X E pc ls (.inl y :: .inl x :: rest) m (if y ≤ x then a else b) :=
  go_br ok2 (fun Q H locs lsa k1 k2 => lv_icmp_ge hC.1 hC.2.1 hd ht k1 k2) ha hb
theorem go_icmpgt (hC : GC X cc P) (tgt : Nat) (hd : decode cc pc = .ok (.if_icmp .gt off, 3)) (ht : (pc : Int) + off = (tgt : Int)) (ha : y < x → Go X E tgt ls rest m a) (hb : ¬ y < x → Go X E (pc + 3) ls rest m b) : Go X E pc ls (.inl y :: .inl x :: rest) m (if y < x then a else b) :=
  go_br ok2 (fun Q H locs lsa k1 k2 => lv_icmp_gt hC.1 hC.2.1 hd ht k1 k2) ha hb
theorem go_icmple (hC : GC X cc P) (tgt : Nat) (hd : decode cc pc = .ok (.if_icmp .le off, 3)) (ht : (pc : Int) + off = (tgt : Int)) (ha : x ≤ y → Go X E tgt ls rest m a) (hb : ¬ x ≤ y → Go X E (pc + 3) ls rest m b) : Go X E pc ls (.inl y :: .inl x :: rest) m (if x ≤ y then a else b) :=
  go_br ok2 (fun Q H locs lsa k1 k2 => lv_icmp_le hC.1 hC.2.1 hd ht k1 k2) ha hb
end GO
/-! ===== arrays: a place outside has no run ===== -/
abbrev ix (j : Int32) : Nat := j.toNatClampNeg
def inB (j : Int32) (n : Nat) : Bool := decide (0 ≤ j) && Nat.blt (ix j) n
theorem inB_in {j : Int32} {n : Nat} (h : inB j n = true) : vp_in j n ∧ ix j < n := by
  unfold inB at h
  rw [Bool.and_eq_true, decide_eq_true_eq] at h
  have h2 : ix j < n := Nat.blt_eq.mp h.2
  refine ⟨?_, h2⟩
  rintro (q | q)
  · have h1 := h.1
    rw [Int32.lt_iff_toInt_lt] at q
    rw [Int32.le_iff_toInt_le] at h1
    omega
  · exact absurd h2 (Nat.not_lt.mpr q)
/-- a quotient gets a name -/
def dv {α β : Type} (a : α) (k : α → β) : β := k a
section GA
variable {X : XT} {cc : ByteArray} {P : PT} {ρ : Type} {E : ρ → Mem → State → Prop} {pc : Nat} {ls : ALs} {m : Mem} {o : Option (ρ × Mem)} {rest : ASt} {t i n : Nat} {j : Int32}
theorem go_iald (hC : GC X cc P) (hd : decode cc pc = .ok (.iaload, 1)) (hc : sh_cls t = none) (ha : sh_arr t = some (0, n)) (kk : inB j n = true → Go X E (pc + 1) ls (.inl (m t i (ix j)) :: rest) m o) :
    Go X E pc ls (.inl j :: .inr (.inr (t, i)) :: rest) m (if inB j n = true then o else none) := by
  intro r m2 h hS hL H locs lsa hP hSt hl
  split at h
  case isFalse => cases h
  rename_i hin
  have hq : (t, i) ∈ vrefs (xV X) := ok_arr (okS_cons.mp (ok1 hS)).1 ha
  obtain ⟨q0, hq0, hw⟩ := wsM_at (ph := xV X) (A := xA X) (cs := xk X) (m := m) hq
  rw [cellOf_arr hc ha] at hw
  exact va_iald hC.1 hC.2.1 hC.2.2.2.2.2.2.1 hP q0 0 hw rfl (inB_in hin).1 hd (kk hin r m2 h (okS_cons.mpr ⟨trivial, ok2 hS⟩) hL H locs lsa hP hSt hl)
theorem go_iast (hC : GC X cc P) {v : Int32} (hd : decode cc pc = .ok (.iastore, 1)) (hc : sh_cls t = none) (ha : sh_arr t = some (0, n)) (kk : inB j n = true → Go X E (pc + 1) ls rest (mset m t i (ix j) v) o) :
    Go X E pc ls (.inl v :: .inl j :: .inr (.inr (t, i)) :: rest) m (if inB j n = true then o else none) := by
  intro r m2 h hS hL H locs lsa hP hSt hl
  split at h
  case isFalse => cases h
  rename_i hin
  have hq : (t, i) ∈ vrefs (xV X) := ok_arr (okS_cons.mp (ok2 hS)).1 ha
  obtain ⟨q0, hq0, hw⟩ := wsM_at (ph := xV X) (A := xA X) (cs := xk X) (m := m) hq
  rw [cellOf_arr hc ha] at hw
  refine va_iast hC.1 hC.2.1 hC.2.2.2.2.2.2.1 hP (wsM_D hC.2.2.2.2.2.2.2.1.1 m) hSt q0 0 hw rfl (inB_in hin).1 hd (fun H1 locs1 hP1 _ hS1 => ?_)
  refine kk hin r m2 h (ok3 hS) hL H1 locs1 lsa ?_ hS1 hl
  rw [← wsM_set hq0, cellOf_arr hc ha, mset_row]
  exact hP1
theorem go_aald (hC : GC X cc P) {kd : Nat} {z : AR} (hd : decode cc pc = .ok (.aaload, 1)) (hc : sh_cls t = none) (ha : sh_arr t = some (kd + 1, n)) (hk : kd < 3) (hz : sh_ref t i (ix j) = some z) (kk : inB j n = true → Go X E (pc + 1) ls (.inr (.inr z) :: rest) m o) :
    Go X E pc ls (.inl j :: .inr (.inr (t, i)) :: rest) m (if inB j n = true then o else none) := by
  intro r m2 h hS hL H locs lsa hP hSt hl
  split at h
  case isFalse => cases h
  rename_i hin
  have hq : (t, i) ∈ vrefs (xV X) := ok_arr (okS_cons.mp (ok1 hS)).1 ha
  obtain ⟨q0, hq0, hw⟩ := wsM_at (ph := xV X) (A := xA X) (cs := xk X) (m := m) hq
  rw [cellOf_arq hc ha] at hw
  obtain ⟨hin1, hin2⟩ := inB_in hin
  have hzr : z ∈ vrefs (xV X) := sh_closed hq (k := ix j) (by show ix j < lenOf t; unfold lenOf; rw [hc]; dsimp only; rw [ha]; exact hin2) hz
  have hty : (elT (kd + 1)).isReference = true := by
    match kd, hk with
    | 0, _ => rfl
    | 1, _ => rfl
    | 2, _ => rfl
  refine W.aald (v := .ref (xA X z)) (ty := elT (kd + 1)) hC.1 hC.2.1 (hP q0 _ hw) ((hC.2.2.2.2.2.2.1.2 (kd + 1) _ (tysM_at (by omega))).1 n (fun j => va_rf ((fun j => if j < n then (sh_ref t i j).map (xA X) else none) j))) hty (fun q => by cases q) (by show ¬ (j < 0 ∨ (arrV _ _ _).slots.size ≤ _); rw [arrV_size]; exact hin1) ?_ rfl rfl hd ?_
  · show (arrV _ _ _).slots[_]? = _
    rw [arrV_read _ _ hin2]
    show some (va_rf (if ix j < n then (sh_ref t i (ix j)).map (xA X) else none)) = _
    rw [if_pos hin2, hz]
    rfl
  · exact kk hin r m2 h (okS_cons.mpr ⟨Or.inl hzr, ok2 hS⟩) hL H locs lsa hP hSt hl
theorem go_alen (hC : GC X cc P) (hd : decode cc pc = .ok (.arraylength, 1)) (hc : sh_cls t = none) (ha : sh_arr t = some (0, n)) (kk : Go X E (pc + 1) ls (.inl (Int32.ofNat n) :: rest) m o) : Go X E pc ls (.inr (.inr (t, i)) :: rest) m o := by
  intro r m2 h hS hL H locs lsa hP hSt hl
  have hq : (t, i) ∈ vrefs (xV X) := ok_arr (okS_cons.mp hS).1 ha
  obtain ⟨q0, hq0, hw⟩ := wsM_at (ph := xV X) (A := xA X) (cs := xk X) (m := m) hq
  rw [cellOf_arr hc ha] at hw
  exact va_alen hC.1 hC.2.1 hC.2.2.2.2.2.2.1 hP q0 0 hw rfl rfl hd (kk r m2 h (okS_cons.mpr ⟨trivial, ok1 hS⟩) hL H locs lsa hP hSt hl)
variable {x y : Int32} {u w : Int64}
theorem go_guard {c : Prop} [Decidable c] {pc2 : Nat} {st st2 : ASt} (hok : okS (xV X) st → okS (xV X) st2) (row : c → ∀ (Q : State → Prop) (H : Heap) (locs : List Loc) (lsa : Array Slot), xW X Q H locs (F0 (xm X) pc2 lsa (st2.map (cv (xA X)))) → xW X Q H locs (F0 (xm X) pc lsa (st.map (cv (xA X))))) (kk : c → Go X E pc2 ls st2 m o) :
    Go X E pc ls st m (if c then o else none) := by
  intro r m2 h hS hL H locs lsa hP hSt hl
  split at h
  case isFalse => cases h
  rename_i hc
  exact row hc _ H locs lsa (kk hc r m2 h (hok hS) hL H locs lsa hP hSt hl)
theorem okT {v : AV} {st : ASt} (hv : okV ph v) (h : okS ph st) : okS ph (v :: st) := okS_cons.mpr ⟨hv, h⟩
theorem go_idiv (hC : GC X cc P) (hd : decode cc pc = .ok (.idiv, 1)) {k : Int32 → Option (ρ × Mem)} (kk : ¬ y = 0 → ∀ q, q = x / y → Go X E (pc + 1) ls (.inl q :: rest) m (k q)) : Go X E pc ls (.inl y :: .inl x :: rest) m (if ¬ y = 0 then dv (x / y) k else none) :=
  go_guard (fun h => okT (v := .inl (x / y)) trivial (ok2 h)) (fun hc Q H locs lsa k => lv_idiv hC.1 hC.2.1 hd hc k) (fun hc => kk hc _ rfl)
theorem go_irem (hC : GC X cc P) (hd : decode cc pc = .ok (.irem, 1)) {k : Int32 → Option (ρ × Mem)} (kk : ¬ y = 0 → ∀ q, q = x - x / y * y → Go X E (pc + 1) ls (.inl q :: rest) m (k q)) : Go X E pc ls (.inl y :: .inl x :: rest) m (if ¬ y = 0 then dv (x - x / y * y) k else none) :=
  go_guard (fun h => okT (v := .inl (x - x / y * y)) trivial (ok2 h)) (fun hc Q H locs lsa k => lv_irem hC.1 hC.2.1 hd hc k) (fun hc => kk hc _ rfl)
theorem go_ldiv (hC : GC X cc P) (hd : decode cc pc = .ok (.ldiv, 1)) {k : Int64 → Option (ρ × Mem)} (kk : ¬ w = 0 → ∀ q, q = u / w → Go X E (pc + 1) ls (.inr (.inl q) :: rest) m (k q)) : Go X E pc ls (.inr (.inl w) :: .inr (.inl u) :: rest) m (if ¬ w = 0 then dv (u / w) k else none) :=
  go_guard (fun h => okT (v := .inr (.inl (u / w))) trivial (ok2 h)) (fun hc Q H locs lsa k => lv_ldiv hC.1 hC.2.1 hd hc k) (fun hc => kk hc _ rfl)
theorem go_lrem (hC : GC X cc P) (hd : decode cc pc = .ok (.lrem, 1)) {k : Int64 → Option (ρ × Mem)} (kk : ¬ w = 0 → ∀ q, q = u - u / w * w → Go X E (pc + 1) ls (.inr (.inl q) :: rest) m (k q)) : Go X E pc ls (.inr (.inl w) :: .inr (.inl u) :: rest) m (if ¬ w = 0 then dv (u - u / w * w) k else none) :=
  go_guard (fun h => okT (v := .inr (.inl (u - u / w * w))) trivial (ok2 h)) (fun hc Q H locs lsa k => lv_lrem hC.1 hC.2.1 hd hc k) (fun hc => kk hc _ rfl)
end GA
/-! ===== loops: a body goes on with the next state, or with the state behind the loop, or answers at once ===== -/
def lpk {σ τ ω : Type} (body : (σ → Option ω) → (τ → Option ω) → σ → Option ω) : Nat → σ → (τ → Option ω) → Option ω
  | 0, _, _ => none
  | n + 1, s, K => body (fun s' => lpk body n s' K) K s
theorem lpk_0 {σ τ ω : Type} (body : (σ → Option ω) → (τ → Option ω) → σ → Option ω) (s : σ) (K : τ → Option ω) : lpk body 0 s K = none := rfl
theorem lpk_s {σ τ ω : Type} (body : (σ → Option ω) → (τ → Option ω) → σ → Option ω) (n : Nat) (s : σ) (K : τ → Option ω) : lpk body (n + 1) s K = body (fun s' => lpk body n s' K) K s := rfl
def fuelN : Nat := 5000
def bnd {α β : Type} (o : Option (α × Mem)) (k : α → Mem → Option β) : Option β := match o with
  | none => none
  | some q => k q.1 q.2
theorem bnd_some {α β : Type} (a : α) (m : Mem) (k : α → Mem → Option β) : bnd (some (a, m)) k = k a m := rfl
theorem go_lp0 {τ ω : Type} {body : (Mem → Option ω) → (τ → Option ω) → Mem → Option ω} {hd : Mem → Option ω → Prop} {K : τ → Option ω}
    (h0 : ∀ (m : Mem), hd m none) (hb : ∀ (m : Mem) (next : Mem → Option ω), (∀ (m : Mem), hd m (next m)) → hd m (body next K m)) :
    ∀ (n : Nat) (m : Mem), hd m (lpk body n m K)
  | 0, m => h0 m
  | n + 1, m => hb m _ (fun m => go_lp0 h0 hb n m)
theorem go_lp1 {T0 τ ω : Type} {body : (T0 × Mem → Option ω) → (τ → Option ω) → T0 × Mem → Option ω} {hd : T0 → Mem → Option ω → Prop} {K : τ → Option ω}
    (h0 : ∀ (a0 : T0) (m : Mem), hd a0 m none) (hb : ∀ (a0 : T0) (m : Mem) (next : T0 × Mem → Option ω), (∀ (a0 : T0) (m : Mem), hd a0 m (next (a0, m))) → hd a0 m (body next K (a0, m))) :
    ∀ (n : Nat) (a0 : T0) (m : Mem), hd a0 m (lpk body n (a0, m) K)
  | 0, a0, m => h0 a0 m
  | n + 1, a0, m => hb a0 m _ (fun a0 m => go_lp1 h0 hb n a0 m)
theorem go_lp2 {T0 T1 τ ω : Type} {body : (T0 × T1 × Mem → Option ω) → (τ → Option ω) → T0 × T1 × Mem → Option ω} {hd : T0 → T1 → Mem → Option ω → Prop} {K : τ → Option ω}
    (h0 : ∀ (a0 : T0) (a1 : T1) (m : Mem), hd a0 a1 m none) (hb : ∀ (a0 : T0) (a1 : T1) (m : Mem) (next : T0 × T1 × Mem → Option ω), (∀ (a0 : T0) (a1 : T1) (m : Mem), hd a0 a1 m (next (a0, a1, m))) → hd a0 a1 m (body next K (a0, a1, m))) :
    ∀ (n : Nat) (a0 : T0) (a1 : T1) (m : Mem), hd a0 a1 m (lpk body n (a0, a1, m) K)
  | 0, a0, a1, m => h0 a0 a1 m
  | n + 1, a0, a1, m => hb a0 a1 m _ (fun a0 a1 m => go_lp2 h0 hb n a0 a1 m)
theorem go_lp3 {T0 T1 T2 τ ω : Type} {body : (T0 × T1 × T2 × Mem → Option ω) → (τ → Option ω) → T0 × T1 × T2 × Mem → Option ω} {hd : T0 → T1 → T2 → Mem → Option ω → Prop} {K : τ → Option ω}
    (h0 : ∀ (a0 : T0) (a1 : T1) (a2 : T2) (m : Mem), hd a0 a1 a2 m none) (hb : ∀ (a0 : T0) (a1 : T1) (a2 : T2) (m : Mem) (next : T0 × T1 × T2 × Mem → Option ω), (∀ (a0 : T0) (a1 : T1) (a2 : T2) (m : Mem), hd a0 a1 a2 m (next (a0, a1, a2, m))) → hd a0 a1 a2 m (body next K (a0, a1, a2, m))) :
    ∀ (n : Nat) (a0 : T0) (a1 : T1) (a2 : T2) (m : Mem), hd a0 a1 a2 m (lpk body n (a0, a1, a2, m) K)
  | 0, a0, a1, a2, m => h0 a0 a1 a2 m
  | n + 1, a0, a1, a2, m => hb a0 a1 a2 m _ (fun a0 a1 a2 m => go_lp3 h0 hb n a0 a1 a2 m)
theorem go_lp4 {T0 T1 T2 T3 τ ω : Type} {body : (T0 × T1 × T2 × T3 × Mem → Option ω) → (τ → Option ω) → T0 × T1 × T2 × T3 × Mem → Option ω} {hd : T0 → T1 → T2 → T3 → Mem → Option ω → Prop} {K : τ → Option ω}
    (h0 : ∀ (a0 : T0) (a1 : T1) (a2 : T2) (a3 : T3) (m : Mem), hd a0 a1 a2 a3 m none) (hb : ∀ (a0 : T0) (a1 : T1) (a2 : T2) (a3 : T3) (m : Mem) (next : T0 × T1 × T2 × T3 × Mem → Option ω), (∀ (a0 : T0) (a1 : T1) (a2 : T2) (a3 : T3) (m : Mem), hd a0 a1 a2 a3 m (next (a0, a1, a2, a3, m))) → hd a0 a1 a2 a3 m (body next K (a0, a1, a2, a3, m))) :
    ∀ (n : Nat) (a0 : T0) (a1 : T1) (a2 : T2) (a3 : T3) (m : Mem), hd a0 a1 a2 a3 m (lpk body n (a0, a1, a2, a3, m) K)
  | 0, a0, a1, a2, a3, m => h0 a0 a1 a2 a3 m
  | n + 1, a0, a1, a2, a3, m => hb a0 a1 a2 a3 m _ (fun a0 a1 a2 a3 m => go_lp4 h0 hb n a0 a1 a2 a3 m)
theorem go_lp5 {T0 T1 T2 T3 T4 τ ω : Type} {body : (T0 × T1 × T2 × T3 × T4 × Mem → Option ω) → (τ → Option ω) → T0 × T1 × T2 × T3 × T4 × Mem → Option ω} {hd : T0 → T1 → T2 → T3 → T4 → Mem → Option ω → Prop} {K : τ → Option ω}
    (h0 : ∀ (a0 : T0) (a1 : T1) (a2 : T2) (a3 : T3) (a4 : T4) (m : Mem), hd a0 a1 a2 a3 a4 m none) (hb : ∀ (a0 : T0) (a1 : T1) (a2 : T2) (a3 : T3) (a4 : T4) (m : Mem) (next : T0 × T1 × T2 × T3 × T4 × Mem → Option ω), (∀ (a0 : T0) (a1 : T1) (a2 : T2) (a3 : T3) (a4 : T4) (m : Mem), hd a0 a1 a2 a3 a4 m (next (a0, a1, a2, a3, a4, m))) → hd a0 a1 a2 a3 a4 m (body next K (a0, a1, a2, a3, a4, m))) :
    ∀ (n : Nat) (a0 : T0) (a1 : T1) (a2 : T2) (a3 : T3) (a4 : T4) (m : Mem), hd a0 a1 a2 a3 a4 m (lpk body n (a0, a1, a2, a3, a4, m) K)
  | 0, a0, a1, a2, a3, a4, m => h0 a0 a1 a2 a3 a4 m
  | n + 1, a0, a1, a2, a3, a4, m => hb a0 a1 a2 a3 a4 m _ (fun a0 a1 a2 a3 a4 m => go_lp5 h0 hb n a0 a1 a2 a3 a4 m)
theorem go_lp6 {T0 T1 T2 T3 T4 T5 τ ω : Type} {body : (T0 × T1 × T2 × T3 × T4 × T5 × Mem → Option ω) → (τ → Option ω) → T0 × T1 × T2 × T3 × T4 × T5 × Mem → Option ω} {hd : T0 → T1 → T2 → T3 → T4 → T5 → Mem → Option ω → Prop} {K : τ → Option ω}
    (h0 : ∀ (a0 : T0) (a1 : T1) (a2 : T2) (a3 : T3) (a4 : T4) (a5 : T5) (m : Mem), hd a0 a1 a2 a3 a4 a5 m none) (hb : ∀ (a0 : T0) (a1 : T1) (a2 : T2) (a3 : T3) (a4 : T4) (a5 : T5) (m : Mem) (next : T0 × T1 × T2 × T3 × T4 × T5 × Mem → Option ω), (∀ (a0 : T0) (a1 : T1) (a2 : T2) (a3 : T3) (a4 : T4) (a5 : T5) (m : Mem), hd a0 a1 a2 a3 a4 a5 m (next (a0, a1, a2, a3, a4, a5, m))) → hd a0 a1 a2 a3 a4 a5 m (body next K (a0, a1, a2, a3, a4, a5, m))) :
    ∀ (n : Nat) (a0 : T0) (a1 : T1) (a2 : T2) (a3 : T3) (a4 : T4) (a5 : T5) (m : Mem), hd a0 a1 a2 a3 a4 a5 m (lpk body n (a0, a1, a2, a3, a4, a5, m) K)
  | 0, a0, a1, a2, a3, a4, a5, m => h0 a0 a1 a2 a3 a4 a5 m
  | n + 1, a0, a1, a2, a3, a4, a5, m => hb a0 a1 a2 a3 a4 a5 m _ (fun a0 a1 a2 a3 a4 a5 m => go_lp6 h0 hb n a0 a1 a2 a3 a4 a5 m)
end
section
/-! ===== a method's contract ===== -/
variable {ph : Bool}
abbrev puI (x : Int32) : ASt := [.inl x]
abbrev puL (x : Int64) : ASt := [.inr (.inl x)]
abbrev puV (_ : Unit) : ASt := []
def rmd (d : Nat) : Room := { frames := d, cells := 0, slots := 0, locals := 40 * d }
def McQ (Z : ZT) (pu : ASt) (m' : Mem) : Array Value → State → Outcome → State → Prop := fun _ st oc t =>
  oc = .returned (pu.map (cv (zA Z))).head? ∧ va_P (zC Z, zI Z) vwCl (wsM (zV Z) (zA Z) (zk Z) m') t.heap ∧ va_F (frA (zV Z) (zA Z)) st t
def McP (Z : ZT) (as : ASt) (m : Mem) : Array Value → State → Prop := va_Pc (as.map (cv (zA Z))) (fun U => va_P (zC Z, zI Z) vwCl (wsM (zV Z) (zA Z) (zk Z) m) U.heap ∧ va_K (zC Z, zI Z) vwCl (tysM (zk Z)) U ∧ (∀ w ∈ nestC, va_Nw w U) ∧ injA (zV Z) (zA Z) ∧ SX Z U)
/-- y, called with 'as' where the memory is m, returns what o says -/
def Ctr (Z : ZT) (y : MethodName) (cc : ByteArray) (maxL : Nat) (ret : Option FieldType) (d : Nat) {ρ : Type} (pu : ρ → ASt) (as : ASt) (m : Mem) (o : Option (ρ × Mem)) : Prop :=
  okS (zV Z) as → ∀ r m', o = some (r, m') → Met (zl Z) y (.code y cc maxL ret :: wsC) (rmd d) (McP Z as m) (McQ Z (pu r) m') 0 0 (frA (zV Z) (zA Z))
theorem nest_on {w : Cond} (h : w ∈ nestC) : w.onTables = true ∧ ∃ a i b hh, w = .methodLinkNest a i b hh := by
  have h2 := (List.mem_filter.mp h).2
  cases w <;> first | exact ⟨rfl, _, _, _, _, rfl⟩ | cases h2
theorem SX.moved {Z : ZT} {u U : State} (hvm : u.vm.Alike U.vm) (hh : U.heap = u.heap) (h : SX Z u) : SX Z U := by
  obtain ⟨h1, h2, h3⟩ := h
  refine ⟨?_, by rw [hh]; exact h2, h3⟩
  rw [hh]
  exact h1.moved hvm
theorem McP_blind {Z : ZT} {as : ASt} {m : Mem} : FrameBlind (McP Z as m) := by
  intro a U g mk q
  obtain ⟨q0, q1, q2, q3, q4, q5⟩ := q
  exact ⟨q0, q1, va_K.moved (u := U) (U := U.calling g mk a) (Vm.Alike.refl U.vm) q2, fun w hw => va_Nw.same (u := U) (U := U.calling g mk a) (nest_on hw).1 rfl (q3 w hw), q4, SX.moved (u := U) (U := U.calling g mk a) (Vm.Alike.refl U.vm) rfl q5⟩
theorem McP_of {s U : State} {Z : ZT} {as : ASt} {m : Mem} {H : Heap} {locs : List Loc} (hP : va_P (zC Z, zI Z) vwCl (wsM (zV Z) (zA Z) (zk Z) m) H) (hK : va_K (zC Z, zI Z) vwCl (tysM (zk Z)) s) (hN : ∀ w ∈ nestC, va_Nw w s) (hA : injA (zV Z) (zA Z) ∧ SX Z s) (hSt : va_S (frA (zV Z) (zA Z)) s.heap H locs) (hU : U.heap = H) (hW : s.WarmedH U.vm) {a : Array Value} (ha : a = (as.map (cv (zA Z))).toArray) : McP Z as m a U := by
  refine ⟨ha, by rw [hU]; exact hP, va_K.moved hW.alike hK, fun w hw => ?_, hA.1, ?_⟩
  · obtain ⟨-, a, i, b, hh, rfl⟩ := nest_on hw
    exact va_Nw.warmM hW (hN _ hw)
  · obtain ⟨h1, h2, h3⟩ := hA.2
    refine ⟨?_, by rw [hU]; exact Nat.lt_of_lt_of_le h2 hSt.1, h3⟩
    rw [hU]
    exact (h1.kept (hSt.2.1 _ h2 h3)).moved hW.alike
theorem wsC_good {w : Cond} (h : w ∈ wsC) : (w.onTables && w.keeps) = true ∨ ∃ ty, w = .arrayClass ty := good_of_word (List.mem_filter.mp h).2
/-- the words of a call: the callee's code, its class, how it's linked -/
def vOk (own : String) (index : Nat) (C : String) (y : MethodName) (bytes : ByteArray) (maxL : Nat) (ret : Option FieldType) (n : Nat) : Prop :=
  Cond.methodLink own index y ∈ wsC ∧ Cond.instanceMethod y ∈ wsC ∧ Cond.selects C y y ∈ wsC ∧ Cond.initialized C ∈ wsC ∧ Cond.code y bytes maxL ret ∈ wsC ∧ (y.cls = C ∧ y.cls ≠ "java/lang/invoke/MethodHandle" ∧ y.cls ≠ "java/lang/invoke/VarHandle" ∧ (parseMethodDescriptor y.desc).map (fun d => d.parameters.length) = some n)
def sOk (own : String) (index : Nat) (y : MethodName) (bytes : ByteArray) (maxL : Nat) (ret : Option FieldType) (n : Nat) : Prop :=
  Cond.methodLink own index y ∈ wsC ∧ Cond.static y ∈ wsC ∧ Cond.initialized y.cls ∈ wsC ∧ Cond.code y bytes maxL ret ∈ wsC ∧ (y.cls ≠ "java/lang/invoke/MethodHandle" ∧ y.cls ≠ "java/lang/invoke/VarHandle" ∧ (parseMethodDescriptor y.desc).map (fun d => d.parameters.length) = some n)
def nOk (own : String) (index : Nat) (host : String) (y : MethodName) (bytes : ByteArray) (maxL : Nat) (ret : Option FieldType) (n : Nat) : Prop :=
  Cond.methodLinkNest own index y host ∈ nestC ∧ Cond.static y ∈ wsC ∧ Cond.initialized y.cls ∈ wsC ∧ Cond.code y bytes maxL ret ∈ wsC ∧ (y.cls ≠ "java/lang/invoke/MethodHandle" ∧ y.cls ≠ "java/lang/invoke/VarHandle" ∧ (parseMethodDescriptor y.desc).map (fun d => d.parameters.length) = some n)
theorem good_ws {y : MethodName} {bytes : ByteArray} {maxL : Nat} {ret : Option FieldType} (h : Cond.code y bytes maxL ret ∈ wsC) : GoodIn wsC (.code y bytes maxL ret :: wsC) := by
  intro w hw
  rcases List.mem_cons.mp hw with rfl | hw
  · exact ⟨h, wsC_good h⟩
  · exact ⟨hw, wsC_good hw⟩
def catS : ASt → Nat
  | [] => 0
  | .inr (.inl _) :: r => 2 + catS r
  | _ :: r => 1 + catS r
theorem catS_eq {A : AR → Nat} : ∀ (st : ASt), ((st.map (cv A)).map fun v => v.category).sum = catS st
  | [] => rfl
  | .inl x :: r => by simp only [List.map_cons, List.sum_cons, catS_eq r]; rfl
  | .inr (.inl x) :: r => by simp only [List.map_cons, List.sum_cons, catS_eq r]; rfl
  | .inr (.inr x) :: r => by simp only [List.map_cons, List.sum_cons, catS_eq r]; rfl
theorem gg_run {X : XT} {Q : State → Prop} {pc : Nat} {ls : ALs} {st rest pu : ASt} {m' : Mem} {a : Array Value} {H : Heap} {locs : List Loc} {lsa : Array Slot}
    (hr : va_Run (xp X) (xl X) (xe X) (xR X) (xs X) (xm X) (xa X) (xb X) (xM X) (xc X) H locs (xcl X) (xsl X) 0 0 (F0 (xm X) pc lsa (st.map (cv (xA X)))) (rest.map (cv (xA X))) (McQ (xZ X) pu m' a) (frA (xV X) (xA X)))
    (hS : va_S (frA (xV X) (xA X)) (xs X).heap H locs) (hl : lhas (xA X) (xn X) lsa ls) (hpu : pu.length ≤ 1) (hok : okS (xV X) (pu ++ rest)) (hL : okL (xV X) ls) (kk : GG X Q (pc + 3) ls (pu ++ rest) m') : xW X Q H locs (F0 (xm X) pc lsa (st.map (cv (xA X)))) := by
  intro T hT Xs
  obtain ⟨v, st₀, t, T', L, h0, X', hLf, e1, e2, ⟨hv, hP, hz, hk⟩, step⟩ := hr T hT Xs
  cases hv
  rw [h0] at hz hk
  have hst : (pu.map (cv (xA X))).head?.toList ++ rest.map (cv (xA X)) = (pu ++ rest).map (cv (xA X)) := by
    match pu, hpu with
    | [], _ => rfl
    | [x], _ => rfl
  obtain ⟨t2, a1, b1⟩ := kk hok hL T'.heap (locs ++ L) lsa (by rw [e1]; exact hP)
    ⟨Nat.le_trans hS.1 (by rw [e1]; exact hz), fun q h1 h2 => by rw [e1, hk q (Nat.lt_of_lt_of_le h1 hS.1) h2]; exact hS.2.1 q h1 h2, fun q hq => by
      rcases List.mem_append.mp hq with h | h
      · exact hS.2.2 q h
      · exact hLf q h⟩ hl T' rfl X'
  refine ⟨t2, step t2 ?_, b1⟩
  rw [← hst] at a1
  exact a1
section GCALL
variable {X : XT} {cc : ByteArray} {P : PT} {ρ σ : Type} {E : σ → Mem → State → Prop} {pc index d maxL n : Nat} {ls : ALs} {m : Mem} {rest as : ASt} {pu : ρ → ASt} {oy : Option (ρ × Mem)} {k : ρ → Mem → Option (σ × Mem)} {y : MethodName} {bytes : ByteArray} {ret : Option FieldType} {C host : String}
theorem bnd_eq {oy : Option (ρ × Mem)} {k : ρ → Mem → Option (σ × Mem)} {q : σ × Mem} (h : bnd oy k = some q) : ∃ r m1, oy = some (r, m1) ∧ k r m1 = some q := by
  cases oy with
  | none => cases h
  | some z => exact ⟨z.1, z.2, rfl, h⟩
theorem ok_app {a b : ASt} (ha : okS ph a) (hb : okS ph b) : okS ph (a ++ b) := fun v hv => (List.mem_append.mp hv).elim (ha v) (hb v)
theorem ok_appl {a b : ASt} (h : okS ph (a ++ b)) : okS ph a := fun v hv => h v (List.mem_append_left _ hv)
theorem ok_appr {a b : ASt} (h : okS ph (a ++ b)) : okS ph b := fun v hv => h v (List.mem_append_right _ hv)
theorem go_callV (hC : GC X cc P) {t i ci nf : Nat} {cz : vw_C} (hct : Ctr (xZ X) y bytes maxL ret d pu (.inr (.inr (t, i)) :: as) m oy) (hd : decode cc pc = .ok (.invokevirtual index, 3)) (hcz : vwCl[ci]? = some cz) (hsh : sh_cls t = some (ci, nf)) (hw : vOk P.1 index cz.1 y bytes maxL ret n) (hn : as.length = n)
    (hR : d + 1 ≤ (xR X).frames ∧ 8 + (maxL + 11) + 40 * d ≤ (xR X).locals) (hcl : xcl X ≤ (xR X).cells ∧ xsl X ≤ (xR X).slots) (hcat : catS rest ≤ 8) (hpu : ∀ r, (pu r).length ≤ 1 ∧ okS (xV X) (pu r)) {st : ASt} (hst : st = as.reverse ++ .inr (.inr (t, i)) :: rest)
    (kk : ∀ r m1, oy = some (r, m1) → Go X E (pc + 3) ls (pu r ++ rest) m1 (k r m1)) : Go X E pc ls st m (bnd oy k) := by
  intro q m2 h hS hL H locs lsa hP hSt hl
  obtain ⟨r, m1, e1, e2⟩ := bnd_eq h
  subst hst
  obtain ⟨w1, w2, w3, w4, w5, w6⟩ := hw
  have hrest := ok_appr hS
  have hq : (t, i) ∈ vrefs (xV X) := ok_cls (okS_cons.mp hrest).1 hsh
  have has : okS (xV X) (.inr (.inr (t, i)) :: as) := okT (okS_cons.mp hrest).1 (fun v hv => ok_appl hS v (List.mem_reverse.mpr hv))
  obtain ⟨q0, hq0, hwm⟩ := wsM_at (ph := xV X) (A := xA X) (cs := xk X) (m := m) hq
  rw [cellOf_obj (k := 0) hsh] at hwm
  have hts := hC.2.2.2.2.1
  have hG : GoodIn wsC (wsV P.1 index cz.1 y (.code y bytes maxL ret :: wsC)) := by
    intro w hw
    unfold wsV at hw
    rcases List.mem_append.mp hw with h1 | h1
    · simp only [List.mem_cons, List.not_mem_nil, or_false] at h1
      rcases h1 with rfl | rfl | rfl | rfl
      · exact ⟨w1, wsC_good w1⟩
      · exact ⟨w2, wsC_good w2⟩
      · exact ⟨w3, wsC_good w3⟩
      · exact ⟨w4, wsC_good w4⟩
    · exact good_ws w5 w h1
  refine gg_run (m' := m1) (a := (Value.ref (xA X (t, i)) :: as.map (cv (xA X))).toArray) (va_runV (As := as.map (cv (xA X))) (b := xA X (t, i)) ⟨hC.1, hC.2.1, hC.2.2.1, hC.2.2.2.1, hts⟩ (hct has r m1 e1) (cwV n hts hG rfl rfl rfl w6 hR) ⟨McP_blind, va_recv hC.2.2.2.2.2.2.1 hP hcz hwm, fun U hU hW => McP_of hP hC.2.2.2.2.2.2.1 hC.2.2.2.2.2.1 hC.2.2.2.2.2.2.2.1 hSt hU hW rfl⟩ rfl (by simpa using hn) hl.1 ?_ (lv_room (by rw [catS_eq]; exact hcat)) hd hcl) hSt hl (hpu r).1 (ok_app (hpu r).2 (ok1 hrest)) hL (kk r m1 e1 q m2 e2)
  simp [cv]
theorem go_callS (hC : GC X cc P) (hct : Ctr (xZ X) y bytes maxL ret d pu as m oy) (hd : decode cc pc = .ok (.invokestatic index, 3)) (hw : sOk P.1 index y bytes maxL ret n) (hn : as.length = n)
    (hR : d + 1 ≤ (xR X).frames ∧ 8 + (maxL + 11) + 40 * d ≤ (xR X).locals) (hcl : xcl X ≤ (xR X).cells ∧ xsl X ≤ (xR X).slots) (hcat : catS rest ≤ 8) (hpu : ∀ r, (pu r).length ≤ 1 ∧ okS (xV X) (pu r)) {st : ASt} (hst : st = as.reverse ++ rest)
    (kk : ∀ r m1, oy = some (r, m1) → Go X E (pc + 3) ls (pu r ++ rest) m1 (k r m1)) : Go X E pc ls st m (bnd oy k) := by
  intro q m2 h hS hL H locs lsa hP hSt hl
  obtain ⟨r, m1, e1, e2⟩ := bnd_eq h
  subst hst
  obtain ⟨w1, w2, w3, w4, w5⟩ := hw
  have hrest := ok_appr hS
  have has : okS (xV X) as := fun v hv => ok_appl hS v (List.mem_reverse.mpr hv)
  have hts := hC.2.2.2.2.1
  refine gg_run (m' := m1) (a := (as.map (cv (xA X))).toArray) (va_runS (As := as.map (cv (xA X))) ⟨hC.1, hC.2.1, hC.2.2.1, hC.2.2.2.1, hts⟩ (hct has r m1 e1) ⟨callB_of n hts (good_ws w4) rfl rfl rfl (hts _ w3) (hts _ w1) w5 hR, hts _ w2⟩ ⟨McP_blind, fun U hU hW => McP_of hP hC.2.2.2.2.2.2.1 hC.2.2.2.2.2.1 hC.2.2.2.2.2.2.2.1 hSt hU hW rfl⟩ rfl (by simpa using hn) hl.1 ?_ (lv_room (by rw [catS_eq]; exact hcat)) hd hcl) hSt hl (hpu r).1 (ok_app (hpu r).2 hrest) hL (kk r m1 e1 q m2 e2)
  simp [cv]
theorem go_callN (hC : GC X cc P) (hct : Ctr (xZ X) y bytes maxL ret d pu as m oy) (hd : decode cc pc = .ok (.invokestatic index, 3)) (hw : nOk P.1 index host y bytes maxL ret n) (hn : as.length = n)
    (hR : d + 1 ≤ (xR X).frames ∧ 8 + (maxL + 11) + 40 * d ≤ (xR X).locals) (hcl : xcl X ≤ (xR X).cells ∧ xsl X ≤ (xR X).slots) (hcat : catS rest ≤ 8) (hpu : ∀ r, (pu r).length ≤ 1 ∧ okS (xV X) (pu r)) {st : ASt} (hst : st = as.reverse ++ rest)
    (kk : ∀ r m1, oy = some (r, m1) → Go X E (pc + 3) ls (pu r ++ rest) m1 (k r m1)) : Go X E pc ls st m (bnd oy k) := by
  intro q m2 h hS hL H locs lsa hP hSt hl
  obtain ⟨r, m1, e1, e2⟩ := bnd_eq h
  subst hst
  obtain ⟨w1, w2, w3, w4, w5⟩ := hw
  have hrest := ok_appr hS
  have has : okS (xV X) as := fun v hv => ok_appl hS v (List.mem_reverse.mpr hv)
  have hts := hC.2.2.2.2.1
  refine gg_run (m' := m1) (a := (as.map (cv (xA X))).toArray) (va_runSN (As := as.map (cv (xA X))) ⟨hC.1, hC.2.1, hC.2.2.1, hC.2.2.2.1, hts⟩ (hct has r m1 e1) ⟨va_cnB n hts (good_ws w4) rfl rfl rfl (hC.2.2.2.2.2.1 _ w1) (hts _ w3) w5 hR, hts _ w2, trivial⟩ ⟨McP_blind, fun U hU hW => McP_of hP hC.2.2.2.2.2.2.1 hC.2.2.2.2.2.1 hC.2.2.2.2.2.2.2.1 hSt hU hW rfl⟩ rfl (by simpa using hn) hl.1 ?_ (lv_room (by rw [catS_eq]; exact hcat)) hd hcl) hSt hl (hpu r).1 (ok_app (hpu r).2 hrest) hL (kk r m1 e1 q m2 e2)
  simp [cv]
end GCALL
/-! ===== a method's end, its start ===== -/
def Em (X : XT) {ρ : Type} (pu : ρ → ASt) (r : ρ) (m' : Mem) : State → Prop := MQ (xb X) (McQ (xZ X) (pu r) m') (xa X) (xs X) (xcl X) (xsl X) (frA (xV X) (xA X))
section GRET
variable {X : XT} {cc : ByteArray} {P : PT} {pc : Nat} {ls : ALs} {m : Mem}
theorem go_iret (hC : GC X cc P) (hr : (xM X).sig.returnType = some .int) {v : Int32} (hd : decode cc pc = .ok (.ireturn, 1)) : Go X (Em X puI) pc ls [.inl v] m (some (v, m)) := by
  intro r m2 h hS hL H locs lsa hP hSt hl
  cases h
  exact W.iret (v := v) hC.1 hC.2.1 hr (fun t ht hW => ⟨rfl, by rw [ht]; exact hP, hSt.F ht⟩) hSt.2.2 hd hC.2.2.2.2.2.2.2.2.1
theorem go_zret (hC : GC X cc P) (hr : (xM X).sig.returnType = some .boolean) {v : Int32} (hv : v = 0 ∨ v = 1) (hd : decode cc pc = .ok (.ireturn, 1)) : Go X (Em X puI) pc ls [.inl v] m (some (v, m)) := by
  intro r m2 h hS hL H locs lsa hP hSt hl
  cases h
  refine W.zret (v := v) (ty := .boolean) hC.1 hC.2.1 hr ?_ (fun t ht hW => ⟨rfl, by rw [ht]; exact hP, hSt.F ht⟩) hSt.2.2 hd hC.2.2.2.2.2.2.2.2.1
  rcases hv with rfl | rfl <;> rfl
theorem go_zretG (hC : GC X cc P) (hr : (xM X).sig.returnType = some .boolean) {v : Int32} (hd : decode cc pc = .ok (.ireturn, 1)) : Go X (Em X puI) pc ls [.inl v] m (if v = 0 ∨ v = 1 then some (v, m) else none) := by
  intro r m2 h
  split at h
  case isFalse => cases h
  rename_i hv
  exact go_zret hC hr hv hd r m2 h
theorem go_lret (hC : GC X cc P) (hr : (xM X).sig.returnType = some .long) {v : Int64} (hd : decode cc pc = .ok (.lreturn, 1)) : Go X (Em X puL) pc ls [.inr (.inl v)] m (some (v, m)) := by
  intro r m2 h hS hL H locs lsa hP hSt hl
  cases h
  exact W.lret (v := v) hC.1 hC.2.1 hr (fun t ht hW => ⟨rfl, by rw [ht]; exact hP, hSt.F ht⟩) hSt.2.2 hd hC.2.2.2.2.2.2.2.2.1
theorem go_vret (hC : GC X cc P) (hr : (xM X).sig.returnType = none) (hd : decode cc pc = .ok (.return_, 1)) : Go X (Em X puV) pc ls [] m (some ((), m)) := by
  intro r m2 h hS hL H locs lsa hP hSt hl
  cases h
  exact W.vret hC.1 hC.2.1 hr (fun t ht hW => ⟨rfl, by rw [ht]; exact hP, hSt.F ht⟩) hSt.2.2 hd hC.2.2.2.2.2.2.2.2.1
end GRET
def entL : ASt → ALs
  | [] => []
  | .inr (.inl x) :: r => some (.inr (.inl x)) :: none :: entL r
  | v :: r => some v :: entL r
def padL (n : Nat) (l : ALs) : ALs := l ++ List.replicate (n - l.length) none
theorem entL_len {A : AR → Nat} : ∀ (as : ASt), (lg_sl (as.map (cv A))).length = (entL as).length
  | [] => rfl
  | .inl x :: r => by have h := entL_len (A := A) r; simp only [lg_sl, List.map_cons, List.flatMap_cons, entL, List.length_append, List.length_cons] at h ⊢; rw [h]; simp [cv, Value.category]; omega
  | .inr (.inl x) :: r => by have h := entL_len (A := A) r; simp only [lg_sl, List.map_cons, List.flatMap_cons, entL, List.length_append, List.length_cons] at h ⊢; rw [h]; simp [cv, Value.category]; omega
  | .inr (.inr x) :: r => by have h := entL_len (A := A) r; simp only [lg_sl, List.map_cons, List.flatMap_cons, entL, List.length_append, List.length_cons] at h ⊢; rw [h]; simp [cv, Value.category]; omega
theorem entL_at {A : AR → Nat} : ∀ (as : ASt) (i k : Nat) (v : AV), (entL as)[k]? = some (some v) → (i + k, cv A v) ∈ lv_args i (as.map (cv A))
  | [], i, k, v, h => by simp [entL] at h
  | .inl x :: r, i, k, v, h => by
    simp only [List.map_cons, lv_args]
    cases k with
    | zero => simp only [entL, List.getElem?_cons_zero] at h; cases h; exact List.mem_cons_self
    | succ k => simp only [entL, List.getElem?_cons_succ] at h; have := entL_at (A := A) r (i + 1) k v h; refine List.mem_cons_of_mem _ ?_; simpa [cv, Value.category, Nat.add_assoc, Nat.add_comm 1 k] using this
  | .inr (.inl x) :: r, i, k, v, h => by
    simp only [List.map_cons, lv_args]
    cases k with
    | zero => simp only [entL, List.getElem?_cons_zero] at h; cases h; exact List.mem_cons_self
    | succ k => cases k with
      | zero => simp [entL] at h
      | succ k => simp only [entL, List.getElem?_cons_succ] at h; have := entL_at (A := A) r (i + 2) k v h; refine List.mem_cons_of_mem _ ?_; simpa [cv, Value.category, Nat.add_assoc, Nat.add_comm 2 k] using this
  | .inr (.inr x) :: r, i, k, v, h => by
    simp only [List.map_cons, lv_args]
    cases k with
    | zero => simp only [entL, List.getElem?_cons_zero] at h; cases h; exact List.mem_cons_self
    | succ k => simp only [entL, List.getElem?_cons_succ] at h; have := entL_at (A := A) r (i + 1) k v h; refine List.mem_cons_of_mem _ ?_; simpa [cv, Value.category, Nat.add_assoc, Nat.add_comm 1 k] using this
theorem okL_ent : ∀ (as : ASt), okS ph as → okL ph (entL as)
  | [], _ => fun v h => by cases h
  | .inl x :: r, h => fun v hv => by
    rcases List.mem_cons.mp hv with h1 | h1
    · cases h1; trivial
    · exact okL_ent r (ok1 h) v h1
  | .inr (.inl x) :: r, h => fun v hv => by
    rcases List.mem_cons.mp hv with h1 | h1
    · cases h1; trivial
    · rcases List.mem_cons.mp h1 with h2 | h2
      · cases h2
      · exact okL_ent r (ok1 h) v h2
  | .inr (.inr x) :: r, h => fun v hv => by
    rcases List.mem_cons.mp hv with h1 | h1
    · cases h1; exact (okS_cons.mp h).1
    · exact okL_ent r (ok1 h) v h1
theorem ctr_of {Z : ZT} {y : MethodName} {cc : ByteArray} {maxL d : Nat} {ret : Option FieldType} {ρ : Type} {pu : ρ → ASt} {as : ASt} {m : Mem} {o : Option (ρ × Mem)} {P : PT} {ls : ALs}
    (hy : plainName y.cls = true) (hown : P.1 = y.cls) (hP : ptOk P) (hlen : Nat.ble (entL as).length maxL = true) (hls : padL maxL (entL as) = ls)
    (body : ∀ X : XT, GC X cc P → xZ X = Z → xR X = rmd d → xcl X = 0 → xsl X = 0 → (xM X).sig.returnType = ret → Go X (Em X pu) 0 ls [] m o) : Ctr Z y cc maxL ret d pu as m o := by
  intro hok r m' ho
  refine Met.ofW (cc := cc) (maxL := maxL) (ret := ret) hy rfl ?_
  intro p e s mi args below meth c s₁ B hml hv
  obtain ⟨rfl, hPw, hK, hN, hA⟩ := hv
  obtain ⟨l, A, dC, dI, cs, ph, L, xsc⟩ := Z
  have hts := atoms_spec (ws := .code y cc maxL ret :: wsC) B.pre
  have hfc : s.vm.findClass y.cls = some mi.cls := findClass_of_methodNamed B.named
  rw [lg_entry_eq]
  have hle : (lg_sl (as.map (cv A))).length ≤ maxL := by rw [entL_len]; exact Nat.le_of_ble_eq_true hlen
  have hl := lv_entry (as.map (cv A)) (n := maxL) hle
  have hlh : lhas A maxL ((lg_sl (as.map (cv A)) ++ List.replicate (maxL - (lg_sl (as.map (cv A))).length) Slot.unset).toArray) ls := by
    subst hls
    refine ⟨hl.1, ?_, hl.2.1, fun k v hk => ?_⟩
    · have := Nat.le_of_ble_eq_true hlen
      simp [padL]; omega
    · unfold padL at hk
      by_cases h1 : k < (entL as).length
      · rw [List.getElem?_append_left h1] at hk
        have := entL_at (A := A) as 0 k v hk
        rw [Nat.zero_add] at this
        exact hl.2.2 _ this
      · rw [List.getElem?_append_right (Nat.not_lt.mp h1), List.getElem?_replicate] at hk
        split at hk <;> cases hk
  have hokl : okL ph ls := by
    subst hls
    intro v hv
    rcases List.mem_append.mp hv with h1 | h1
    · exact okL_ent as hok v h1
    · exact absurd (List.eq_of_mem_replicate h1) (by intro q; cases q)
  have hgc : GC (p, e, rmd d, s, mi, (as.map (cv A)).toArray, below, meth, c, (l, A, dC, dI, cs, ph, L, xsc), 0, 0, maxL) cc P :=
    ⟨B.exec, B.bytes, hml, by show s.vm.findClass P.1 = _; rw [hown]; exact hfc, fun w hw => hts w (List.mem_cons_of_mem _ hw), hN, hK, hA, B.notSynchronized, hP⟩
  exact body _ hgc rfl rfl rfl rfl B.returns r m' ho (fun v h => by cases h) hokl s.heap [] _ hPw va_S.rf hlh
/-! ===== what every piece of a method takes ===== -/
def MX (X : XT) (cc : ByteArray) (P : PT) (D : Nat) (ret : Option FieldType) : Prop := GC X cc P ∧ xR X = rmd D ∧ xcl X = 0 ∧ xsl X = 0 ∧ (xM X).sig.returnType = ret
theorem MX.room {X : XT} {cc : ByteArray} {P : PT} {D : Nat} {ret : Option FieldType} (h : MX X cc P D ret) {d maxL : Nat} (h1 : d + 1 ≤ D) (h2 : maxL ≤ 21) : d + 1 ≤ (xR X).frames ∧ 8 + (maxL + 11) + 40 * d ≤ (xR X).locals := by
  rw [h.2.1]
  show d + 1 ≤ D ∧ 8 + (maxL + 11) + 40 * d ≤ 40 * D
  omega
theorem MX.cl {X : XT} {cc : ByteArray} {P : PT} {D : Nat} {ret : Option FieldType} (h : MX X cc P D ret) : xcl X ≤ (xR X).cells ∧ xsl X ≤ (xR X).slots := by
  rw [h.2.2.1, h.2.2.2.1]
  exact ⟨Nat.zero_le _, Nat.zero_le _⟩
theorem puI_ok : ∀ r, (puI r).length ≤ 1 ∧ okS ph (puI r) := fun r => ⟨Nat.le_refl _, fun v hv => by rw [List.mem_singleton.mp hv]; trivial⟩
theorem puL_ok : ∀ r, (puL r).length ≤ 1 ∧ okS ph (puL r) := fun r => ⟨Nat.le_refl _, fun v hv => by rw [List.mem_singleton.mp hv]; trivial⟩
theorem puV_ok : ∀ r, (puV r).length ≤ 1 ∧ okS ph (puV r) := fun r => ⟨Nat.zero_le _, fun v hv => by cases hv⟩
theorem wsC_at {w : Cond} (i : Nat) (h : lw_tbl[i]? = some w) (hg : goodWord w = true) : w ∈ wsC := List.mem_filter.mpr ⟨List.mem_of_getElem? h, hg⟩
/-! ===== the JDK's own: max, min ===== -/
section GJ
variable {X : XT} {cc : ByteArray} {P : PT} {ρ : Type} {E : ρ → Mem → State → Prop} {pc D : Nat} {ret : Option FieldType} {ls : ALs} {m : Mem} {o : Option (ρ × Mem)} {rest : ASt} {index : Nat}
theorem go_max (h : MX X cc P D ret) (hD : 1 ≤ D) {x y : Int32} (hd : decode cc pc = .ok (.invokestatic index, 3)) (w1 : Cond.methodLink P.1 index Lib.Math.max.name ∈ wsC) (w2 : Cond.static Lib.Math.max.name ∈ wsC) (w3 : Cond.initialized "java/lang/Math" ∈ wsC) (w4 : Cond.code Lib.Math.max.name Lib.Math.max.code 2 (some .int) ∈ wsC) (hcat : catS rest ≤ 8)
    (kk : Go X E (pc + 3) ls (.inl (if x < y then y else x) :: rest) m o) : Go X E pc ls (.inl y :: .inl x :: rest) m o := by
  intro r m2 ho hS hL H locs lsa hP hSt hl
  have hts := h.1.2.2.2.2.1
  refine va_mmax h.1.1 h.1.2.1 (h.1.2.2.1.trans hl.1.symm) h.1.2.2.2.1 (hts _ w1) (hts _ w2) (hts _ w3) (hts _ w4) ?_ ?_ h.cl.1 h.cl.2 hd (kk r m2 ho (okT trivial (ok2 hS)) hL H locs lsa hP hSt hl)
  · rw [h.2.1]; exact hD
  · rw [h.2.1, catS_eq]; show catS rest + 13 ≤ 40 * D; omega
theorem go_min (h : MX X cc P D ret) (hD : 1 ≤ D) {x y : Int32} (hd : decode cc pc = .ok (.invokestatic index, 3)) (w1 : Cond.methodLink P.1 index Lib.Math.min.name ∈ wsC) (w2 : Cond.static Lib.Math.min.name ∈ wsC) (w3 : Cond.initialized "java/lang/Math" ∈ wsC) (w4 : Cond.code Lib.Math.min.name Lib.Math.min.code 2 (some .int) ∈ wsC) (hcat : catS rest ≤ 8)
    (kk : Go X E (pc + 3) ls (.inl (if y < x then y else x) :: rest) m o) : Go X E pc ls (.inl y :: .inl x :: rest) m o := by
  intro r m2 ho hS hL H locs lsa hP hSt hl
  have hts := h.1.2.2.2.2.1
  refine va_mmin h.1.1 h.1.2.1 (h.1.2.2.1.trans hl.1.symm) h.1.2.2.2.1 (hts _ w1) (hts _ w2) (hts _ w3) (hts _ w4) ?_ ?_ h.cl.1 h.cl.2 hd (kk r m2 ho (okT trivial (ok2 hS)) hL H locs lsa hP hSt hl)
  · rw [h.2.1]; exact hD
  · rw [h.2.1, catS_eq]; show catS rest + 13 ≤ 40 * D; omega
end GJ
/-! ===== switches ===== -/
section GSW
variable {X : XT} {cc : ByteArray} {P : PT} {ρ : Type} {E : ρ → Mem → State → Prop} {pc len : Nat} {ls : ALs} {m : Mem} {o : Option (ρ × Mem)} {rest : ASt} {x : Int32}
theorem go_tsIn (hC : GC X cc P) {dflt lo hi off : Int} {offs : Array Int} (v : Int32) (tgt : Nat) (hx : x = v) (hd : decode cc pc = .ok (.tableswitch dflt lo hi offs, len)) (h1 : ¬ v.toInt < lo ∧ ¬ hi < v.toInt) (ho : offs[(v.toInt - lo).toNat]? = some off) (ht : (pc : Int) + off = (tgt : Int)) (kk : Go X E tgt ls rest m o) : Go X E pc ls (.inl x :: rest) m o := by
  intro r m2 h hS hL H locs lsa hP hSt hl
  subst hx
  exact lv_tableIn hC.1 hC.2.1 hd h1.1 h1.2 ho ht (kk r m2 h (ok1 hS) hL H locs lsa hP hSt hl)
theorem sw_out {x : Int32} {lo hi : Int} {n : Nat} (hn : hi < lo + n) (h : ∀ j : Nat, j < n → ¬ x = Int32.ofInt (lo + j)) : x.toInt < lo ∨ hi < x.toInt := by
  by_cases h1 : x.toInt < lo
  · exact Or.inl h1
  by_cases h2 : hi < x.toInt
  · exact Or.inr h2
  refine absurd ?_ (h (x.toInt - lo).toNat (by omega))
  rw [show lo + ((x.toInt - lo).toNat : Int) = x.toInt by omega, Int32.ofInt_toInt]
theorem go_tsOut (hC : GC X cc P) {dflt lo hi : Int} {offs : Array Int} (tgt : Nat) (hd : decode cc pc = .ok (.tableswitch dflt lo hi offs, len)) (h1 : x.toInt < lo ∨ hi < x.toInt) (ht : (pc : Int) + dflt = (tgt : Int)) (kk : Go X E tgt ls rest m o) : Go X E pc ls (.inl x :: rest) m o := by
  intro r m2 h hS hL H locs lsa hP hSt hl
  exact lv_tableOut hC.1 hC.2.1 hd h1 ht (kk r m2 h (ok1 hS) hL H locs lsa hP hSt hl)
theorem go_ls (hC : GC X cc P) {dflt off : Int} {ps : Array (Int × Int)} (tgt : Nat) (hd : decode cc pc = .ok (.lookupswitch dflt ps, len)) (hp : (ps.toList.zip (ps.toList.drop 1)).all (fun (a, next) => a.1 < next.1) = true) (ho : Op.lookupswitch.offset ps.toList dflt x.toInt = off) (ht : (pc : Int) + off = (tgt : Int)) (kk : Go X E tgt ls rest m o) : Go X E pc ls (.inl x :: rest) m o := by
  intro r m2 h hS hL H locs lsa hP hSt hl
  exact lv_lookup hC.1 hC.2.1 hd hp ho ht (kk r m2 h (ok1 hS) hL H locs lsa hP hSt hl)
theorem go_lsIn (hC : GC X cc P) {dflt off : Int} {ps : Array (Int × Int)} (v : Int32) (tgt : Nat) (hx : x = v) (hd : decode cc pc = .ok (.lookupswitch dflt ps, len)) (hp : (ps.toList.zip (ps.toList.drop 1)).all (fun (a, next) => a.1 < next.1) = true) (ho : Op.lookupswitch.offset ps.toList dflt v.toInt = off) (ht : (pc : Int) + off = (tgt : Int)) (kk : Go X E tgt ls rest m o) : Go X E pc ls (.inl x :: rest) m o := by
  subst hx
  exact go_ls hC tgt hd hp ho ht kk
theorem toInt_ne {x v : Int32} (h : ¬ x = v) : ¬ x.toInt = v.toInt := fun q => h (Int32.toInt_inj.mp q)
end GSW
/-! ===== the script ===== -/
section GSC
variable {X : XT} {cc : ByteArray} {P : PT} {ρ : Type} {E : ρ → Mem → State → Prop} {pc : Nat} {ls : ALs} {m : Mem} {o : Option (ρ × Mem)} {rest : ASt}
theorem go_slen (hC : GC X cc P) (hd : decode cc pc = .ok (.arraylength, 1)) (kk : Go X E (pc + 1) ls (.inl (Int32.ofNat (xL X)) :: rest) m o) : Go X E pc ls (.inr (.inr (60, 0)) :: rest) m o := by
  intro r m2 ho hS hL H locs lsa hP hSt hl
  have h := hC.2.2.2.2.2.2.2.1.2
  exact va_slen hC.1 hC.2.1 h.1 h.2.1 h.2.2 hSt hd (kk r m2 ho (okT trivial (ok1 hS)) hL H locs lsa hP hSt hl)
theorem go_sld (hC : GC X cc P) {j : Int32} (hd : decode cc pc = .ok (.iaload, 1)) (kk : inB j (xL X) = true → Go X E (pc + 1) ls (.inl (xx X (ix j)) :: rest) m o) : Go X E pc ls (.inl j :: .inr (.inr (60, 0)) :: rest) m (if inB j (xL X) = true then o else none) := by
  intro r m2 ho hS hL H locs lsa hP hSt hl
  split at ho
  case isFalse => cases ho
  rename_i hin
  have h := hC.2.2.2.2.2.2.2.1.2
  exact va_sld hC.1 hC.2.1 h.1 h.2.1 h.2.2 hSt (inB_in hin).1 hd (kk hin r m2 ho (okT trivial (ok2 hS)) hL H locs lsa hP hSt hl)
end GSC
end
