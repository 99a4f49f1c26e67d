section
-- ===== PART A: goes FIRST, ahead of the names: the tables' words, and 'selects' of the private methods out of them =====
/-- a private method of a class that the tables say can be made, by its rows of tables_1 -/
def lw_okq (q : MethodName × Nat) : Prop := (q.1.cls ≠ "java/lang/invoke/MethodHandle" ∧ q.1.cls ≠ "java/lang/invoke/VarHandle") ∧ Cond.instantiable q.1.cls q.2 ∈ tables_1 ∧ Cond.privateMethod q.1 ∈ tables_1 ∧ Cond.instanceMethod q.1 ∈ tables_1
theorem lw_p0 : lw_okq (⟨"HeronFord", "faulty", "(I)I"⟩, 7) := ⟨⟨by decide +kernel, by decide +kernel⟩, List.mem_of_getElem? (i := 11) (by decide +kernel), List.mem_of_getElem? (i := 243) (by decide +kernel), List.mem_of_getElem? (i := 244) (by decide +kernel)⟩
theorem lw_p1 : lw_okq (⟨"HeronFord", "refusalOf", "(IIIIZ)I"⟩, 7) := ⟨⟨by decide +kernel, by decide +kernel⟩, List.mem_of_getElem? (i := 11) (by decide +kernel), List.mem_of_getElem? (i := 307) (by decide +kernel), List.mem_of_getElem? (i := 308) (by decide +kernel)⟩
theorem lw_p2 : lw_okq (⟨"HeronFord", "walkAsTold", "(III)I"⟩, 7) := ⟨⟨by decide +kernel, by decide +kernel⟩, List.mem_of_getElem? (i := 11) (by decide +kernel), List.mem_of_getElem? (i := 311) (by decide +kernel), List.mem_of_getElem? (i := 312) (by decide +kernel)⟩
theorem lw_p3 : lw_okq (⟨"HeronFord$Crossing", "payerOf", "(II)I"⟩, 14) := ⟨⟨by decide +kernel, by decide +kernel⟩, List.mem_of_getElem? (i := 101) (by decide +kernel), List.mem_of_getElem? (i := 331) (by decide +kernel), List.mem_of_getElem? (i := 332) (by decide +kernel)⟩
theorem lw_p4 : lw_okq (⟨"HeronFord$Crossing", "hasNewSong", "(I)Z"⟩, 14) := ⟨⟨by decide +kernel, by decide +kernel⟩, List.mem_of_getElem? (i := 101) (by decide +kernel), List.mem_of_getElem? (i := 344) (by decide +kernel), List.mem_of_getElem? (i := 345) (by decide +kernel)⟩
theorem lw_p5 : lw_okq (⟨"HeronFord$Crossing", "hasSecret", "(I)Z"⟩, 14) := ⟨⟨by decide +kernel, by decide +kernel⟩, List.mem_of_getElem? (i := 101) (by decide +kernel), List.mem_of_getElem? (i := 348) (by decide +kernel), List.mem_of_getElem? (i := 349) (by decide +kernel)⟩
theorem lw_p6 : lw_okq (⟨"HeronFord$Crossing", "lenderFor", "(II)I"⟩, 14) := ⟨⟨by decide +kernel, by decide +kernel⟩, List.mem_of_getElem? (i := 101) (by decide +kernel), List.mem_of_getElem? (i := 352) (by decide +kernel), List.mem_of_getElem? (i := 353) (by decide +kernel)⟩
theorem lw_p7 : lw_okq (⟨"HeronFord$Crossing", "pay", "(III)V"⟩, 14) := ⟨⟨by decide +kernel, by decide +kernel⟩, List.mem_of_getElem? (i := 101) (by decide +kernel), List.mem_of_getElem? (i := 356) (by decide +kernel), List.mem_of_getElem? (i := 357) (by decide +kernel)⟩
theorem lw_p8 : lw_okq (⟨"HeronFord$Crossing", "turnWord", "(II)V"⟩, 14) := ⟨⟨by decide +kernel, by decide +kernel⟩, List.mem_of_getElem? (i := 101) (by decide +kernel), List.mem_of_getElem? (i := 360) (by decide +kernel), List.mem_of_getElem? (i := 361) (by decide +kernel)⟩
theorem lw_p9 : lw_okq (⟨"HeronFord", "refusalWithFish", "(IIIII)I"⟩, 7) := ⟨⟨by decide +kernel, by decide +kernel⟩, List.mem_of_getElem? (i := 11) (by decide +kernel), List.mem_of_getElem? (i := 368) (by decide +kernel), List.mem_of_getElem? (i := 369) (by decide +kernel)⟩
theorem lw_p10 : lw_okq (⟨"HeronFord", "unknownFish", "()I"⟩, 7) := ⟨⟨by decide +kernel, by decide +kernel⟩, List.mem_of_getElem? (i := 11) (by decide +kernel), List.mem_of_getElem? (i := 372) (by decide +kernel), List.mem_of_getElem? (i := 373) (by decide +kernel)⟩
theorem lw_p11 : lw_okq (⟨"HeronFord$Sheet", "cut", "(I)I"⟩, 4) := ⟨⟨by decide +kernel, by decide +kernel⟩, List.mem_of_getElem? (i := 20) (by decide +kernel), List.mem_of_getElem? (i := 394) (by decide +kernel), List.mem_of_getElem? (i := 395) (by decide +kernel)⟩
def lw_privs_1 : List (MethodName × Nat) := [(⟨"HeronFord", "faulty", "(I)I"⟩, 7), (⟨"HeronFord", "refusalOf", "(IIIIZ)I"⟩, 7), (⟨"HeronFord", "walkAsTold", "(III)I"⟩, 7), (⟨"HeronFord$Crossing", "payerOf", "(II)I"⟩, 14), (⟨"HeronFord$Crossing", "hasNewSong", "(I)Z"⟩, 14), (⟨"HeronFord$Crossing", "hasSecret", "(I)Z"⟩, 14), (⟨"HeronFord$Crossing", "lenderFor", "(II)I"⟩, 14), (⟨"HeronFord$Crossing", "pay", "(III)V"⟩, 14), (⟨"HeronFord$Crossing", "turnWord", "(II)V"⟩, 14), (⟨"HeronFord", "refusalWithFish", "(IIIII)I"⟩, 7), (⟨"HeronFord", "unknownFish", "()I"⟩, 7), (⟨"HeronFord$Sheet", "cut", "(I)I"⟩, 4)]
theorem lw_r1 : ∀ q ∈ lw_privs_1, lw_okq q := List.forall_mem_cons.mpr ⟨lw_p0, List.forall_mem_cons.mpr ⟨lw_p1, List.forall_mem_cons.mpr ⟨lw_p2, List.forall_mem_cons.mpr ⟨lw_p3, List.forall_mem_cons.mpr ⟨lw_p4, List.forall_mem_cons.mpr ⟨lw_p5, List.forall_mem_cons.mpr ⟨lw_p6, List.forall_mem_cons.mpr ⟨lw_p7, List.forall_mem_cons.mpr ⟨lw_p8, List.forall_mem_cons.mpr ⟨lw_p9, List.forall_mem_cons.mpr ⟨lw_p10, List.forall_mem_cons.mpr ⟨lw_p11, fun _ h => absurd h List.not_mem_nil⟩⟩⟩⟩⟩⟩⟩⟩⟩⟩⟩⟩
def lw_privs : List (MethodName × Nat) := lw_privs_1
def lw_tbl : List Cond := k2_sels lw_privs ++ tables_1
theorem lw_privs_ok : ∀ q ∈ lw_privs, lw_okq q := lw_r1
-- ===== end of PART A =====
def RX0 : String := "HeronFord$Crossing"
def TX0 : u_T := fun k => match k with
  | 0 => ("HeronFord$Crossing", "kind", "[I", true)
  | 1 => ("HeronFord$Crossing", "size", "[I", true)
  | 2 => ("HeronFord$Crossing", "scales", "[I", true)
  | 3 => ("HeronFord$Crossing", "song", "[I", true)
  | 4 => ("HeronFord$Crossing", "secret", "[I", true)
  | 5 => ("HeronFord$Crossing", "owed", "[[I", true)
  | 6 => ("HeronFord$Crossing", "groups", "[I", true)
  | 7 => ("HeronFord$Crossing", "sums", "[I", true)
  | 8 => ("HeronFord$Crossing", "count", "I", false)
  | 9 => ("HeronFord$Crossing", "dear", "I", false)
  | 10 => ("HeronFord$Crossing", "known", "I", false)
  | 11 => ("HeronFord$Crossing", "harmed", "I", false)
  | 12 => ("HeronFord$Crossing", "above", "I", false)
  | _ => ("HeronFord$Crossing", "got", "I", false)
def tyX0 : Nat → FieldType := fun k => match k with
  | 0 => .array .int
  | 1 => .array .int
  | 2 => .array .int
  | 3 => .array .int
  | 4 => .array .int
  | 5 => .array (.array .int)
  | 6 => .array .int
  | 7 => .array .int
  | 8 => .int
  | 9 => .int
  | 10 => .int
  | 11 => .int
  | 12 => .int
  | _ => .int
abbrev wsX00 : List Cond := u_ws RX0 TX0 14
theorem nmX0 : ∀ a, a < 14 → ∀ b, b < 14 → a ≠ b → (TX0 a).2.1 ≠ (TX0 b).2.1 := by decide +kernel
theorem tyX0_ok : ∀ k, k < 14 → parseFieldDescriptor (TX0 k).2.2.1 = some (tyX0 k) := by decide +kernel
abbrev cX0_init : ByteArray := prog_2_method_1_code
def yX0_init : MethodName := ⟨RX0, "<init>", "()V"⟩
abbrev cX0_start : ByteArray := prog_2_method_2_code
def yX0_start : MethodName := ⟨RX0, "start", "(LHeronFord$Told;)V"⟩
abbrev cX0_walk : ByteArray := prog_2_method_3_code
def yX0_walk : MethodName := ⟨RX0, "walk", "(LHeronFord$Sheet;II)I"⟩
abbrev cX0_pass : ByteArray := prog_2_method_4_code
def yX0_pass : MethodName := ⟨RX0, "pass", "(II)I"⟩
abbrev cX0_payerOf : ByteArray := prog_2_method_6_code
def yX0_payerOf : MethodName := ⟨RX0, "payerOf", "(II)I"⟩
abbrev cX0_pay : ByteArray := prog_2_method_7_code
def yX0_pay : MethodName := ⟨RX0, "pay", "(III)V"⟩
abbrev cX0_turnWord : ByteArray := prog_2_method_8_code
def yX0_turnWord : MethodName := ⟨RX0, "turnWord", "(II)V"⟩
abbrev cX0_hasNewSong : ByteArray := prog_2_method_9_code
def yX0_hasNewSong : MethodName := ⟨RX0, "hasNewSong", "(I)Z"⟩
abbrev cX0_hasSecret : ByteArray := prog_2_method_10_code
def yX0_hasSecret : MethodName := ⟨RX0, "hasSecret", "(I)Z"⟩
abbrev cX0_lenderFor : ByteArray := prog_2_method_11_code
def yX0_lenderFor : MethodName := ⟨RX0, "lenderFor", "(II)I"⟩
abbrev cX0_tollOf : ByteArray := prog_2_method_12_code
def yX0_tollOf : MethodName := ⟨RX0, "tollOf", "(I)I"⟩
abbrev cX0_isBelow : ByteArray := prog_2_method_13_code
def yX0_isBelow : MethodName := ⟨RX0, "isBelow", "(I)Z"⟩
def RX1 : String := "HeronFord$Fish"
def TX1 : u_T := fun k => match k with
  | 0 => ("HeronFord$Fish", "kind", "I", false)
  | 1 => ("HeronFord$Fish", "size", "I", false)
  | 2 => ("HeronFord$Fish", "scales", "I", false)
  | 3 => ("HeronFord$Fish", "song", "I", false)
  | _ => ("HeronFord$Fish", "secret", "I", false)
def tyX1 : Nat → FieldType := fun k => match k with
  | 0 => .int
  | 1 => .int
  | 2 => .int
  | 3 => .int
  | _ => .int
abbrev wsX10 : List Cond := u_ws RX1 TX1 5
theorem nmX1 : ∀ a, a < 5 → ∀ b, b < 5 → a ≠ b → (TX1 a).2.1 ≠ (TX1 b).2.1 := by decide +kernel
theorem tyX1_ok : ∀ k, k < 5 → parseFieldDescriptor (TX1 k).2.2.1 = some (tyX1 k) := by decide +kernel
abbrev cX1_init : ByteArray := prog_3_method_1_code
def yX1_init : MethodName := ⟨RX1, "<init>", "()V"⟩
abbrev cX1_take : ByteArray := prog_3_method_2_code
def yX1_take : MethodName := ⟨RX1, "take", "(LHeronFord$Sheet;I)V"⟩
def RX2 : String := "HeronFord$Readings"
def TX2 : u_T := fun k => match k with
  | 0 => ("HeronFord$Readings", "fish", "[I", true)
  | 1 => ("HeronFord$Readings", "left", "[I", true)
  | _ => ("HeronFord$Readings", "count", "I", false)
def tyX2 : Nat → FieldType := fun k => match k with
  | 0 => .array .int
  | 1 => .array .int
  | _ => .int
abbrev wsX20 : List Cond := u_ws RX2 TX2 3
theorem nmX2 : ∀ a, a < 3 → ∀ b, b < 3 → a ≠ b → (TX2 a).2.1 ≠ (TX2 b).2.1 := by decide +kernel
theorem tyX2_ok : ∀ k, k < 3 → parseFieldDescriptor (TX2 k).2.2.1 = some (tyX2 k) := by decide +kernel
abbrev cX2_init : ByteArray := prog_4_method_1_code
def yX2_init : MethodName := ⟨RX2, "<init>", "()V"⟩
def RX3 : String := "HeronFord$Search"
def TX3 : u_T := fun k => match k with
  | 0 => ("HeronFord$Search", "crossing", "LHeronFord$Crossing;", true)
  | 1 => ("HeronFord$Search", "row", "[I", true)
  | 2 => ("HeronFord$Search", "bestRow", "[I", true)
  | 3 => ("HeronFord$Search", "ways", "I", false)
  | _ => ("HeronFord$Search", "best", "I", false)
def tyX3 : Nat → FieldType := fun k => match k with
  | 0 => .object "HeronFord$Crossing"
  | 1 => .array .int
  | 2 => .array .int
  | 3 => .int
  | _ => .int
abbrev wsX30 : List Cond := u_ws RX3 TX3 5
theorem nmX3 : ∀ a, a < 5 → ∀ b, b < 5 → a ≠ b → (TX3 a).2.1 ≠ (TX3 b).2.1 := by decide +kernel
theorem tyX3_ok : ∀ k, k < 5 → parseFieldDescriptor (TX3 k).2.2.1 = some (tyX3 k) := by decide +kernel
abbrev cX3_init : ByteArray := prog_5_method_1_code
def yX3_init : MethodName := ⟨RX3, "<init>", "()V"⟩
abbrev cX3_forget : ByteArray := prog_5_method_2_code
def yX3_forget : MethodName := ⟨RX3, "forget", "()V"⟩
def RX4 : String := "HeronFord$Sheet"
def TX4 : u_T := fun k => match k with
  | 0 => ("HeronFord$Sheet", "cells", "[I", true)
  | 1 => ("HeronFord$Sheet", "hasRow", "Z", false)
  | 2 => ("HeronFord$Sheet", "lane", "I", false)
  | _ => ("HeronFord$Sheet", "length", "I", false)
def tyX4 : Nat → FieldType := fun k => match k with
  | 0 => .array .int
  | 1 => .boolean
  | 2 => .int
  | _ => .int
abbrev wsX40 : List Cond := u_ws RX4 TX4 4
theorem nmX4 : ∀ a, a < 4 → ∀ b, b < 4 → a ≠ b → (TX4 a).2.1 ≠ (TX4 b).2.1 := by decide +kernel
theorem tyX4_ok : ∀ k, k < 4 → parseFieldDescriptor (TX4 k).2.2.1 = some (tyX4 k) := by decide +kernel
abbrev cX4_init : ByteArray := prog_6_method_1_code
def yX4_init : MethodName := ⟨RX4, "<init>", "()V"⟩
abbrev cX4_begin : ByteArray := prog_6_method_2_code
def yX4_begin : MethodName := ⟨RX4, "begin", "(II)V"⟩
abbrev cX4_holds : ByteArray := prog_6_method_3_code
def yX4_holds : MethodName := ⟨RX4, "holds", "(II)Z"⟩
abbrev cX4_faultAt : ByteArray := prog_6_method_4_code
def yX4_faultAt : MethodName := ⟨RX4, "faultAt", "(III)I"⟩
abbrev cX4_at : ByteArray := prog_6_method_5_code
def yX4_at : MethodName := ⟨RX4, "at", "(I)I"⟩
abbrev cX4_set : ByteArray := prog_6_method_6_code
def yX4_set : MethodName := ⟨RX4, "set", "(II)V"⟩
abbrev cX4_cut : ByteArray := prog_6_method_7_code
def yX4_cut : MethodName := ⟨RX4, "cut", "(I)I"⟩
def RX5 : String := "HeronFord$Told"
def TX5 : u_T := fun k => match k with
  | 0 => ("HeronFord$Told", "fish", "[LHeronFord$Fish;", true)
  | 1 => ("HeronFord$Told", "count", "I", false)
  | 2 => ("HeronFord$Told", "dear", "I", false)
  | _ => ("HeronFord$Told", "known", "I", false)
def tyX5 : Nat → FieldType := fun k => match k with
  | 0 => .array (.object "HeronFord$Fish")
  | 1 => .int
  | 2 => .int
  | _ => .int
abbrev wsX50 : List Cond := u_ws RX5 TX5 4
theorem nmX5 : ∀ a, a < 4 → ∀ b, b < 4 → a ≠ b → (TX5 a).2.1 ≠ (TX5 b).2.1 := by decide +kernel
theorem tyX5_ok : ∀ k, k < 4 → parseFieldDescriptor (TX5 k).2.2.1 = some (tyX5 k) := by decide +kernel
abbrev cX5_init : ByteArray := prog_7_method_1_code
def yX5_init : MethodName := ⟨RX5, "<init>", "()V"⟩
abbrev cX5_has : ByteArray := prog_7_method_2_code
def yX5_has : MethodName := ⟨RX5, "has", "(I)Z"⟩
abbrev cX5_take : ByteArray := prog_7_method_3_code
def yX5_take : MethodName := ⟨RX5, "take", "(LHeronFord$Sheet;II)V"⟩
def RX6 : String := "HeronFord"
def TX6 : u_T := fun k => match k with
  | 0 => ("HeronFord", "sheets", "[LHeronFord$Sheet;", true)
  | 1 => ("HeronFord", "told", "LHeronFord$Told;", true)
  | 2 => ("HeronFord", "crossing", "LHeronFord$Crossing;", true)
  | 3 => ("HeronFord", "search", "LHeronFord$Search;", true)
  | 4 => ("HeronFord", "readings", "LHeronFord$Readings;", true)
  | 5 => ("HeronFord", "trace", "I", false)
  | _ => ("HeronFord", "fault", "I", false)
def tyX6 : Nat → FieldType := fun k => match k with
  | 0 => .array (.object "HeronFord$Sheet")
  | 1 => .object "HeronFord$Told"
  | 2 => .object "HeronFord$Crossing"
  | 3 => .object "HeronFord$Search"
  | 4 => .object "HeronFord$Readings"
  | 5 => .int
  | _ => .int
abbrev wsX60 : List Cond := u_ws RX6 TX6 7
theorem nmX6 : ∀ a, a < 7 → ∀ b, b < 7 → a ≠ b → (TX6 a).2.1 ≠ (TX6 b).2.1 := by decide +kernel
theorem tyX6_ok : ∀ k, k < 7 → parseFieldDescriptor (TX6 k).2.2.1 = some (tyX6 k) := by decide +kernel
abbrev cX6_init : ByteArray := prog_1_method_1_code
def yX6_init : MethodName := ⟨RX6, "<init>", "()V"⟩
abbrev cX6_ford : ByteArray := prog_1_method_2_code
def yX6_ford : MethodName := ⟨RX6, "ford", "(IIII)I"⟩
abbrev cX6_ofFish : ByteArray := prog_1_method_3_code
def yX6_ofFish : MethodName := ⟨RX6, "ofFish", "(II)I"⟩
abbrev cX6_dear : ByteArray := prog_1_method_4_code
def yX6_dear : MethodName := ⟨RX6, "dear", "(I)I"⟩
abbrev cX6_scales : ByteArray := prog_1_method_5_code
def yX6_scales : MethodName := ⟨RX6, "scales", "(II)I"⟩
abbrev cX6_hear : ByteArray := prog_1_method_6_code
def yX6_hear : MethodName := ⟨RX6, "hear", "(I)I"⟩
abbrev cX6_passes : ByteArray := prog_1_method_7_code
def yX6_passes : MethodName := ⟨RX6, "passes", "(IIIII)I"⟩
abbrev cX6_owes : ByteArray := prog_1_method_8_code
def yX6_owes : MethodName := ⟨RX6, "owes", "(IIIIII)I"⟩
abbrev cX6_toll : ByteArray := prog_1_method_9_code
def yX6_toll : MethodName := ⟨RX6, "toll", "(IIIII)I"⟩
abbrev cX6_wants : ByteArray := prog_1_method_12_code
def yX6_wants : MethodName := ⟨RX6, "wants", "(IIIII)I"⟩
abbrev cX6_sheet : ByteArray := prog_1_method_19_code
def yX6_sheet : MethodName := ⟨RX6, "sheet", "(III)I"⟩
abbrev cX6_put : ByteArray := prog_1_method_21_code
def yX6_put : MethodName := ⟨RX6, "put", "(III)I"⟩
abbrev cX6_many : ByteArray := prog_1_method_29_code
def yX6_many : MethodName := ⟨RX6, "many", "(I)I"⟩
abbrev cX6_isWithin : ByteArray := prog_1_method_30_code
def yX6_isWithin : MethodName := ⟨RX6, "isWithin", "(III)Z"⟩
abbrev cX6_isSheet : ByteArray := prog_1_method_31_code
def yX6_isSheet : MethodName := ⟨RX6, "isSheet", "(I)Z"⟩
abbrev cX6_isLane : ByteArray := prog_1_method_32_code
def yX6_isLane : MethodName := ⟨RX6, "isLane", "(I)Z"⟩
abbrev cX6_shareOf : ByteArray := prog_1_method_35_code
def yX6_shareOf : MethodName := ⟨RX6, "shareOf", "(II)I"⟩
abbrev cX6_faulty : ByteArray := prog_1_method_36_code
def yX6_faulty : MethodName := ⟨RX6, "faulty", "(I)I"⟩
abbrev cX6_unknownFish : ByteArray := prog_1_method_37_code
def yX6_unknownFish : MethodName := ⟨RX6, "unknownFish", "()I"⟩
abbrev cX6_refusalWithFish : ByteArray := prog_1_method_38_code
def yX6_refusalWithFish : MethodName := ⟨RX6, "refusalWithFish", "(IIIII)I"⟩
abbrev cX6_refusalOf : ByteArray := prog_1_method_39_code
def yX6_refusalOf : MethodName := ⟨RX6, "refusalOf", "(IIIIZ)I"⟩
abbrev cX6_walkAsTold : ByteArray := prog_1_method_40_code
def yX6_walkAsTold : MethodName := ⟨RX6, "walkAsTold", "(III)I"⟩
abbrev cX6_firstFault : ByteArray := prog_1_method_46_code
def yX6_firstFault : MethodName := ⟨RX6, "firstFault", "(LHeronFord$Sheet;II)I"⟩
abbrev cX6_goesOn : ByteArray := prog_1_method_47_code
def yX6_goesOn : MethodName := ⟨RX6, "goesOn", "(II)Z"⟩
abbrev cX6_isDigit : ByteArray := prog_1_method_48_code
def yX6_isDigit : MethodName := ⟨RX6, "isDigit", "(III)Z"⟩
abbrev cX6_kindOf : ByteArray := prog_1_method_49_code
def yX6_kindOf : MethodName := ⟨RX6, "kindOf", "(I)I"⟩
def RX7 : String := "HeronFordModel"
def TX7 : u_T := fun k => match k with
  | _ => ("", "", "", false)
def tyX7 : Nat → FieldType := fun k => match k with
  | _ => .int
abbrev wsX70 : List Cond := u_ws RX7 TX7 0
theorem nmX7 : ∀ a, a < 0 → ∀ b, b < 0 → a ≠ b → (TX7 a).2.1 ≠ (TX7 b).2.1 := by decide +kernel
theorem tyX7_ok : ∀ k, k < 0 → parseFieldDescriptor (TX7 k).2.2.1 = some (tyX7 k) := by decide +kernel
def RJ9 : String := "java/lang/Math"
abbrev cJ9_max_7cf53 : ByteArray := prog_10_method_65_code
def yJ9_max_7cf53 : MethodName := ⟨RJ9, "max", "(II)I"⟩
abbrev cJ9_min_7cf53 : ByteArray := prog_10_method_69_code
def yJ9_min_7cf53 : MethodName := ⟨RJ9, "min", "(II)I"⟩
def RJ7 : String := "java/util/Arrays"
abbrev cJ7_fill_53178 : ByteArray := prog_11_method_103_code
def yJ7_fill_53178 : MethodName := ⟨RJ7, "fill", "([II)V"⟩
def RL : String := "HeronFordLaw"
abbrev cL_cell : ByteArray := method_2_code
def yL_cell : MethodName := ⟨RL, "cell", "([II)I"⟩
abbrev cL_some : ByteArray := method_3_code
def yL_some : MethodName := ⟨RL, "some", "(II)I"⟩
abbrev cL_put : ByteArray := method_4_code
def yL_put : MethodName := ⟨RL, "put", "(LHeronFord;[III[I)I"⟩
abbrev cL_change : ByteArray := method_5_code
def yL_change : MethodName := ⟨RL, "change", "(LHeronFord;I[I)Z"⟩
abbrev cL_share : ByteArray := method_6_code
def yL_share : MethodName := ⟨RL, "share", "([II)I"⟩
abbrev cL_begin : ByteArray := method_7_code
def yL_begin : MethodName := ⟨RL, "begin", "([I[I[I)V"⟩
abbrev cL_toll : ByteArray := method_8_code
def yL_toll : MethodName := ⟨RL, "toll", "([II[I)I"⟩
abbrev cL_pass : ByteArray := method_9_code
def yL_pass : MethodName := ⟨RL, "pass", "([III[I[I)Z"⟩
abbrev cL_go : ByteArray := method_10_code
def yL_go : MethodName := ⟨RL, "go", "([I[II[I[I)I"⟩
abbrev cL_lay : ByteArray := method_11_code
def yL_lay : MethodName := ⟨RL, "lay", "(LHeronFord;[II[I[I[I[I)I"⟩
abbrev cL_law : ByteArray := code
def yL_law : MethodName := ⟨RL, "law", "([I)Z"⟩
abbrev vwCl : List vw_C := [(RX0, TX0, 14), (RX1, TX1, 5), (RX2, TX2, 3), (RX3, TX3, 5), (RX4, TX4, 4), (RX5, TX5, 4), (RX6, TX6, 7)]
end
section
/-! ===== the memory of both systems as numbers: a cell is (tag, index); its ints by places; its references never change ===== -/
abbrev AR : Type := Nat × Nat
abbrev AV : Type := Int32 ⊕ (Int64 ⊕ AR)
abbrev Mem : Type := Nat → Nat → Nat → Int32
abbrev ALs : Type := List (Option AV)
abbrev ASt : Type := List AV
variable {ph : Bool}
def mset (m : Mem) (t i j : Nat) (v : Int32) : Mem := fun t' i' j' => if t' = t ∧ i' = i ∧ j' = j then v else m t' i' j'
def cv (A : AR → Nat) : AV → Value
  | .inl x => .int x
  | .inr (.inl x) => .long x
  | .inr (.inr r) => .ref (A r)
/-- the objects: class by its number in vwCl, how many fields -/
def sh_cls : Nat → Option (Nat × Nat)
  | 0 => some (6, 7)
  | 2 => some (4, 4)
  | 4 => some (5, 4)
  | 6 => some (1, 5)
  | 7 => some (0, 14)
  | 17 => some (3, 5)
  | 20 => some (2, 3)
  | _ => none
/-- the arrays: kind (0 ints, 1 Sheets, 2 Fish, 3 rows of ints), how long -/
def sh_arr : Nat → Option (Nat × Nat)
  | 1 => some (1, 4)
  | 3 => some (0, 60)
  | 5 => some (2, 5)
  | 8 => some (0, 5)
  | 9 => some (0, 5)
  | 10 => some (0, 5)
  | 11 => some (0, 5)
  | 12 => some (0, 5)
  | 13 => some (3, 5)
  | 14 => some (0, 5)
  | 15 => some (0, 32)
  | 16 => some (0, 32)
  | 18 => some (0, 5)
  | 19 => some (0, 5)
  | 21 => some (0, 8)
  | 22 => some (0, 8)
  | 70 => some (0, 28)
  | 71 => some (0, 40)
  | 72 => some (0, 9)
  | 73 => some (0, 25)
  | _ => none
/-- the references: a field's, or a place's -/
def sh_ref : Nat → Nat → Nat → Option AR
  | 0, _, k => match k with
    | 0 => some (1, 0)
    | 1 => some (4, 0)
    | 2 => some (7, 0)
    | 3 => some (17, 0)
    | 4 => some (20, 0)
    | _ => none
  | 1, _, k => some (2, k)
  | 2, i, k => match k with
    | 0 => some (3, i)
    | _ => none
  | 4, _, k => match k with
    | 0 => some (5, 0)
    | _ => none
  | 5, _, k => some (6, k)
  | 7, i, k => match k with
    | 0 => some (8, i)
    | 1 => some (9, i)
    | 2 => some (10, i)
    | 3 => some (11, i)
    | 4 => some (12, i)
    | 5 => some (13, i)
    | 6 => some (15, i)
    | 7 => some (16, i)
    | _ => none
  | 13, i, k => some (14, 5 * i + k)
  | 17, _, k => match k with
    | 0 => some (7, 1)
    | 1 => some (18, 0)
    | 2 => some (19, 0)
    | _ => none
  | 20, _, k => match k with
    | 0 => some (21, 0)
    | 1 => some (22, 0)
    | _ => none
  | _, _, _ => none
def vr1 : List AR := [(0,0),(1,0),(2,0),(3,0),(2,1),(3,1),(2,2),(3,2),(2,3),(3,3),(4,0),(5,0),(6,0),(6,1),(6,2),(6,3),(6,4),
  (7,0),(8,0),(9,0),(10,0),(11,0),(12,0),(13,0),(14,0),(14,1),(14,2),(14,3),(14,4),(15,0),(16,0),
  (17,0),(7,1),(8,1),(9,1),(10,1),(11,1),(12,1),(13,1),(14,5),(14,6),(14,7),(14,8),(14,9),(15,1),(16,1),(18,0),(19,0),(20,0),(21,0),(22,0),(70,0)]
/-- the cells that there are: before the law's three later rows (false), and behind them (true) -/
def vrefs (ph : Bool) : List AR := match ph with
  | false => vr1
  | true => vr1 ++ [(71,0),(72,0),(73,0)]
theorem vrefs_nodup (ph : Bool) : (vrefs ph).Nodup := by cases ph <;> decide +kernel
/-- 0 an int that may be written, 1 a boolean, 2 a reference -/
def fkd (ci k : Nat) : Nat := match vwCl[ci]? with
  | some q => if (q.2.1 k).2.2.2 = false then (if (q.2.1 k).2.2.1 = "I" then 0 else if (q.2.1 k).2.2.1 = "Z" then 1 else 2) else 2
  | none => 2
def lenOf (t : Nat) : Nat := match sh_cls t with
  | some q => q.2
  | none => match sh_arr t with
    | some q => q.2
    | none => 0
theorem sh_closed0 (ph : Bool) : ((vrefs ph).all fun r => (List.range (lenOf r.1)).all fun k => match sh_ref r.1 r.2 k with
  | some q => decide (q ∈ vrefs ph)
  | none => true) = true := by cases ph <;> decide +kernel
theorem sh_closed {r : AR} (hr : r ∈ vrefs ph) {k : Nat} (hk : k < lenOf r.1) {q : AR} (hq : sh_ref r.1 r.2 k = some q) : q ∈ vrefs ph := by
  have h1 := List.all_eq_true.mp (List.all_eq_true.mp (sh_closed0 ph) r hr) k (List.mem_range.mpr hk)
  rw [hq] at h1
  exact of_decide_eq_true h1
/-- the classes of the objects fit their tables -/
theorem sh_ok0 (ph : Bool) : ((vrefs ph).all fun r => match sh_cls r.1 with
  | some q => (match vwCl[q.1]? with
    | some z => decide (z.2.2 = q.2)
    | none => false)
  | none => (match sh_arr r.1 with
    | some q => decide (q.1 < 4)
    | none => false)) = true := by cases ph <;> decide +kernel
theorem sh_ok {r : AR} (hr : r ∈ vrefs ph) {ci n : Nat} (h : sh_cls r.1 = some (ci, n)) : ∃ z, vwCl[ci]? = some z ∧ z.2.2 = n := by
  have h1 := List.all_eq_true.mp (sh_ok0 ph) r hr
  rw [h] at h1
  dsimp only at h1
  cases hz : vwCl[ci]? with
  | none => rw [hz] at h1; cases h1
  | some z => rw [hz] at h1; exact ⟨z, rfl, of_decide_eq_true h1⟩
def cellOf (A : AR → Nat) (cs : Nat → ClassId) (m : Mem) (r : AR) : va_E := match sh_cls r.1 with
  | some q => .inr (q.1, (List.range q.2).map (fun k => match sh_ref r.1 r.2 k with
    | some z => Value.ref (A z)
    | none => Value.int (m r.1 r.2 k)))
  | none => match sh_arr r.1 with
    | some q => if q.1 = 0 then .inl (cs 0, q.2, .inl (fun j => m r.1 r.2 j)) else .inl (cs q.1, q.2, .inr (.inr (.inr (.inr (fun j => if j < q.2 then (sh_ref r.1 r.2 j).map A else none)))))
    | none => .inl (cs 0, 0, .inl (fun _ => 0))
def wsM (ph : Bool) (A : AR → Nat) (cs : Nat → ClassId) (m : Mem) : va_W := (vrefs ph).map (fun r => (A r, cellOf A cs m r))
def tysM (cs : Nat → ClassId) : List (ClassId × FieldType) := [(cs 0, .int), (cs 1, .object RX4), (cs 2, .object RX1), (cs 3, .array .int)]
def elT : Nat → FieldType
  | 0 => .int
  | 1 => .object RX4
  | 2 => .object RX1
  | _ => .array .int
theorem tysM_at {cs : Nat → ClassId} {k : Nat} (h : k < 4) : (tysM cs)[k]? = some (cs k, elT k) := by
  match k, h with
  | 0, _ => rfl
  | 1, _ => rfl
  | 2, _ => rfl
  | 3, _ => rfl
def injA (ph : Bool) (A : AR → Nat) : Prop := ∀ r ∈ vrefs ph, ∀ q ∈ vrefs ph, A r = A q → r = q
def frA (ph : Bool) (A : AR → Nat) : Nat → Prop := fun q => ∃ r ∈ vrefs ph, A r = q
theorem wsM_at {A : AR → Nat} {cs : Nat → ClassId} {m : Mem} {r : AR} (hr : r ∈ vrefs ph) : ∃ k : Nat, (vrefs ph)[k]? = some r ∧ (wsM ph A cs m)[k]? = some (A r, cellOf A cs m r) := by
  obtain ⟨k, hk⟩ := List.getElem?_of_mem hr
  exact ⟨k, hk, by simp [wsM, hk]⟩
theorem vrefs_inj {i j : Nat} {r : AR} (hi : (vrefs ph)[i]? = some r) (hj : (vrefs ph)[j]? = some r) : i = j := by
  have h1 := (List.getElem?_eq_some_iff.mp hi).1
  have h2 := (List.getElem?_eq_some_iff.mp hj).1
  have e := (List.getElem?_eq_some_iff.mp hi).2.trans (List.getElem?_eq_some_iff.mp hj).2.symm
  have hp := List.pairwise_iff_getElem.mp (vrefs_nodup ph)
  rcases Nat.lt_trichotomy i j with h | h | h
  · exact absurd e (hp i j h1 h2 h)
  · exact h
  · exact absurd e.symm (hp j i h2 h1 h)
theorem wsM_D {A : AR → Nat} {cs : Nat → ClassId} (hA : injA ph A) (m : Mem) : va_D (frA ph A) (wsM ph A cs m) := by
  refine ⟨fun i j x y hi hj hxy => ?_, fun k x hk => ?_⟩
  · simp only [wsM, List.getElem?_map, Option.map_eq_some_iff] at hi hj
    obtain ⟨r, hr, rfl⟩ := hi
    obtain ⟨q, hq, rfl⟩ := hj
    have := hA r (List.mem_of_getElem? hr) q (List.mem_of_getElem? hq) hxy
    subst this
    exact vrefs_inj hr hq
  · simp only [wsM, List.getElem?_map, Option.map_eq_some_iff] at hk
    obtain ⟨r, hr, rfl⟩ := hk
    exact ⟨r, List.mem_of_getElem? hr, rfl⟩
theorem cellOf_ne {A : AR → Nat} {cs : Nat → ClassId} {m : Mem} {t i j : Nat} {v : Int32} {r : AR} (h : r ≠ (t, i)) : cellOf A cs (mset m t i j v) r = cellOf A cs m r := by
  have e : ∀ k, mset m t i j v r.1 r.2 k = m r.1 r.2 k := fun k => by
    unfold mset
    rw [if_neg]
    rintro ⟨h1, h2, -⟩
    exact h (Prod.ext h1 h2)
  unfold cellOf
  simp only [e]
theorem cellOf_obj {A : AR → Nat} {cs : Nat → ClassId} {m : Mem} {t i k ci n : Nat} (hc : sh_cls t = some (ci, n)) : cellOf A cs m (t, i) = .inr (ci, (List.range n).map (fun k => match sh_ref t i k with
    | some z => Value.ref (A z)
    | none => Value.int (m t i k))) := by
  unfold cellOf
  rw [hc]
theorem cellOf_set {A : AR → Nat} {cs : Nat → ClassId} {m : Mem} {t i k ci n : Nat} {v : Int32} (hc : sh_cls t = some (ci, n)) (hr : sh_ref t i k = none) :
    cellOf A cs (mset m t i k v) (t, i) = .inr (ci, ((List.range n).map (fun k => match sh_ref t i k with
    | some z => Value.ref (A z)
    | none => Value.int (m t i k))).set k (.int v)) := by
  rw [cellOf_obj (k := k) hc]
  congr 2
  apply List.ext_getElem?
  intro j
  rw [List.getElem?_set]
  by_cases hj : k = j
  · subst hj
    rw [if_pos rfl, List.length_map, List.length_range, List.getElem?_map]
    by_cases hn : k < n
    · rw [if_pos hn, List.getElem?_range hn]
      simp [hr, mset]
    · rw [if_neg hn, List.getElem?_eq_none (by simpa using hn)]
      rfl
  · rw [if_neg hj, List.getElem?_map, List.getElem?_map]
    by_cases hn : j < n
    · rw [List.getElem?_range hn]
      have e : mset m t i k v t i j = m t i j := by
        unfold mset
        rw [if_neg]
        rintro ⟨-, -, h⟩
        exact hj h.symm
      simp only [Option.map_some, e]
    · rw [List.getElem?_eq_none (by simpa using hn)]
      rfl

theorem cellOf_arr {A : AR → Nat} {cs : Nat → ClassId} {m : Mem} {t i n : Nat} (hc : sh_cls t = none) (ha : sh_arr t = some (0, n)) : cellOf A cs m (t, i) = .inl (cs 0, n, .inl (fun j => m t i j)) := by
  unfold cellOf
  rw [hc]
  dsimp only
  rw [ha]
  rfl
theorem cellOf_arq {A : AR → Nat} {cs : Nat → ClassId} {m : Mem} {t i n kd : Nat} (hc : sh_cls t = none) (ha : sh_arr t = some (kd + 1, n)) : cellOf A cs m (t, i) = .inl (cs (kd + 1), n, .inr (.inr (.inr (.inr (fun j => if j < n then (sh_ref t i j).map A else none))))) := by
  unfold cellOf
  rw [hc]
  dsimp only
  rw [ha]
  rfl
theorem mset_row {m : Mem} {t i k : Nat} {v : Int32} : (fun j => mset m t i k v t i j) = upd (fun j => m t i j) k v := by
  funext j
  unfold mset upd
  by_cases h : j = k
  · rw [if_pos ⟨rfl, rfl, h⟩, if_pos h]
  · rw [if_neg (fun q => h q.2.2), if_neg h]
theorem wsM_set {A : AR → Nat} {cs : Nat → ClassId} {m : Mem} {t i j k : Nat} {v : Int32} (hk : (vrefs ph)[k]? = some (t, i)) : (wsM ph A cs m).set k (A (t, i), cellOf A cs (mset m t i j v) (t, i)) = wsM ph A cs (mset m t i j v) := by
  apply List.ext_getElem?
  intro q
  rw [List.getElem?_set]
  have hlen : (wsM ph A cs m).length = (vrefs ph).length := by simp [wsM]
  have hkl := (List.getElem?_eq_some_iff.mp hk).1
  by_cases hq : k = q
  · subst hq
    rw [if_pos rfl, if_pos (by rw [hlen]; exact hkl)]
    simp [wsM, hk]
  · rw [if_neg hq]
    simp only [wsM, List.getElem?_map]
    cases hr : (vrefs ph)[q]? with
    | none => rfl
    | some r =>
      have hne : r ≠ (t, i) := fun e => hq (vrefs_inj hk (by rw [hr, e]))
      simp only [Option.map_some]
      rw [cellOf_ne hne]
end
section
/-! ===== one instruction at a time, over the memory as numbers ===== -/
/-- launch, addresses, classes, fields' places, array classes; which cells there are; the script: how long, its ints -/
abbrev ZT : Type := Launch × (AR → Nat) × (Nat → ClassId) × (Nat → Nat → Nat) × (Nat → ClassId) × Bool × Nat × (Nat → Int32)
abbrev zl (Z : ZT) : Launch := Z.1
abbrev zA (Z : ZT) : AR → Nat := Z.2.1
abbrev zC (Z : ZT) : Nat → ClassId := Z.2.2.1
abbrev zI (Z : ZT) : Nat → Nat → Nat := Z.2.2.2.1
abbrev zk (Z : ZT) : Nat → ClassId := Z.2.2.2.2.1
abbrev zV (Z : ZT) : Bool := Z.2.2.2.2.2.1
abbrev zL (Z : ZT) : Nat := Z.2.2.2.2.2.2.1
abbrev zx (Z : ZT) : Nat → Int32 := Z.2.2.2.2.2.2.2
abbrev XT : Type := Program × Env × Room × State × MethodId × Array Value × List Frame × Method × Code × ZT × Nat × Nat × Nat
abbrev xp (X : XT) : Program := X.1
abbrev xe (X : XT) : Env := X.2.1
abbrev xR (X : XT) : Room := X.2.2.1
abbrev xs (X : XT) : State := X.2.2.2.1
abbrev xm (X : XT) : MethodId := X.2.2.2.2.1
abbrev xa (X : XT) : Array Value := X.2.2.2.2.2.1
abbrev xb (X : XT) : List Frame := X.2.2.2.2.2.2.1
abbrev xM (X : XT) : Method := X.2.2.2.2.2.2.2.1
abbrev xc (X : XT) : Code := X.2.2.2.2.2.2.2.2.1
abbrev xZ (X : XT) : ZT := X.2.2.2.2.2.2.2.2.2.1
abbrev xcl (X : XT) : Nat := X.2.2.2.2.2.2.2.2.2.2.1
abbrev xsl (X : XT) : Nat := X.2.2.2.2.2.2.2.2.2.2.2.1
abbrev xn (X : XT) : Nat := X.2.2.2.2.2.2.2.2.2.2.2.2
abbrev xl (X : XT) : Launch := zl (xZ X)
abbrev xA (X : XT) : AR → Nat := zA (xZ X)
abbrev xC (X : XT) : Nat → ClassId := zC (xZ X)
abbrev xI (X : XT) : Nat → Nat → Nat := zI (xZ X)
abbrev xk (X : XT) : Nat → ClassId := zk (xZ X)
abbrev xV (X : XT) : Bool := zV (xZ X)
abbrev xL (X : XT) : Nat := zL (xZ X)
abbrev xx (X : XT) : Nat → Int32 := zx (xZ X)
variable {ph : Bool}
def wsC : List Cond := lw_tbl.filter goodWord
def nestC : List Cond := lw_tbl.filter (fun w => match w with
  | .methodLinkNest .. => true
  | _ => false)
def okV (ph : Bool) (v : AV) : Prop := match v with
  | .inr (.inr r) => r ∈ vrefs ph ∨ r.1 = 60
  | _ => True
theorem ok_cls {r : AR} (h : okV ph (.inr (.inr r))) {y : Nat × Nat} (hs : sh_cls r.1 = some y) : r ∈ vrefs ph := by
  rcases h with h | h
  · exact h
  · rw [h] at hs; cases hs
theorem ok_arr {r : AR} (h : okV ph (.inr (.inr r))) {y : Nat × Nat} (hs : sh_arr r.1 = some y) : r ∈ vrefs ph := by
  rcases h with h | h
  · exact h
  · rw [h] at hs; cases hs
def okS (ph : Bool) (st : ASt) : Prop := ∀ v ∈ st, okV ph v
def okL (ph : Bool) (ls : ALs) : Prop := ∀ v, some v ∈ ls → okV ph v
def lhas (A : AR → Nat) (nL : Nat) (lsa : Array Slot) (ls : ALs) : Prop := lsa.size = nL ∧ ls.length = nL ∧ lv_wf lsa ∧ ∀ (k : Nat) (v : AV), ls[k]? = some (some v) → lsa[k]? = some (.val (cv A v))
abbrev xW (X : XT) (Q : State → Prop) (H : Heap) (locs : List Loc) (g : JFrame) : Prop := W (xp X) (xl X) (xe X) (xR X) (xs X) (xm X) (xa X) (xb X) (xM X) (xc X) H locs (xcl X) (xsl X) Q g
/-- the machine, come to pc with these locals, this stack, this memory, ends in Q -/
def GG (X : XT) (Q : State → Prop) (pc : Nat) (ls : ALs) (st : ASt) (m : Mem) : Prop :=
  okS (xV X) st → okL (xV X) ls → ∀ (H : Heap) (locs : List Loc) (lsa : Array Slot), va_P (xC X, xI X) vwCl (wsM (xV X) (xA X) (xk X) m) H → va_S (frA (xV X) (xA X)) (xs X).heap H locs → lhas (xA X) (xn X) lsa ls →
    xW X Q H locs (F0 (xm X) pc lsa (st.map (cv (xA X))))
abbrev FT : Type := List (Nat × Nat × Nat)
/-- a class's pool: which field is which, its numbers -/
def ftOk (own : String) (ft : FT) : Prop := ∀ q ∈ ft, ∃ z, vwCl[q.2.1]? = some z ∧ q.2.2 < z.2.2 ∧ Cond.fieldLink own q.1 (z.2.1 q.2.2).1 (z.2.1 q.2.2).2.1 (z.2.1 q.2.2).2.2.1 ∈ wsC
def ctOk (own : String) (ct : List (Nat × Int32)) : Prop := ∀ q ∈ ct, Cond.constant own q.1 q.2 ∈ wsC
def clOk (own : String) (cl : List (Nat × Int64)) : Prop := ∀ q ∈ cl, Cond.constantLong own q.1 q.2 ∈ wsC
abbrev PT : Type := String × FT × List (Nat × Int32) × List (Nat × Int64)
def ptOk (P : PT) : Prop := ftOk P.1 P.2.1 ∧ ctOk P.1 P.2.2.1 ∧ clOk P.1 P.2.2.2
/-- the script: its ints at its address, which isn't the world's -/
def SX (Z : ZT) (U : State) : Prop := va_X (zA Z (60, 0)) (zL Z) (zx Z) U U.heap ∧ zA Z (60, 0) < U.heap.size ∧ ¬ frA (zV Z) (zA Z) (zA Z (60, 0))
/-- what stands in every method: the machine, the code, the words, the classes, the addresses apart -/
def GC (X : XT) (cc : ByteArray) (P : PT) : Prop := (xp X).tables.exec = Jvm.exec ∧ (xc X).code = cc ∧ (xc X).maxLocals = xn X ∧ (xs X).vm.findClass P.1 = some (xm X).cls ∧ (∀ w ∈ wsC, w.before (xa X) (xs X) = true) ∧ (∀ w ∈ nestC, va_Nw w (xs X)) ∧
  va_K (xC X, xI X) vwCl (tysM (xk X)) (xs X) ∧ (injA (xV X) (xA X) ∧ SX (xZ X) (xs X)) ∧ (xM X).locks = false ∧ ptOk P
def ldv (ls : ALs) (k : Nat) : Option AV := match ls[k]? with
  | some (some v) => some v
  | _ => none
def isLg : Option AV → Bool
  | some (.inr (.inl _)) => true
  | _ => false
/-- a long whose second half is stored over is gone -/
def clrL : Option AV → Option AV
  | some (.inr (.inl _)) => none
  | o => o
/-- slot k stored to -/
def stA : ALs → Nat → AV → Option ALs
  | [], _, _ => none
  | _ :: r, 0, v => some (some v :: r)
  | o :: r, k + 1, v => match k with
    | 0 => match r with
      | [] => none
      | _ :: r2 => some (clrL o :: some v :: r2)
    | j + 1 => match stA r (j + 1) v with
      | some l => some (o :: l)
      | none => none
def stI (ls : ALs) (k : Nat) (v : AV) (r : ASt) (m : Mem) : Option (ALs × ASt × Mem) := match stA ls k v with
  | some l => some (l, r, m)
  | none => none
def stL (ls : ALs) (k : Nat) (v : AV) (r : ASt) (m : Mem) : Option (ALs × ASt × Mem) := match stA ls k v, Nat.blt (k + 1) ls.length with
  | some l, true => some (l.set (k + 1) none, r, m)
  | _, _ => none
def ldI (ls : ALs) (k : Nat) (st : ASt) (m : Mem) : Option (ALs × ASt × Mem) := match ldv ls k with
  | some (.inl x) => some (ls, .inl x :: st, m)
  | _ => none
def ldL (ls : ALs) (k : Nat) (st : ASt) (m : Mem) : Option (ALs × ASt × Mem) := match ldv ls k with
  | some (.inr (.inl x)) => some (ls, .inr (.inl x) :: st, m)
  | _ => none
def ldA (ls : ALs) (k : Nat) (st : ASt) (m : Mem) : Option (ALs × ASt × Mem) := match ldv ls k with
  | some (.inr (.inr x)) => some (ls, .inr (.inr x) :: st, m)
  | _ => none
def bin (f : Int32 → Int32 → Int32) (ls : ALs) (st : ASt) (m : Mem) : Option (ALs × ASt × Mem) := match st with
  | .inl y :: .inl x :: r => some (ls, .inl (f x y) :: r, m)
  | _ => none
def una (f : Int32 → Int32) (ls : ALs) (st : ASt) (m : Mem) : Option (ALs × ASt × Mem) := match st with
  | .inl x :: r => some (ls, .inl (f x) :: r, m)
  | _ => none
def getF (ft : FT) (index : Nat) (ls : ALs) (st : ASt) (m : Mem) : Option (ALs × ASt × Mem) := match st with
  | .inr (.inr q) :: r => match ft.lookup index, sh_cls q.1 with
    | some z, some y => match z.1 == y.1 && Nat.blt z.2 y.2 with
      | true => match sh_ref q.1 q.2 z.2 with
        | some a => some (ls, .inr (.inr a) :: r, m)
        | none => some (ls, .inl (m q.1 q.2 z.2) :: r, m)
      | false => none
    | _, _ => none
  | _ => none
def putF (ft : FT) (index : Nat) (ls : ALs) (st : ASt) (m : Mem) : Option (ALs × ASt × Mem) := match st with
  | .inl v :: .inr (.inr q) :: r => match ft.lookup index, sh_cls q.1 with
    | some z, some y => match z.1 == y.1 && Nat.blt z.2 y.2 with
      | true => match sh_ref q.1 q.2 z.2, fkd z.1 z.2 with
        | none, 0 => some (ls, r, mset m q.1 q.2 z.2 v)
        | none, 1 => if v = 0 ∨ v = 1 then some (ls, r, mset m q.1 q.2 z.2 v) else none
        | _, _ => none
      | false => none
    | _, _ => none
  | _ => none
def ilen : Instr → Nat
  | .iload _ => 2
  | .aload _ => 2
  | .lload _ => 2
  | .istore _ => 2
  | .astore _ => 2
  | .lstore _ => 2
  | .bipush _ => 2
  | .ldc _ => 2
  | .sipush _ => 3
  | .iinc _ _ => 3
  | .getfield _ => 3
  | .putfield _ => 3
  | .ldc2_w _ => 3
  | _ => 1
def ex1 (P : PT) (i : Instr) (ls : ALs) (st : ASt) (m : Mem) : Option (ALs × ASt × Mem) := match i with
  | .iconst n => some (ls, .inl (Int32.ofInt n) :: st, m)
  | .bipush n => some (ls, .inl (Int8.ofInt n).toInt32 :: st, m)
  | .sipush n => some (ls, .inl (Int16.ofInt n).toInt32 :: st, m)
  | .lconst n => some (ls, .inr (.inl (Int64.ofNat n.val)) :: st, m)
  | .iload k => ldI ls k st m
  | .iload_n k => ldI ls k.val st m
  | .lload k => ldL ls k st m
  | .lload_n k => ldL ls k.val st m
  | .aload k => ldA ls k st m
  | .aload_n k => ldA ls k.val st m
  | .istore k => match st with
    | .inl x :: r => stI ls k (.inl x) r m
    | _ => none
  | .istore_n k => match st with
    | .inl x :: r => stI ls k.val (.inl x) r m
    | _ => none
  | .astore k => match st with
    | .inr (.inr x) :: r => stI ls k (.inr (.inr x)) r m
    | _ => none
  | .astore_n k => match st with
    | .inr (.inr x) :: r => stI ls k.val (.inr (.inr x)) r m
    | _ => none
  | .lstore k => match st with
    | .inr (.inl x) :: r => stL ls k (.inr (.inl x)) r m
    | _ => none
  | .lstore_n k => match st with
    | .inr (.inl x) :: r => stL ls k.val (.inr (.inl x)) r m
    | _ => none
  | .iinc k n => match ldv ls k with
    | some (.inl x) => stI ls k (.inl (x + Int32.ofInt n)) st m
    | _ => none
  | .iadd => bin (fun x y => x + y) ls st m
  | .isub => bin (fun x y => x - y) ls st m
  | .imul => bin (fun x y => x * y) ls st m
  | .iand => bin (fun x y => x &&& y) ls st m
  | .ior => bin (fun x y => x ||| y) ls st m
  | .ixor => bin (fun x y => x ^^^ y) ls st m
  | .ishl => bin (fun x y => x <<< (y &&& 31)) ls st m
  | .ishr => bin (fun x y => x >>> (y &&& 31)) ls st m
  | .ineg => una (fun x => -x) ls st m
  | .i2b => una (fun x => x.toInt8.toInt32) ls st m
  | .i2s => una (fun x => x.toInt16.toInt32) ls st m
  | .i2l => match st with
    | .inl x :: r => some (ls, .inr (.inl x.toInt64) :: r, m)
    | _ => none
  | .lcmp => match st with
    | .inr (.inl y) :: .inr (.inl x) :: r => some (ls, .inl (lg_cmp x y) :: r, m)
    | _ => none
  | .dup => match st with
    | .inl x :: r => some (ls, .inl x :: .inl x :: r, m)
    | .inr (.inr x) :: r => some (ls, .inr (.inr x) :: .inr (.inr x) :: r, m)
    | _ => none
  | .dup2 => match st with
    | .inl x :: .inl y :: r => some (ls, .inl x :: .inl y :: .inl x :: .inl y :: r, m)
    | .inl x :: .inr (.inr y) :: r => some (ls, .inl x :: .inr (.inr y) :: .inl x :: .inr (.inr y) :: r, m)
    | _ => none
  | .getfield k => getF P.2.1 k ls st m
  | .putfield k => putF P.2.1 k ls st m
  | .ldc k => match P.2.2.1.lookup k with
    | some x => some (ls, .inl x :: st, m)
    | none => none
  | .ldc2_w k => match P.2.2.2.lookup k with
    | some x => some (ls, .inr (.inl x) :: st, m)
    | none => none
  | _ => none
end
section
/-! ===== the locals ===== -/
variable {ph : Bool}
def lsL (A : AR → Nat) (ls : ALs) : List (Nat × Value) := (List.range ls.length).filterMap fun k => match ls[k]? with
  | some (some v) => some (k, cv A v)
  | _ => none
theorem mem_lsL {A : AR → Nat} {ls : ALs} {q : Nat × Value} : q ∈ lsL A ls ↔ ∃ v, ls[q.1]? = some (some v) ∧ q.2 = cv A v := by
  unfold lsL
  rw [List.mem_filterMap]
  constructor
  · rintro ⟨k, hk, h⟩
    cases hv : ls[k]? with
    | none => rw [hv] at h; cases h
    | some o =>
      cases o with
      | none => rw [hv] at h; cases h
      | some v => rw [hv] at h; cases h; exact ⟨v, hv, rfl⟩
  · rintro ⟨v, h1, h2⟩
    refine ⟨q.1, List.mem_range.mpr (List.getElem?_eq_some_iff.mp h1).1, ?_⟩
    rw [h1]
    exact congrArg some (Prod.ext rfl h2.symm)
theorem lhas_has {A : AR → Nat} {nL : Nat} {lsa : Array Slot} {ls : ALs} (h : lhas A nL lsa ls) : lv_has lsa nL (lsL A ls) := by
  refine ⟨h.1, h.2.2.1, fun q hq => ?_⟩
  obtain ⟨v, h1, h2⟩ := mem_lsL.mp hq
  rw [h.2.2.2 q.1 v h1, h2]
theorem stA_spec : ∀ {ls : ALs} {k : Nat} {v : AV} {l : ALs}, stA ls k v = some l → k < ls.length ∧ l.length = ls.length ∧ ∀ (j : Nat) (w : AV), l[j]? = some (some w) → (j = k ∧ w = v) ∨ (j ≠ k ∧ ls[j]? = some (some w) ∧ (j + 1 = k → isLg (some w) = false))
  | [], _, _, _, h => by cases h
  | o :: r, 0, v, l, h => by
    cases h
    refine ⟨by simp, by simp, fun j w hw => ?_⟩
    cases j with
    | zero => simp only [List.getElem?_cons_zero] at hw; cases hw; exact Or.inl ⟨rfl, rfl⟩
    | succ j => exact Or.inr ⟨by omega, by simpa using hw, fun q => by omega⟩
  | o :: r, 1, v, l, h => by
    cases r with
    | nil => cases h
    | cons a r2 =>
      cases h
      refine ⟨by simp, by simp, fun j w hw => ?_⟩
      match j with
      | 0 =>
        simp only [List.getElem?_cons_zero] at hw
        have hw : clrL o = some w := Option.some.inj hw
        match o, hw with
        | none, hw => cases hw
        | some (.inl x), hw => cases hw; exact Or.inr ⟨by omega, rfl, fun _ => rfl⟩
        | some (.inr (.inl x)), hw => cases hw
        | some (.inr (.inr x)), hw => cases hw; exact Or.inr ⟨by omega, rfl, fun _ => rfl⟩
      | 1 => simp only [List.getElem?_cons_succ, List.getElem?_cons_zero] at hw; cases hw; exact Or.inl ⟨rfl, rfl⟩
      | j + 2 => exact Or.inr ⟨by omega, by simpa using hw, fun q => by omega⟩
  | o :: r, k + 2, v, l, h => by
    have h' : (match stA r (k + 1) v with
      | some l => some (o :: l)
      | none => none) = some l := h
    cases hr : stA r (k + 1) v with
    | none => rw [hr] at h'; cases h'
    | some l2 =>
      rw [hr] at h'
      cases h'
      obtain ⟨h1, h2, h3⟩ := stA_spec hr
      refine ⟨by simp only [List.length_cons]; omega, by simp [h2], fun j w hw => ?_⟩
      cases j with
      | zero => exact Or.inr ⟨by omega, by simpa using hw, fun q => by omega⟩
      | succ j =>
        rcases h3 j w (by simpa using hw) with ⟨g1, g2⟩ | ⟨g1, g2, g3⟩
        · exact Or.inl ⟨by omega, g2⟩
        · exact Or.inr ⟨by omega, by simpa using g2, fun q => g3 (by omega)⟩
theorem cat_of {A : AR → Nat} {w : AV} (h : isLg (some w) = false) : (cv A w).category = 1 := by
  match w, h with
  | .inl _, _ => rfl
  | .inr (.inr _), _ => rfl
theorem lhas_set {A : AR → Nat} {nL : Nat} {lsa : Array Slot} {ls l : ALs} {k : Nat} {v : AV} (hn : ls.length = nL) (hk : stA ls k v = some l)
    (h : lv_has lsa nL ((k, cv A v) :: (lsL A ls).filter (fun q => !(q.1 == k) && !(q.1 + 1 == k && q.2.category == 2)))) : lhas A nL lsa l := by
  obtain ⟨hkl, hlen, hst⟩ := stA_spec hk
  refine ⟨h.1, hlen.trans hn, h.2.1, fun j w hj => ?_⟩
  rcases hst j w hj with ⟨rfl, rfl⟩ | ⟨e, hj, hlg⟩
  · exact h.2.2 (j, cv A w) List.mem_cons_self
  · refine h.2.2 (j, cv A w) (List.mem_cons_of_mem _ (List.mem_filter.mpr ⟨mem_lsL.mpr ⟨w, hj, rfl⟩, ?_⟩))
    have e2 : (j == k) = false := by simpa using e
    by_cases e3 : j + 1 = k
    · have hc := cat_of (A := A) (hlg e3)
      simp [e2, hc]
    · have e4 : (j + 1 == k) = false := by simpa using e3
      simp [e2, e4]
theorem lhas_setL {A : AR → Nat} {nL : Nat} {lsa : Array Slot} {ls l : ALs} {k : Nat} {v : AV} (hn : ls.length = nL) (hk : stA ls k v = some l)
    (h : lv_has lsa nL ((k, cv A v) :: (lsL A ls).filter (fun q => !(q.1 == k) && (!(q.1 == k + 1) && !(q.1 + 1 == k && q.2.category == 2))))) : lhas A nL lsa (l.set (k + 1) none) := by
  obtain ⟨hkl, hlen, hst⟩ := stA_spec hk
  refine ⟨h.1, by simpa using hlen.trans hn, h.2.1, fun j w hj => ?_⟩
  rw [List.getElem?_set] at hj
  by_cases e0 : k + 1 = j
  · rw [if_pos e0] at hj
    split at hj <;> cases hj
  rw [if_neg e0] at hj
  rcases hst j w hj with ⟨rfl, rfl⟩ | ⟨e, hj, hlg⟩
  · exact h.2.2 (j, cv A w) List.mem_cons_self
  · refine h.2.2 (j, cv A w) (List.mem_cons_of_mem _ (List.mem_filter.mpr ⟨mem_lsL.mpr ⟨w, hj, rfl⟩, ?_⟩))
    have e2 : (j == k) = false := by simpa using e
    have e5 : (j == k + 1) = false := by simpa using fun q => e0 q.symm
    by_cases e3 : j + 1 = k
    · have hc := cat_of (A := A) (hlg e3)
      simp [e2, e5, hc]
    · have e4 : (j + 1 == k) = false := by simpa using e3
      simp [e2, e5, e4]
theorem ldv_spec {ls : ALs} {k : Nat} {v : AV} (h : ldv ls k = some v) : ls[k]? = some (some v) := by
  unfold ldv at h
  split at h
  · cases h; assumption
  · cases h
theorem okL_at {ls : ALs} {k : Nat} {v : AV} (h : okL ph ls) (hk : ls[k]? = some (some v)) : okV ph v := h v (List.mem_of_getElem? hk)
theorem okL_set {ls l : ALs} {k : Nat} {v : AV} (h : okL ph ls) (hv : okV ph v) (hk : stA ls k v = some l) : okL ph l := by
  intro w hw
  obtain ⟨j, hj⟩ := List.getElem?_of_mem hw
  rcases (stA_spec hk).2.2 j w hj with ⟨-, rfl⟩ | ⟨-, hj, -⟩
  · exact hv
  · exact h w (List.mem_of_getElem? hj)
theorem okL_setN {ls : ALs} {k : Nat} (h : okL ph ls) : okL ph (ls.set k none) := by
  intro w hw
  rcases List.mem_or_eq_of_mem_set hw with h1 | h1
  · exact h w h1
  · cases h1
theorem okS_cons {v : AV} {st : ASt} : okS ph (v :: st) ↔ okV ph v ∧ okS ph st := by
  constructor
  · intro h; exact ⟨h v List.mem_cons_self, fun w hw => h w (List.mem_cons_of_mem _ hw)⟩
  · rintro ⟨h1, h2⟩ w hw
    rcases List.mem_cons.mp hw with rfl | hw
    · exact h1
    · exact h2 w hw
theorem cl_cases {P : Nat → vw_C → Prop} (h0 : P 0 (RX0, TX0, 14)) (h1 : P 1 (RX1, TX1, 5)) (h2 : P 2 (RX2, TX2, 3)) (h3 : P 3 (RX3, TX3, 5)) (h4 : P 4 (RX4, TX4, 4)) (h5 : P 5 (RX5, TX5, 4)) (h6 : P 6 (RX6, TX6, 7)) :
    ∀ (ci : Nat) (z : vw_C), vwCl[ci]? = some z → P ci z := by
  intro ci z h
  match ci, h with
  | 0, h => cases h; exact h0
  | 1, h => cases h; exact h1
  | 2, h => cases h; exact h2
  | 3, h => cases h; exact h3
  | 4, h => cases h; exact h4
  | 5, h => cases h; exact h5
  | 6, h => cases h; exact h6
  | n + 7, h => simp [vwCl] at h
theorem u_all : ∀ (ci : Nat) (z : vw_C), vwCl[ci]? = some z → ∀ w ∈ u_ws z.1 z.2.1 z.2.2, w ∈ wsC :=
  cl_cases (by decide +kernel) (by decide +kernel) (by decide +kernel) (by decide +kernel) (by decide +kernel) (by decide +kernel) (by decide +kernel)
def tyK (ci : Nat) : Nat → FieldType := match ci with
  | 0 => tyX0
  | 1 => tyX1
  | 2 => tyX2
  | 3 => tyX3
  | 4 => tyX4
  | 5 => tyX5
  | _ => tyX6
theorem ty_all : ∀ (ci : Nat) (z : vw_C), vwCl[ci]? = some z → ∀ k, k < z.2.2 → parseFieldDescriptor (z.2.1 k).2.2.1 = some (tyK ci k) :=
  cl_cases tyX0_ok tyX1_ok tyX2_ok tyX3_ok tyX4_ok tyX5_ok tyX6_ok
theorem nm_all : ∀ (ci : Nat) (z : vw_C), vwCl[ci]? = some z → ∀ a, a < z.2.2 → ∀ b, b < z.2.2 → a ≠ b → (z.2.1 a).2.1 ≠ (z.2.1 b).2.1 :=
  cl_cases nmX0 nmX1 nmX2 nmX3 nmX4 nmX5 nmX6
theorem fkd_spec {ci k : Nat} {z : vw_C} (hz : vwCl[ci]? = some z) (h : fkd ci k = 0 ∨ fkd ci k = 1) : (z.2.1 k).2.2.2 = false ∧ (fkd ci k = 0 → parseFieldDescriptor (z.2.1 k).2.2.1 = some .int) ∧ (fkd ci k = 1 → parseFieldDescriptor (z.2.1 k).2.2.1 = some .boolean) := by
  unfold fkd at h ⊢
  rw [hz] at h ⊢
  dsimp only at h ⊢
  by_cases h1 : (z.2.1 k).2.2.2 = false
  · rw [if_pos h1] at h ⊢
    by_cases h2 : (z.2.1 k).2.2.1 = "I"
    · rw [if_pos h2] at h ⊢
      refine ⟨h1, fun _ => ?_, (fun q => absurd q (by decide))⟩
      rw [h2]
      decide +kernel
    · rw [if_neg h2] at h ⊢
      by_cases h3 : (z.2.1 k).2.2.1 = "Z"
      · rw [if_pos h3] at h ⊢
        refine ⟨h1, (fun q => absurd q (by decide)), fun _ => ?_⟩
        rw [h3]
        decide +kernel
      · rw [if_neg h3] at h
        omega
  · rw [if_neg h1] at h
    omega
/-! ===== a step ===== -/
theorem gg_get {X : XT} {cc : ByteArray} {P : PT} {Q : State → Prop} (hC : GC X cc P) {pc k : Nat} {ls ls' : ALs} {st st' : ASt} {m m' : Mem} (hd : decode cc pc = .ok (.getfield k, 3)) (hx : getF P.2.1 k ls st m = some (ls', st', m')) (kk : GG X Q (pc + 3) ls' st' m') : GG X Q pc ls st m := by
  obtain ⟨hexec, hb, hml, hown, hts, -, hK, hA, -, hpt, -, -⟩ := hC
  intro hS hL H locs lsa hP hSt hl
  unfold getF at hx
  split at hx
  case h_2 => cases hx
  rename_i q r
  split at hx
  case h_2 => cases hx
  rename_i z y hz hy
  split at hx
  case h_2 => cases hx
  rename_i hb2
  simp only [Bool.and_eq_true, beq_iff_eq] at hb2
  obtain ⟨e1, e2⟩ := hb2
  have e2 : z.2 < y.2 := Nat.blt_eq.mp e2
  obtain ⟨t, i⟩ := q
  have hq : (t, i) ∈ vrefs (xV X) := ok_cls (hS _ List.mem_cons_self) hy
  obtain ⟨ci, n⟩ := y
  obtain ⟨index, ci', k'⟩ : Nat × Nat × Nat := (k, z)
  obtain ⟨cz, hcz, hlt, hlink⟩ := hpt (k, z) (by
    have := List.lookup_eq_some_iff.mp hz
    obtain ⟨l1, l2, h1, -⟩ := this
    rw [h1]; simp)
  obtain ⟨q0, hq0, hw⟩ := wsM_at (ph := xV X) (A := xA X) (cs := xk X) (m := m) hq
  rw [cellOf_obj (k := z.2) hy] at hw
  dsimp only at e1 e2 hlt hlink hcz
  rw [e1] at hcz
  have hv : ((List.range n).map (fun k => match sh_ref t i k with
    | some z => Value.ref (xA X z)
    | none => Value.int (m t i k)))[z.2]? = some (match sh_ref t i z.2 with
    | some z => Value.ref (xA X z)
    | none => Value.int (m t i z.2)) := by
    rw [List.getElem?_map, List.getElem?_range e2]; rfl
  refine va_get (D := (xC X, xI X)) (ci := ci) (C := cz.1) (T := cz.2.1) (N := cz.2.2) hexec hb hts (u_all ci cz hcz) hown hK hP q0 hw hcz z.2 hlt (hts _ hlink) (fun _ h9 => h9) hv hd ?_
  have hS' : okS (xV X) r := (okS_cons.mp hS).2
  cases hr : sh_ref t i z.2 with
  | none =>
    rw [hr] at hx
    cases hx
    exact kk (okS_cons.mpr ⟨trivial, hS'⟩) hL H locs lsa hP hSt hl
  | some a =>
    rw [hr] at hx
    cases hx
    refine kk (okS_cons.mpr ⟨Or.inl (sh_closed hq (k := z.2) ?_ hr), hS'⟩) hL H locs lsa hP hSt hl
    show z.2 < lenOf t
    unfold lenOf
    rw [hy]
    exact e2
theorem gg_put {X : XT} {cc : ByteArray} {P : PT} {Q : State → Prop} (hC : GC X cc P) {pc k : Nat} {ls ls' : ALs} {st st' : ASt} {m m' : Mem} (hd : decode cc pc = .ok (.putfield k, 3)) (hx : putF P.2.1 k ls st m = some (ls', st', m')) (kk : GG X Q (pc + 3) ls' st' m') : GG X Q pc ls st m := by
  obtain ⟨hexec, hb, hml, hown, hts, -, hK, hA, -, hpt, -, -⟩ := hC
  intro hS hL H locs lsa hP hSt hl
  unfold putF at hx
  split at hx
  case h_2 => cases hx
  rename_i v q r
  split at hx
  case h_2 => cases hx
  rename_i z y hz hy
  split at hx
  case h_2 => cases hx
  rename_i hb2
  simp only [Bool.and_eq_true, beq_iff_eq] at hb2
  obtain ⟨e1, e2⟩ := hb2
  have e2 : z.2 < y.2 := Nat.blt_eq.mp e2
  obtain ⟨t, i⟩ := q
  have hS1 := (okS_cons.mp hS).2
  have hq : (t, i) ∈ vrefs (xV X) := ok_cls (hS1 _ List.mem_cons_self) hy
  have hS' : okS (xV X) r := (okS_cons.mp hS1).2
  obtain ⟨ci, n⟩ := y
  obtain ⟨cz, hcz, hlt, hlink⟩ := hpt (k, z) (by
    have := List.lookup_eq_some_iff.mp hz
    obtain ⟨l1, l2, h1, -⟩ := this
    rw [h1]; simp)
  obtain ⟨q0, hq0, hw⟩ := wsM_at (ph := xV X) (A := xA X) (cs := xk X) (m := m) hq
  rw [cellOf_obj (k := z.2) hy] at hw
  dsimp only at e1 e2 hlt hlink hcz
  rw [e1] at hcz
  have key : ∀ ty : FieldType, sh_ref t i z.2 = none → (cz.2.1 z.2).2.2.2 = false → parseFieldDescriptor (cz.2.1 z.2).2.2.1 = some ty → narrow ty (.int v) = .int v → fits ty (.int v) = true → GG X Q (pc + 3) ls r (mset m t i z.2 v) → xW X Q H locs (F0 (xm X) pc lsa (List.map (cv (xA X)) (Sum.inl v :: Sum.inr (Sum.inr (t, i)) :: r))) := by
    intro ty hr hfin hd2 hn hf kk
    refine va_put (D := (xC X, xI X)) (ci := ci) (v := .int v) (ty := ty) (C := cz.1) (T := cz.2.1) (N := cz.2.2) hexec hb hts (u_all ci cz hcz) (tyK ci) (ty_all ci cz hcz) (nm_all ci cz hcz) hown hK hP (wsM_D hA.1 m) hSt q0 hw hcz z.2 hlt (hts _ hlink) (fun _ h9 => h9) hfin hd2 hn hf (by simpa using e2) hd (fun H1 locs1 hP1 _ hS1 => ?_)
    rw [← cellOf_set (cs := xk X) hy hr, wsM_set hq0] at hP1
    exact kk hS' hL H1 locs1 lsa hP1 hS1 hl
  split at hx
  case h_3 => cases hx
  case h_1 h5 h6 =>
    cases hx
    obtain ⟨f1, f2, f3⟩ := fkd_spec hcz (k := z.2) (Or.inl (by rw [← e1]; exact h6))
    exact key .int h5 f1 (f2 (by rw [← e1]; exact h6)) rfl rfl kk
  case h_2 h5 h6 =>
    split at hx
    case isFalse => cases hx
    case isTrue hv =>
      cases hx
      obtain ⟨f1, f2, f3⟩ := fkd_spec hcz (k := z.2) (Or.inr (by rw [← e1]; exact h6))
      refine key .boolean h5 f1 (f3 (by rw [← e1]; exact h6)) ?_ ?_ kk
      · rcases hv with rfl | rfl <;> rfl
      · rcases hv with rfl | rfl <;> rfl
theorem gg_bin {X : XT} {Q : State → Prop} {f : Int32 → Int32 → Int32} {pc : Nat} {ls ls' : ALs} {st st' : ASt} {m m' : Mem} (row : ∀ (x y : Int32) (H : Heap) (locs : List Loc) (lsa : Array Slot) (rest : List Value), xW X Q H locs (F0 (xm X) (pc + 1) lsa (.int (f x y) :: rest)) → xW X Q H locs (F0 (xm X) pc lsa (.int y :: .int x :: rest)))
    (hx : bin f ls st m = some (ls', st', m')) (kk : GG X Q (pc + 1) ls' st' m') : GG X Q pc ls st m := by
  intro hS hL H locs lsa hP hSt hl
  unfold bin at hx
  split at hx
  case h_2 => cases hx
  cases hx
  exact row _ _ _ _ _ _ (kk (okS_cons.mpr ⟨trivial, (okS_cons.mp (okS_cons.mp hS).2).2⟩) hL H locs lsa hP hSt hl)
theorem gg_una {X : XT} {Q : State → Prop} {f : Int32 → Int32} {pc : Nat} {ls ls' : ALs} {st st' : ASt} {m m' : Mem} (row : ∀ (x : Int32) (H : Heap) (locs : List Loc) (lsa : Array Slot) (rest : List Value), xW X Q H locs (F0 (xm X) (pc + 1) lsa (.int (f x) :: rest)) → xW X Q H locs (F0 (xm X) pc lsa (.int x :: rest)))
    (hx : una f ls st m = some (ls', st', m')) (kk : GG X Q (pc + 1) ls' st' m') : GG X Q pc ls st m := by
  intro hS hL H locs lsa hP hSt hl
  unfold una at hx
  split at hx
  case h_2 => cases hx
  cases hx
  exact row _ _ _ _ _ (kk (okS_cons.mpr ⟨trivial, (okS_cons.mp hS).2⟩) hL H locs lsa hP hSt hl)
/-- a constant comes upon the stack -/
theorem gg_push {X : XT} {Q : State → Prop} {pc n : Nat} {v : AV} {ls : ALs} {st : ASt} {m : Mem} (row : ∀ (H : Heap) (locs : List Loc) (lsa : Array Slot) (rest : List Value), xW X Q H locs (F0 (xm X) (pc + n) lsa (cv (xA X) v :: rest)) → xW X Q H locs (F0 (xm X) pc lsa rest)) (hv : okV (xV X) v)
    (kk : GG X Q (pc + n) ls (v :: st) m) : GG X Q pc ls st m := by
  intro hS hL H locs lsa hP hSt hl
  exact row _ _ _ _ (kk (okS_cons.mpr ⟨hv, hS⟩) hL H locs lsa hP hSt hl)
/-- a local comes upon the stack -/
theorem gg_load {X : XT} {Q : State → Prop} {pc n k : Nat} {v : AV} {ls : ALs} {st : ASt} {m : Mem} (hv : ldv ls k = some v) (row : ∀ (H : Heap) (locs : List Loc) (lsa : Array Slot) (rest : List Value), lsa[k]? = some (.val (cv (xA X) v)) → xW X Q H locs (F0 (xm X) (pc + n) lsa (cv (xA X) v :: rest)) → xW X Q H locs (F0 (xm X) pc lsa rest))
    (kk : GG X Q (pc + n) ls (v :: st) m) : GG X Q pc ls st m := by
  intro hS hL H locs lsa hP hSt hl
  have h1 := ldv_spec hv
  exact row _ _ _ _ (hl.2.2.2 k v h1) (kk (okS_cons.mpr ⟨okL_at hL h1, hS⟩) hL H locs lsa hP hSt hl)
theorem gg_ldI {X : XT} {Q : State → Prop} {pc n k : Nat} {ls ls' : ALs} {st st' : ASt} {m m' : Mem} (row : ∀ (x : Int32) (H : Heap) (locs : List Loc) (lsa : Array Slot) (rest : List Value), lsa[k]? = some (.val (.int x)) → xW X Q H locs (F0 (xm X) (pc + n) lsa (.int x :: rest)) → xW X Q H locs (F0 (xm X) pc lsa rest))
    (hx : ldI ls k st m = some (ls', st', m')) (kk : GG X Q (pc + n) ls' st' m') : GG X Q pc ls st m := by
  unfold ldI at hx
  split at hx
  case h_2 => cases hx
  rename_i x hv
  cases hx
  exact gg_load hv (row x) kk
theorem gg_ldL {X : XT} {Q : State → Prop} {pc n k : Nat} {ls ls' : ALs} {st st' : ASt} {m m' : Mem} (row : ∀ (x : Int64) (H : Heap) (locs : List Loc) (lsa : Array Slot) (rest : List Value), lsa[k]? = some (.val (.long x)) → xW X Q H locs (F0 (xm X) (pc + n) lsa (.long x :: rest)) → xW X Q H locs (F0 (xm X) pc lsa rest))
    (hx : ldL ls k st m = some (ls', st', m')) (kk : GG X Q (pc + n) ls' st' m') : GG X Q pc ls st m := by
  unfold ldL at hx
  split at hx
  case h_2 => cases hx
  rename_i x hv
  cases hx
  exact gg_load hv (row x) kk
theorem gg_ldA {X : XT} {Q : State → Prop} {pc n k : Nat} {ls ls' : ALs} {st st' : ASt} {m m' : Mem} (row : ∀ (x : Nat) (H : Heap) (locs : List Loc) (lsa : Array Slot) (rest : List Value), lsa[k]? = some (.val (.ref x)) → xW X Q H locs (F0 (xm X) (pc + n) lsa (.ref x :: rest)) → xW X Q H locs (F0 (xm X) pc lsa rest))
    (hx : ldA ls k st m = some (ls', st', m')) (kk : GG X Q (pc + n) ls' st' m') : GG X Q pc ls st m := by
  unfold ldA at hx
  split at hx
  case h_2 => cases hx
  rename_i x hv
  cases hx
  exact gg_load hv (row (xA X x)) kk
theorem gg_stI {X : XT} {Q : State → Prop} {pc n k : Nat} {v : AV} {pre : List Value} {ls ls' : ALs} {r st' : ASt} {m m' : Mem} (row : ∀ (H : Heap) (locs : List Loc) (lsa : Array Slot) (lv : List (Nat × Value)), lv_has lsa (xn X) lv → k < xn X → (∀ j, ldv ls k = some j → lsa[k]? = some (.val (cv (xA X) j)) ∧ (k, cv (xA X) j) ∈ lv) →
      (∀ ls' : Array Slot, lv_has ls' (xn X) ((k, cv (xA X) v) :: lv.filter (fun q => !(q.1 == k) && !(q.1 + 1 == k && q.2.category == 2))) → xW X Q H locs (F0 (xm X) (pc + n) ls' (r.map (cv (xA X))))) → xW X Q H locs (F0 (xm X) pc lsa (pre ++ r.map (cv (xA X)))))
    (hx : stI ls k v r m = some (ls', st', m')) (kk : GG X Q (pc + n) ls' st' m') (hv : okL (xV X) ls → okV (xV X) v) : okS (xV X) r → okL (xV X) ls → ∀ (H : Heap) (locs : List Loc) (lsa : Array Slot), va_P (xC X, xI X) vwCl (wsM (xV X) (xA X) (xk X) m) H → va_S (frA (xV X) (xA X)) (xs X).heap H locs → lhas (xA X) (xn X) lsa ls →
    xW X Q H locs (F0 (xm X) pc lsa (pre ++ r.map (cv (xA X)))) := by
  intro hS hL H locs lsa hP hSt hl
  unfold stI at hx
  split at hx
  case h_2 => cases hx
  rename_i l hm
  cases hx
  have hk := (stA_spec hm).1
  refine row H locs lsa _ (lhas_has hl) (by rw [← hl.2.1]; exact hk) (fun j hj => ?_) (fun lsa' h' => kk hS (okL_set hL (hv hL) hm) H locs lsa' hP hSt (lhas_set hl.2.1 hm h'))
  exact ⟨hl.2.2.2 k j (ldv_spec hj), mem_lsL.mpr ⟨j, ldv_spec hj, rfl⟩⟩
theorem gg_stL {X : XT} {Q : State → Prop} {pc n k : Nat} {v : AV} {pre : List Value} {ls ls' : ALs} {r st' : ASt} {m m' : Mem} (row : ∀ (H : Heap) (locs : List Loc) (lsa : Array Slot) (lv : List (Nat × Value)), lv_has lsa (xn X) lv → k + 1 < xn X →
      (∀ ls' : Array Slot, lv_has ls' (xn X) ((k, cv (xA X) v) :: lv.filter (fun q => !(q.1 == k) && (!(q.1 == k + 1) && !(q.1 + 1 == k && q.2.category == 2)))) → xW X Q H locs (F0 (xm X) (pc + n) ls' (r.map (cv (xA X))))) → xW X Q H locs (F0 (xm X) pc lsa (pre ++ r.map (cv (xA X)))))
    (hx : stL ls k v r m = some (ls', st', m')) (kk : GG X Q (pc + n) ls' st' m') (hv : okV (xV X) v) : okS (xV X) r → okL (xV X) ls → ∀ (H : Heap) (locs : List Loc) (lsa : Array Slot), va_P (xC X, xI X) vwCl (wsM (xV X) (xA X) (xk X) m) H → va_S (frA (xV X) (xA X)) (xs X).heap H locs → lhas (xA X) (xn X) lsa ls →
    xW X Q H locs (F0 (xm X) pc lsa (pre ++ r.map (cv (xA X)))) := by
  intro hS hL H locs lsa hP hSt hl
  unfold stL at hx
  split at hx
  case h_2 => cases hx
  rename_i l hm hb
  have hb : k + 1 < ls.length := Nat.blt_eq.mp hb
  cases hx
  exact row H locs lsa _ (lhas_has hl) (by rw [← hl.2.1]; exact hb) (fun lsa' h' => kk hS (okL_setN (okL_set hL hv hm)) H locs lsa' hP hSt (lhas_setL hl.2.1 hm h'))
set_option maxHeartbeats 4000000 in
theorem gg_ex1 {X : XT} {cc : ByteArray} {P : PT} {Q : State → Prop} (hC : GC X cc P) {pc : Nat} {i : Instr} {ls ls' : ALs} {st st' : ASt} {m m' : Mem} (hd : decode cc pc = .ok (i, ilen i)) (hx : ex1 P i ls st m = some (ls', st', m')) (kk : GG X Q (pc + ilen i) ls' st' m') : GG X Q pc ls st m := by
  have hexec := hC.1
  have hb := hC.2.1
  have hown := hC.2.2.2.1
  have hts := hC.2.2.2.2.1
  have hpt := hC.2.2.2.2.2.2.2.2.2
  unfold ex1 at hx
  split at hx
  · cases hx; exact gg_push (v := .inl _) (fun H locs lsa rest k => lv_iconst hexec hb hd rfl k) trivial kk
  · cases hx; exact gg_push (v := .inl _) (fun H locs lsa rest k => lv_bipush hexec hb hd rfl k) trivial kk
  · cases hx; exact gg_push (v := .inl _) (fun H locs lsa rest k => lv_sipush hexec hb hd rfl k) trivial kk
  · cases hx; exact gg_push (v := .inr (.inl _)) (fun H locs lsa rest k => lv_lconst hexec hb hd rfl k) trivial kk
  · exact gg_ldI (fun x H locs lsa rest h k => lv_iload hexec hb hd h k) hx kk
  · exact gg_ldI (fun x H locs lsa rest h k => lv_iload_n hexec hb hd rfl h k) hx kk
  · exact gg_ldL (fun x H locs lsa rest h k => lv_lload hexec hb hd h k) hx kk
  · exact gg_ldL (fun x H locs lsa rest h k => lv_lload_n hexec hb hd rfl h k) hx kk
  · exact gg_ldA (fun x H locs lsa rest h k => lv_aload hexec hb hd h k) hx kk
  · exact gg_ldA (fun x H locs lsa rest h k => lv_aload_n hexec hb hd rfl h k) hx kk
  · split at hx
    case h_2 => cases hx
    rename_i x r
    exact fun hS hL => gg_stI (n := 2) (v := .inl x) (pre := [.int x]) (fun H locs lsa lv h hn _ k => lv_istore hexec hb hd h hn rfl k) hx kk (fun _ => trivial) (okS_cons.mp hS).2 hL
  · split at hx
    case h_2 => cases hx
    rename_i x r
    exact fun hS hL => gg_stI (n := 1) (v := .inl x) (pre := [.int x]) (fun H locs lsa lv h hn _ k => lv_istore_n hexec hb hd rfl h hn rfl k) hx kk (fun _ => trivial) (okS_cons.mp hS).2 hL
  · split at hx
    case h_2 => cases hx
    rename_i x r
    exact fun hS hL => gg_stI (n := 2) (v := .inr (.inr x)) (pre := [.ref (xA X x)]) (fun H locs lsa lv h hn _ k => lv_astore hexec hb hd h hn rfl k) hx kk (fun _ => (okS_cons.mp hS).1) (okS_cons.mp hS).2 hL
  · split at hx
    case h_2 => cases hx
    rename_i x r
    exact fun hS hL => gg_stI (n := 1) (v := .inr (.inr x)) (pre := [.ref (xA X x)]) (fun H locs lsa lv h hn _ k => lv_astore_n hexec hb hd rfl h hn rfl k) hx kk (fun _ => (okS_cons.mp hS).1) (okS_cons.mp hS).2 hL
  · split at hx
    case h_2 => cases hx
    rename_i x r
    exact fun hS hL => gg_stL (n := 2) (v := .inr (.inl x)) (pre := [.long x]) (fun H locs lsa lv h hn k => lv_lstore hexec hb hd h hn rfl k) hx kk trivial (okS_cons.mp hS).2 hL
  · split at hx
    case h_2 => cases hx
    rename_i x r
    exact fun hS hL => gg_stL (n := 1) (v := .inr (.inl x)) (pre := [.long x]) (fun H locs lsa lv h hn k => lv_lstore_n hexec hb hd rfl h hn rfl k) hx kk trivial (okS_cons.mp hS).2 hL
  · split at hx
    case h_2 => cases hx
    rename_i x hv
    refine fun hS hL => gg_stI (n := 3) (v := .inl _) (pre := []) (fun H locs lsa lv h hn hj k => ?_) hx kk (fun _ => trivial) hS hL
    obtain ⟨q, hq⟩ := List.getElem?_of_mem (hj _ hv).2
    exact lv_iinc hexec hb hd h hq rfl hn rfl k
  · exact gg_bin (fun x y H locs lsa rest k => lv_iadd hexec hb hd k) hx kk
  · exact gg_bin (fun x y H locs lsa rest k => lv_isub hexec hb hd k) hx kk
  · exact gg_bin (fun x y H locs lsa rest k => lv_imul hexec hb hd k) hx kk
  · exact gg_bin (fun x y H locs lsa rest k => lv_iand hexec hb hd k) hx kk
  · exact gg_bin (fun x y H locs lsa rest k => lv_ior hexec hb hd k) hx kk
  · exact gg_bin (fun x y H locs lsa rest k => lv_ixor hexec hb hd k) hx kk
  · exact gg_bin (fun x y H locs lsa rest k => lv_ishl hexec hb hd k) hx kk
  · exact gg_bin (fun x y H locs lsa rest k => lv_ishr hexec hb hd k) hx kk
  · exact gg_una (fun x H locs lsa rest k => lv_ineg hexec hb hd k) hx kk
  · exact gg_una (fun x H locs lsa rest k => lv_i2b hexec hb hd rfl k) hx kk
  · exact gg_una (fun x H locs lsa rest k => lv_i2s hexec hb hd rfl k) hx kk
  · split at hx
    case h_2 => cases hx
    cases hx
    exact fun hS hL H locs lsa hP hSt hl => lv_i2l hexec hb hd rfl (kk (okS_cons.mpr ⟨trivial, (okS_cons.mp hS).2⟩) hL H locs lsa hP hSt hl)
  · split at hx
    case h_2 => cases hx
    cases hx
    exact fun hS hL H locs lsa hP hSt hl => W.lcmp hexec hb hd (kk (okS_cons.mpr ⟨trivial, (okS_cons.mp (okS_cons.mp hS).2).2⟩) hL H locs lsa hP hSt hl)
  · split at hx
    case h_3 => cases hx
    · cases hx
      exact fun hS hL H locs lsa hP hSt hl => lv_dup hexec hb hd rfl (kk (okS_cons.mpr ⟨trivial, hS⟩) hL H locs lsa hP hSt hl)
    · cases hx
      exact fun hS hL H locs lsa hP hSt hl => lv_dup hexec hb hd rfl (kk (okS_cons.mpr ⟨(okS_cons.mp hS).1, hS⟩) hL H locs lsa hP hSt hl)
  · split at hx
    case h_3 => cases hx
    · cases hx
      exact fun hS hL H locs lsa hP hSt hl => lv_dup2_11 hexec hb hd rfl rfl (kk (okS_cons.mpr ⟨trivial, okS_cons.mpr ⟨trivial, hS⟩⟩) hL H locs lsa hP hSt hl)
    · cases hx
      exact fun hS hL H locs lsa hP hSt hl => lv_dup2_11 hexec hb hd rfl rfl (kk (okS_cons.mpr ⟨trivial, okS_cons.mpr ⟨(okS_cons.mp (okS_cons.mp hS).2).1, hS⟩⟩) hL H locs lsa hP hSt hl)
  · exact gg_get hC hd hx kk
  · exact gg_put hC hd hx kk
  · split at hx
    case h_2 => cases hx
    rename_i x hz
    cases hx
    refine gg_push (v := .inl x) (fun H locs lsa rest k => lv_ldc hexec hb hown (hts _ (hpt.2.1 (_, x) ?_)) hd k) trivial kk
    obtain ⟨l1, l2, h1, -⟩ := List.lookup_eq_some_iff.mp hz
    rw [h1]; simp
  · split at hx
    case h_2 => cases hx
    rename_i x hz
    cases hx
    refine gg_push (v := .inr (.inl x)) (fun H locs lsa rest k => lv_ldc2 hexec hb hown (hts _ (hpt.2.2 (_, x) ?_)) hd k) trivial kk
    obtain ⟨l1, l2, h1, -⟩ := List.lookup_eq_some_iff.mp hz
    rw [h1]; simp
  · cases hx
end
section
/-! ===== straight rows ===== -/
variable {ph : Bool}
def exN (P : PT) : List Instr → ALs → ASt → Mem → Option (ALs × ASt × Mem)
  | [], ls, st, m => some (ls, st, m)
  | i :: r, ls, st, m => match ex1 P i ls st m with
    | some q => exN P r q.1 q.2.1 q.2.2
    | none => none
def blk (cc : ByteArray) : Nat → List Instr → Nat → Bool
  | pc, [], e => Nat.beq pc e
  | pc, i :: r, e => decide (decode cc pc = .ok (i, ilen i)) && blk cc (pc + ilen i) r e
theorem gg_blk {X : XT} {cc : ByteArray} {P : PT} {Q : State → Prop} (hC : GC X cc P) : ∀ {is : List Instr} {pc pc' : Nat} {ls ls' : ALs} {st st' : ASt} {m m' : Mem}, blk cc pc is pc' = true → exN P is ls st m = some (ls', st', m') → GG X Q pc' ls' st' m' → GG X Q pc ls st m
  | [], pc, pc', ls, ls', st, st', m, m', hd, hx, kk => by
    cases hx
    rw [Nat.eq_of_beq_eq_true hd]
    exact kk
  | i :: r, pc, pc', ls, ls', st, st', m, m', hd, hx, kk => by
    simp only [blk, Bool.and_eq_true, decide_eq_true_eq] at hd
    unfold exN at hx
    split at hx
    case h_2 => cases hx
    rename_i q hq
    exact gg_ex1 hC hd.1 hq (gg_blk hC hd.2 hx kk)
/-- if the number's run ends with an answer and a memory, then the machine's does, with these -/
def Go (X : XT) {ρ : Type} (E : ρ → Mem → State → Prop) (pc : Nat) (ls : ALs) (st : ASt) (m : Mem) (o : Option (ρ × Mem)) : Prop := ∀ r m', o = some (r, m') → GG X (E r m') pc ls st m
section GO
variable {X : XT} {cc : ByteArray} {P : PT} {ρ : Type} {E : ρ → Mem → State → Prop} {pc : Nat} {ls : ALs} {st : ASt} {m : Mem} {o : Option (ρ × Mem)}
theorem go_blk (hC : GC X cc P) {is : List Instr} {pc' : Nat} {ls' : ALs} {st' : ASt} {m' : Mem} (hd : blk cc pc is pc' = true) (hx : exN P is ls st m = some (ls', st', m')) (kk : Go X E pc' ls' st' m' o) : Go X E pc ls st m o :=
  fun r m2 h => gg_blk hC hd hx (kk r m2 h)
theorem go_none : Go X E pc ls st m none := fun _ _ h => by cases h
theorem go_ite {c : Prop} [Decidable c] {a b : Option (ρ × Mem)} (ha : c → Go X E pc ls st m a) (hb : ¬ c → Go X E pc ls st m b) : Go X E pc ls st m (if c then a else b) := by
  by_cases h : c
  · rw [if_pos h]; exact ha h
  · rw [if_neg h]; exact hb h
theorem go_goto (hC : GC X cc P) {off : Int} (tgt : Nat) (hd : decode cc pc = .ok (.goto off, 3)) (ht : (pc : Int) + off = (tgt : Int)) (kk : Go X E tgt ls st m o) : Go X E pc ls st m o :=
  fun r m2 h hS hL H locs lsa hP hSt hl => lv_goto hC.1 hC.2.1 hd ht (kk r m2 h hS hL H locs lsa hP hSt hl)
theorem go_br {c : Prop} [Decidable c] {tgt nxt : Nat} {st2 : ASt} {a b : Option (ρ × Mem)} (hok : okS (xV X) st → okS (xV X) st2)
    (row : ∀ (Q : State → Prop) (H : Heap) (locs : List Loc) (lsa : Array Slot), (c → xW X Q H locs (F0 (xm X) tgt lsa (st2.map (cv (xA X))))) → (¬ c → xW X Q H locs (F0 (xm X) nxt lsa (st2.map (cv (xA X))))) → xW X Q H locs (F0 (xm X) pc lsa (st.map (cv (xA X)))))
    (ha : c → Go X E tgt ls st2 m a) (hb : ¬ c → Go X E nxt ls st2 m b) : Go X E pc ls st m (if c then a else b) := by
  intro r m2 h hS hL H locs lsa hP hSt hl
  refine row _ H locs lsa (fun hc => ?_) (fun hc => ?_)
  · rw [if_pos hc] at h
    exact ha hc r m2 h (hok hS) hL H locs lsa hP hSt hl
  · rw [if_neg hc] at h
    exact hb hc r m2 h (hok hS) hL H locs lsa hP hSt hl
theorem ok1 {v : AV} {st : ASt} : okS ph (v :: st) → okS ph st := fun h => (okS_cons.mp h).2
theorem ok2 {v w : AV} {st : ASt} : okS ph (v :: w :: st) → okS ph st := fun h => ok1 (ok1 h)
theorem ok3 {v w u : AV} {st : ASt} : okS ph (v :: w :: u :: st) → okS ph st := fun h => ok1 (ok2 h)
variable {x y : Int32} {off : Int} {a b : Option (ρ × Mem)} {rest : ASt}
theorem go_ifeq (hC : GC X cc P) (tgt : Nat) (hd : decode cc pc = .ok (.ifCond .eq off, 3)) (ht : (pc : Int) + off = (tgt : Int)) (ha : x = 0 → Go X E tgt ls rest m a) (hb : ¬ x = 0 → Go X E (pc + 3) ls rest m b) : Go X E pc ls (.inl x :: rest) m (if x = 0 then a else b) :=
  go_br ok1 (fun Q H locs lsa k1 k2 => lv_if_eq hC.1 hC.2.1 hd ht k1 k2) ha hb
theorem go_ifne (hC : GC X cc P) (tgt : Nat) (hd : decode cc pc = .ok (.ifCond .ne off, 3)) (ht : (pc : Int) + off = (tgt : Int)) (ha : ¬ x = 0 → Go X E tgt ls rest m a) (hb : x = 0 → Go X E (pc + 3) ls rest m b) : Go X E pc ls (.inl x :: rest) m (if x = 0 then b else a) :=
  go_br ok1 (fun Q H locs lsa k1 k2 => lv_if_ne hC.1 hC.2.1 hd ht k2 k1) hb ha
theorem go_iflt (hC : GC X cc P) (tgt : Nat) (hd : decode cc pc = .ok (.ifCond .lt off, 3)) (ht : (pc : Int) + off = (tgt : Int)) (ha : x < 0 → Go X E tgt ls rest m a) (hb : ¬ x < 0 → Go X E (pc + 3) ls rest m b) : Go X E pc ls (.inl x :: rest) m (if x < 0 then a else b) :=
  go_br ok1 (fun Q H locs lsa k1 k2 => lv_if_lt hC.1 hC.2.1 hd ht k1 k2) ha hb
theorem go_ifge (hC : GC X cc P) (tgt : Nat) (hd : decode cc pc = .ok (.ifCond .ge off, 3)) (ht : (pc : Int) + off = (tgt : Int)) (ha : 0 ≤ x → Go X E tgt ls rest m a) (hb : ¬ 0 ≤ x → Go X E (pc + 3) ls rest m b) : Go X E pc ls (.inl x :: rest) m (if 0 ≤ x then a else b) :=
  go_br ok1 (fun Q H locs lsa k1 k2 => lv_if_ge hC.1 hC.2.1 hd ht k1 k2) ha hb
theorem go_ifgt (hC : GC X cc P) (tgt : Nat) (hd : decode cc pc = .ok (.ifCond .gt off, 3)) (ht : (pc : Int) + off = (tgt : Int)) (ha : 0 < x → Go X E tgt ls rest m a) (hb : ¬ 0 < x → Go X E (pc + 3) ls rest m b) : Go X E pc ls (.inl x :: rest) m (if 0 < x then a else b) :=
  go_br ok1 (fun Q H locs lsa k1 k2 => lv_if_gt hC.1 hC.2.1 hd ht k1 k2) ha hb
theorem go_ifle (hC : GC X cc P) (tgt : Nat) (hd : decode cc pc = .ok (.ifCond .le off, 3)) (ht : (pc : Int) + off = (tgt : Int)) (ha : x ≤ 0 → Go X E tgt ls rest m a) (hb : ¬ x ≤ 0 → Go X E (pc + 3) ls rest m b) : Go X E pc ls (.inl x :: rest) m (if x ≤ 0 then a else b) :=
  go_br ok1 (fun Q H locs lsa k1 k2 => lv_if_le hC.1 hC.2.1 hd ht k1 k2) ha hb
theorem go_icmpeq (hC : GC X cc P) (tgt : Nat) (hd : decode cc pc = .ok (.if_icmp .eq off, 3)) (ht : (pc : Int) + off = (tgt : Int)) (ha : x = y → Go X E tgt ls rest m a) (hb : ¬ x = y → Go X E (pc + 3) ls rest m b) : Go X E pc ls (.inl y :: .inl x :: rest) m (if x = y then a else b) :=
  go_br ok2 (fun Q H locs lsa k1 k2 => lv_icmp_eq hC.1 hC.2.1 hd ht k1 k2) ha hb
theorem go_icmpne (hC : GC X cc P) (tgt : Nat) (hd : decode cc pc = .ok (.if_icmp .ne off, 3)) (ht : (pc : Int) + off = (tgt : Int)) (ha : ¬ x = y → Go X E tgt ls rest m a) (hb : x = y → Go X E (pc + 3) ls rest m b) : Go X E pc ls (.inl y :: .inl x :: rest) m (if x = y then b else a) :=
  go_br ok2 (fun Q H locs lsa k1 k2 => lv_icmp_ne hC.1 hC.2.1 hd ht k2 k1) hb ha
theorem go_icmplt (hC : GC X cc P) (tgt : Nat) (hd : decode cc pc = .ok (.if_icmp .lt off, 3)) (ht : (pc : Int) + off = (tgt : Int)) (ha : x < y → Go X E tgt ls rest m a) (hb : ¬ x < y → Go X E (pc + 3) ls rest m b) : Go X E pc ls (.inl y :: .inl x :: rest) m (if x < y then a else b) :=
  go_br ok2 (fun Q H locs lsa k1 k2 => lv_icmp_lt hC.1 hC.2.1 hd ht k1 k2) ha hb
theorem go_icmpge (hC : GC X cc P) (tgt : Nat) (hd : decode cc pc = .ok (.if_icmp .ge off, 3)) (ht : (pc : Int) + off = (tgt : Int)) (ha : y ≤ x → Go X E tgt ls rest m a) (hb : ¬ y ≤ x → Go X E (pc + 3) ls rest m b) : Go X E pc ls (.inl y :: .inl x :: rest) m (if y ≤ x then a else b) :=
  go_br ok2 (fun Q H locs lsa k1 k2 => lv_icmp_ge hC.1 hC.2.1 hd ht k1 k2) ha hb
theorem go_icmpgt (hC : GC X cc P) (tgt : Nat) (hd : decode cc pc = .ok (.if_icmp .gt off, 3)) (ht : (pc : Int) + off = (tgt : Int)) (ha : y < x → Go X E tgt ls rest m a) (hb : ¬ y < x → Go X E (pc + 3) ls rest m b) : Go X E pc ls (.inl y :: .inl x :: rest) m (if y < x then a else b) :=
  go_br ok2 (fun Q H locs lsa k1 k2 => lv_icmp_gt hC.1 hC.2.1 hd ht k1 k2) ha hb
theorem go_icmple (hC : GC X cc P) (tgt : Nat) (hd : decode cc pc = .ok (.if_icmp .le off, 3)) (ht : (pc : Int) + off = (tgt : Int)) (ha : x ≤ y → Go X E tgt ls rest m a) (hb : ¬ x ≤ y → Go X E (pc + 3) ls rest m b) : Go X E pc ls (.inl y :: .inl x :: rest) m (if x ≤ y then a else b) :=
  go_br ok2 (fun Q H locs lsa k1 k2 => lv_icmp_le hC.1 hC.2.1 hd ht k1 k2) ha hb
end GO
/-! ===== arrays: a place outside has no run ===== -/
abbrev ix (j : Int32) : Nat := j.toNatClampNeg
def inB (j : Int32) (n : Nat) : Bool := decide (0 ≤ j) && Nat.blt (ix j) n
theorem inB_in {j : Int32} {n : Nat} (h : inB j n = true) : vp_in j n ∧ ix j < n := by
  unfold inB at h
  rw [Bool.and_eq_true, decide_eq_true_eq] at h
  have h2 : ix j < n := Nat.blt_eq.mp h.2
  refine ⟨?_, h2⟩
  rintro (q | q)
  · have h1 := h.1
    rw [Int32.lt_iff_toInt_lt] at q
    rw [Int32.le_iff_toInt_le] at h1
    omega
  · exact absurd h2 (Nat.not_lt.mpr q)
/-- a quotient gets a name -/
def dv {α β : Type} (a : α) (k : α → β) : β := k a
section GA
variable {X : XT} {cc : ByteArray} {P : PT} {ρ : Type} {E : ρ → Mem → State → Prop} {pc : Nat} {ls : ALs} {m : Mem} {o : Option (ρ × Mem)} {rest : ASt} {t i n : Nat} {j : Int32}
theorem go_iald (hC : GC X cc P) (hd : decode cc pc = .ok (.iaload, 1)) (hc : sh_cls t = none) (ha : sh_arr t = some (0, n)) (kk : inB j n = true → Go X E (pc + 1) ls (.inl (m t i (ix j)) :: rest) m o) :
    Go X E pc ls (.inl j :: .inr (.inr (t, i)) :: rest) m (if inB j n = true then o else none) := by
  intro r m2 h hS hL H locs lsa hP hSt hl
  split at h
  case isFalse => cases h
  rename_i hin
  have hq : (t, i) ∈ vrefs (xV X) := ok_arr (okS_cons.mp (ok1 hS)).1 ha
  obtain ⟨q0, hq0, hw⟩ := wsM_at (ph := xV X) (A := xA X) (cs := xk X) (m := m) hq
  rw [cellOf_arr hc ha] at hw
  exact va_iald hC.1 hC.2.1 hC.2.2.2.2.2.2.1 hP q0 0 hw rfl (inB_in hin).1 hd (kk hin r m2 h (okS_cons.mpr ⟨trivial, ok2 hS⟩) hL H locs lsa hP hSt hl)
theorem go_iast (hC : GC X cc P) {v : Int32} (hd : decode cc pc = .ok (.iastore, 1)) (hc : sh_cls t = none) (ha : sh_arr t = some (0, n)) (kk : inB j n = true → Go X E (pc + 1) ls rest (mset m t i (ix j) v) o) :
    Go X E pc ls (.inl v :: .inl j :: .inr (.inr (t, i)) :: rest) m (if inB j n = true then o else none) := by
  intro r m2 h hS hL H locs lsa hP hSt hl
  split at h
  case isFalse => cases h
  rename_i hin
  have hq : (t, i) ∈ vrefs (xV X) := ok_arr (okS_cons.mp (ok2 hS)).1 ha
  obtain ⟨q0, hq0, hw⟩ := wsM_at (ph := xV X) (A := xA X) (cs := xk X) (m := m) hq
  rw [cellOf_arr hc ha] at hw
  refine va_iast hC.1 hC.2.1 hC.2.2.2.2.2.2.1 hP (wsM_D hC.2.2.2.2.2.2.2.1.1 m) hSt q0 0 hw rfl (inB_in hin).1 hd (fun H1 locs1 hP1 _ hS1 => ?_)
  refine kk hin r m2 h (ok3 hS) hL H1 locs1 lsa ?_ hS1 hl
  rw [← wsM_set hq0, cellOf_arr hc ha, mset_row]
  exact hP1
theorem go_aald (hC : GC X cc P) {kd : Nat} {z : AR} (hd : decode cc pc = .ok (.aaload, 1)) (hc : sh_cls t = none) (ha : sh_arr t = some (kd + 1, n)) (hk : kd < 3) (hz : sh_ref t i (ix j) = some z) (kk : inB j n = true → Go X E (pc + 1) ls (.inr (.inr z) :: rest) m o) :
    Go X E pc ls (.inl j :: .inr (.inr (t, i)) :: rest) m (if inB j n = true then o else none) := by
  intro r m2 h hS hL H locs lsa hP hSt hl
  split at h
  case isFalse => cases h
  rename_i hin
  have hq : (t, i) ∈ vrefs (xV X) := ok_arr (okS_cons.mp (ok1 hS)).1 ha
  obtain ⟨q0, hq0, hw⟩ := wsM_at (ph := xV X) (A := xA X) (cs := xk X) (m := m) hq
  rw [cellOf_arq hc ha] at hw
  obtain ⟨hin1, hin2⟩ := inB_in hin
  have hzr : z ∈ vrefs (xV X) := sh_closed hq (k := ix j) (by show ix j < lenOf t; unfold lenOf; rw [hc]; dsimp only; rw [ha]; exact hin2) hz
  have hty : (elT (kd + 1)).isReference = true := by
    match kd, hk with
    | 0, _ => rfl
    | 1, _ => rfl
    | 2, _ => rfl
  refine W.aald (v := .ref (xA X z)) (ty := elT (kd + 1)) hC.1 hC.2.1 (hP q0 _ hw) ((hC.2.2.2.2.2.2.1.2 (kd + 1) _ (tysM_at (by omega))).1 n (fun j => va_rf ((fun j => if j < n then (sh_ref t i j).map (xA X) else none) j))) hty (fun q => by cases q) (by show ¬ (j < 0 ∨ (arrV _ _ _).slots.size ≤ _); rw [arrV_size]; exact hin1) ?_ rfl rfl hd ?_
  · show (arrV _ _ _).slots[_]? = _
    rw [arrV_read _ _ hin2]
    show some (va_rf (if ix j < n then (sh_ref t i (ix j)).map (xA X) else none)) = _
    rw [if_pos hin2, hz]
    rfl
  · exact kk hin r m2 h (okS_cons.mpr ⟨Or.inl hzr, ok2 hS⟩) hL H locs lsa hP hSt hl
theorem go_alen (hC : GC X cc P) (hd : decode cc pc = .ok (.arraylength, 1)) (hc : sh_cls t = none) (ha : sh_arr t = some (0, n)) (kk : Go X E (pc + 1) ls (.inl (Int32.ofNat n) :: rest) m o) : Go X E pc ls (.inr (.inr (t, i)) :: rest) m o := by
  intro r m2 h hS hL H locs lsa hP hSt hl
  have hq : (t, i) ∈ vrefs (xV X) := ok_arr (okS_cons.mp hS).1 ha
  obtain ⟨q0, hq0, hw⟩ := wsM_at (ph := xV X) (A := xA X) (cs := xk X) (m := m) hq
  rw [cellOf_arr hc ha] at hw
  exact va_alen hC.1 hC.2.1 hC.2.2.2.2.2.2.1 hP q0 0 hw rfl rfl hd (kk r m2 h (okS_cons.mpr ⟨trivial, ok1 hS⟩) hL H locs lsa hP hSt hl)
variable {x y : Int32} {u w : Int64}
theorem go_guard {c : Prop} [Decidable c] {pc2 : Nat} {st st2 : ASt} (hok : okS (xV X) st → okS (xV X) st2) (row : c → ∀ (Q : State → Prop) (H : Heap) (locs : List Loc) (lsa : Array Slot), xW X Q H locs (F0 (xm X) pc2 lsa (st2.map (cv (xA X)))) → xW X Q H locs (F0 (xm X) pc lsa (st.map (cv (xA X))))) (kk : c → Go X E pc2 ls st2 m o) :
    Go X E pc ls st m (if c then o else none) := by
  intro r m2 h hS hL H locs lsa hP hSt hl
  split at h
  case isFalse => cases h
  rename_i hc
  exact row hc _ H locs lsa (kk hc r m2 h (hok hS) hL H locs lsa hP hSt hl)
theorem okT {v : AV} {st : ASt} (hv : okV ph v) (h : okS ph st) : okS ph (v :: st) := okS_cons.mpr ⟨hv, h⟩
theorem go_idiv (hC : GC X cc P) (hd : decode cc pc = .ok (.idiv, 1)) {k : Int32 → Option (ρ × Mem)} (kk : ¬ y = 0 → ∀ q, q = x / y → Go X E (pc + 1) ls (.inl q :: rest) m (k q)) : Go X E pc ls (.inl y :: .inl x :: rest) m (if ¬ y = 0 then dv (x / y) k else none) :=
  go_guard (fun h => okT (v := .inl (x / y)) trivial (ok2 h)) (fun hc Q H locs lsa k => lv_idiv hC.1 hC.2.1 hd hc k) (fun hc => kk hc _ rfl)
theorem go_irem (hC : GC X cc P) (hd : decode cc pc = .ok (.irem, 1)) {k : Int32 → Option (ρ × Mem)} (kk : ¬ y = 0 → ∀ q, q = x - x / y * y → Go X E (pc + 1) ls (.inl q :: rest) m (k q)) : Go X E pc ls (.inl y :: .inl x :: rest) m (if ¬ y = 0 then dv (x - x / y * y) k else none) :=
  go_guard (fun h => okT (v := .inl (x - x / y * y)) trivial (ok2 h)) (fun hc Q H locs lsa k => lv_irem hC.1 hC.2.1 hd hc k) (fun hc => kk hc _ rfl)
theorem go_ldiv (hC : GC X cc P) (hd : decode cc pc = .ok (.ldiv, 1)) {k : Int64 → Option (ρ × Mem)} (kk : ¬ w = 0 → ∀ q, q = u / w → Go X E (pc + 1) ls (.inr (.inl q) :: rest) m (k q)) : Go X E pc ls (.inr (.inl w) :: .inr (.inl u) :: rest) m (if ¬ w = 0 then dv (u / w) k else none) :=
  go_guard (fun h => okT (v := .inr (.inl (u / w))) trivial (ok2 h)) (fun hc Q H locs lsa k => lv_ldiv hC.1 hC.2.1 hd hc k) (fun hc => kk hc _ rfl)
theorem go_lrem (hC : GC X cc P) (hd : decode cc pc = .ok (.lrem, 1)) {k : Int64 → Option (ρ × Mem)} (kk : ¬ w = 0 → ∀ q, q = u - u / w * w → Go X E (pc + 1) ls (.inr (.inl q) :: rest) m (k q)) : Go X E pc ls (.inr (.inl w) :: .inr (.inl u) :: rest) m (if ¬ w = 0 then dv (u - u / w * w) k else none) :=
  go_guard (fun h => okT (v := .inr (.inl (u - u / w * w))) trivial (ok2 h)) (fun hc Q H locs lsa k => lv_lrem hC.1 hC.2.1 hd hc k) (fun hc => kk hc _ rfl)
end GA
/-! ===== loops: a body goes on with the next state, or with the state behind the loop, or answers at once ===== -/
def lpk {σ τ ω : Type} (body : (σ → Option ω) → (τ → Option ω) → σ → Option ω) : Nat → σ → (τ → Option ω) → Option ω
  | 0, _, _ => none
  | n + 1, s, K => body (fun s' => lpk body n s' K) K s
theorem lpk_0 {σ τ ω : Type} (body : (σ → Option ω) → (τ → Option ω) → σ → Option ω) (s : σ) (K : τ → Option ω) : lpk body 0 s K = none := rfl
theorem lpk_s {σ τ ω : Type} (body : (σ → Option ω) → (τ → Option ω) → σ → Option ω) (n : Nat) (s : σ) (K : τ → Option ω) : lpk body (n + 1) s K = body (fun s' => lpk body n s' K) K s := rfl
def fuelN : Nat := 5000
def bnd {α β : Type} (o : Option (α × Mem)) (k : α → Mem → Option β) : Option β := match o with
  | none => none
  | some q => k q.1 q.2
theorem bnd_some {α β : Type} (a : α) (m : Mem) (k : α → Mem → Option β) : bnd (some (a, m)) k = k a m := rfl
theorem go_lp0 {τ ω : Type} {body : (Mem → Option ω) → (τ → Option ω) → Mem → Option ω} {hd : Mem → Option ω → Prop} {K : τ → Option ω}
    (h0 : ∀ (m : Mem), hd m none) (hb : ∀ (m : Mem) (next : Mem → Option ω), (∀ (m : Mem), hd m (next m)) → hd m (body next K m)) :
    ∀ (n : Nat) (m : Mem), hd m (lpk body n m K)
  | 0, m => h0 m
  | n + 1, m => hb m _ (fun m => go_lp0 h0 hb n m)
theorem go_lp1 {T0 τ ω : Type} {body : (T0 × Mem → Option ω) → (τ → Option ω) → T0 × Mem → Option ω} {hd : T0 → Mem → Option ω → Prop} {K : τ → Option ω}
    (h0 : ∀ (a0 : T0) (m : Mem), hd a0 m none) (hb : ∀ (a0 : T0) (m : Mem) (next : T0 × Mem → Option ω), (∀ (a0 : T0) (m : Mem), hd a0 m (next (a0, m))) → hd a0 m (body next K (a0, m))) :
    ∀ (n : Nat) (a0 : T0) (m : Mem), hd a0 m (lpk body n (a0, m) K)
  | 0, a0, m => h0 a0 m
  | n + 1, a0, m => hb a0 m _ (fun a0 m => go_lp1 h0 hb n a0 m)
theorem go_lp2 {T0 T1 τ ω : Type} {body : (T0 × T1 × Mem → Option ω) → (τ → Option ω) → T0 × T1 × Mem → Option ω} {hd : T0 → T1 → Mem → Option ω → Prop} {K : τ → Option ω}
    (h0 : ∀ (a0 : T0) (a1 : T1) (m : Mem), hd a0 a1 m none) (hb : ∀ (a0 : T0) (a1 : T1) (m : Mem) (next : T0 × T1 × Mem → Option ω), (∀ (a0 : T0) (a1 : T1) (m : Mem), hd a0 a1 m (next (a0, a1, m))) → hd a0 a1 m (body next K (a0, a1, m))) :
    ∀ (n : Nat) (a0 : T0) (a1 : T1) (m : Mem), hd a0 a1 m (lpk body n (a0, a1, m) K)
  | 0, a0, a1, m => h0 a0 a1 m
  | n + 1, a0, a1, m => hb a0 a1 m _ (fun a0 a1 m => go_lp2 h0 hb n a0 a1 m)
theorem go_lp3 {T0 T1 T2 τ ω : Type} {body : (T0 × T1 × T2 × Mem → Option ω) → (τ → Option ω) → T0 × T1 × T2 × Mem → Option ω} {hd : T0 → T1 → T2 → Mem → Option ω → Prop} {K : τ → Option ω}
    (h0 : ∀ (a0 : T0) (a1 : T1) (a2 : T2) (m : Mem), hd a0 a1 a2 m none) (hb : ∀ (a0 : T0) (a1 : T1) (a2 : T2) (m : Mem) (next : T0 × T1 × T2 × Mem → Option ω), (∀ (a0 : T0) (a1 : T1) (a2 : T2) (m : Mem), hd a0 a1 a2 m (next (a0, a1, a2, m))) → hd a0 a1 a2 m (body next K (a0, a1, a2, m))) :
    ∀ (n : Nat) (a0 : T0) (a1 : T1) (a2 : T2) (m : Mem), hd a0 a1 a2 m (lpk body n (a0, a1, a2, m) K)
  | 0, a0, a1, a2, m => h0 a0 a1 a2 m
  | n + 1, a0, a1, a2, m => hb a0 a1 a2 m _ (fun a0 a1 a2 m => go_lp3 h0 hb n a0 a1 a2 m)
theorem go_lp4 {T0 T1 T2 T3 τ ω : Type} {body : (T0 × T1 × T2 × T3 × Mem → Option ω) → (τ → Option ω) → T0 × T1 × T2 × T3 × Mem → Option ω} {hd : T0 → T1 → T2 → T3 → Mem → Option ω → Prop} {K : τ → Option ω}
    (h0 : ∀ (a0 : T0) (a1 : T1) (a2 : T2) (a3 : T3) (m : Mem), hd a0 a1 a2 a3 m none) (hb : ∀ (a0 : T0) (a1 : T1) (a2 : T2) (a3 : T3) (m : Mem) (next : T0 × T1 × T2 × T3 × Mem → Option ω), (∀ (a0 : T0) (a1 : T1) (a2 : T2) (a3 : T3) (m : Mem), hd a0 a1 a2 a3 m (next (a0, a1, a2, a3, m))) → hd a0 a1 a2 a3 m (body next K (a0, a1, a2, a3, m))) :
    ∀ (n : Nat) (a0 : T0) (a1 : T1) (a2 : T2) (a3 : T3) (m : Mem), hd a0 a1 a2 a3 m (lpk body n (a0, a1, a2, a3, m) K)
  | 0, a0, a1, a2, a3, m => h0 a0 a1 a2 a3 m
  | n + 1, a0, a1, a2, a3, m => hb a0 a1 a2 a3 m _ (fun a0 a1 a2 a3 m => go_lp4 h0 hb n a0 a1 a2 a3 m)
theorem go_lp5 {T0 T1 T2 T3 T4 τ ω : Type} {body : (T0 × T1 × T2 × T3 × T4 × Mem → Option ω) → (τ → Option ω) → T0 × T1 × T2 × T3 × T4 × Mem → Option ω} {hd : T0 → T1 → T2 → T3 → T4 → Mem → Option ω → Prop} {K : τ → Option ω}
    (h0 : ∀ (a0 : T0) (a1 : T1) (a2 : T2) (a3 : T3) (a4 : T4) (m : Mem), hd a0 a1 a2 a3 a4 m none) (hb : ∀ (a0 : T0) (a1 : T1) (a2 : T2) (a3 : T3) (a4 : T4) (m : Mem) (next : T0 × T1 × T2 × T3 × T4 × Mem → Option ω), (∀ (a0 : T0) (a1 : T1) (a2 : T2) (a3 : T3) (a4 : T4) (m : Mem), hd a0 a1 a2 a3 a4 m (next (a0, a1, a2, a3, a4, m))) → hd a0 a1 a2 a3 a4 m (body next K (a0, a1, a2, a3, a4, m))) :
    ∀ (n : Nat) (a0 : T0) (a1 : T1) (a2 : T2) (a3 : T3) (a4 : T4) (m : Mem), hd a0 a1 a2 a3 a4 m (lpk body n (a0, a1, a2, a3, a4, m) K)
  | 0, a0, a1, a2, a3, a4, m => h0 a0 a1 a2 a3 a4 m
  | n + 1, a0, a1, a2, a3, a4, m => hb a0 a1 a2 a3 a4 m _ (fun a0 a1 a2 a3 a4 m => go_lp5 h0 hb n a0 a1 a2 a3 a4 m)
theorem go_lp6 {T0 T1 T2 T3 T4 T5 τ ω : Type} {body : (T0 × T1 × T2 × T3 × T4 × T5 × Mem → Option ω) → (τ → Option ω) → T0 × T1 × T2 × T3 × T4 × T5 × Mem → Option ω} {hd : T0 → T1 → T2 → T3 → T4 → T5 → Mem → Option ω → Prop} {K : τ → Option ω}
    (h0 : ∀ (a0 : T0) (a1 : T1) (a2 : T2) (a3 : T3) (a4 : T4) (a5 : T5) (m : Mem), hd a0 a1 a2 a3 a4 a5 m none) (hb : ∀ (a0 : T0) (a1 : T1) (a2 : T2) (a3 : T3) (a4 : T4) (a5 : T5) (m : Mem) (next : T0 × T1 × T2 × T3 × T4 × T5 × Mem → Option ω), (∀ (a0 : T0) (a1 : T1) (a2 : T2) (a3 : T3) (a4 : T4) (a5 : T5) (m : Mem), hd a0 a1 a2 a3 a4 a5 m (next (a0, a1, a2, a3, a4, a5, m))) → hd a0 a1 a2 a3 a4 a5 m (body next K (a0, a1, a2, a3, a4, a5, m))) :
    ∀ (n : Nat) (a0 : T0) (a1 : T1) (a2 : T2) (a3 : T3) (a4 : T4) (a5 : T5) (m : Mem), hd a0 a1 a2 a3 a4 a5 m (lpk body n (a0, a1, a2, a3, a4, a5, m) K)
  | 0, a0, a1, a2, a3, a4, a5, m => h0 a0 a1 a2 a3 a4 a5 m
  | n + 1, a0, a1, a2, a3, a4, a5, m => hb a0 a1 a2 a3 a4 a5 m _ (fun a0 a1 a2 a3 a4 a5 m => go_lp6 h0 hb n a0 a1 a2 a3 a4 a5 m)
end
section
/-! ===== a method's contract ===== -/
variable {ph : Bool}
abbrev puI (x : Int32) : ASt := [.inl x]
abbrev puL (x : Int64) : ASt := [.inr (.inl x)]
abbrev puV (_ : Unit) : ASt := []
def rmd (d : Nat) : Room := { frames := d, cells := 0, slots := 0, locals := 40 * d }
def McQ (Z : ZT) (pu : ASt) (m' : Mem) : Array Value → State → Outcome → State → Prop := fun _ st oc t =>
  oc = .returned (pu.map (cv (zA Z))).head? ∧ va_P (zC Z, zI Z) vwCl (wsM (zV Z) (zA Z) (zk Z) m') t.heap ∧ va_F (frA (zV Z) (zA Z)) st t
def McP (Z : ZT) (as : ASt) (m : Mem) : Array Value → State → Prop := va_Pc (as.map (cv (zA Z))) (fun U => va_P (zC Z, zI Z) vwCl (wsM (zV Z) (zA Z) (zk Z) m) U.heap ∧ va_K (zC Z, zI Z) vwCl (tysM (zk Z)) U ∧ (∀ w ∈ nestC, va_Nw w U) ∧ injA (zV Z) (zA Z) ∧ SX Z U)
/-- y, called with 'as' where the memory is m, returns what o says -/
def Ctr (Z : ZT) (y : MethodName) (cc : ByteArray) (maxL : Nat) (ret : Option FieldType) (d : Nat) {ρ : Type} (pu : ρ → ASt) (as : ASt) (m : Mem) (o : Option (ρ × Mem)) : Prop :=
  okS (zV Z) as → ∀ r m', o = some (r, m') → Met (zl Z) y (.code y cc maxL ret :: wsC) (rmd d) (McP Z as m) (McQ Z (pu r) m') 0 0 (frA (zV Z) (zA Z))
theorem nest_on {w : Cond} (h : w ∈ nestC) : w.onTables = true ∧ ∃ a i b hh, w = .methodLinkNest a i b hh := by
  have h2 := (List.mem_filter.mp h).2
  cases w <;> first | exact ⟨rfl, _, _, _, _, rfl⟩ | cases h2
theorem SX.moved {Z : ZT} {u U : State} (hvm : u.vm.Alike U.vm) (hh : U.heap = u.heap) (h : SX Z u) : SX Z U := by
  obtain ⟨h1, h2, h3⟩ := h
  refine ⟨?_, by rw [hh]; exact h2, h3⟩
  rw [hh]
  exact h1.moved hvm
theorem McP_blind {Z : ZT} {as : ASt} {m : Mem} : FrameBlind (McP Z as m) := by
  intro a U g mk q
  obtain ⟨q0, q1, q2, q3, q4, q5⟩ := q
  exact ⟨q0, q1, va_K.moved (u := U) (U := U.calling g mk a) (Vm.Alike.refl U.vm) q2, fun w hw => va_Nw.same (u := U) (U := U.calling g mk a) (nest_on hw).1 rfl (q3 w hw), q4, SX.moved (u := U) (U := U.calling g mk a) (Vm.Alike.refl U.vm) rfl q5⟩
theorem McP_of {s U : State} {Z : ZT} {as : ASt} {m : Mem} {H : Heap} {locs : List Loc} (hP : va_P (zC Z, zI Z) vwCl (wsM (zV Z) (zA Z) (zk Z) m) H) (hK : va_K (zC Z, zI Z) vwCl (tysM (zk Z)) s) (hN : ∀ w ∈ nestC, va_Nw w s) (hA : injA (zV Z) (zA Z) ∧ SX Z s) (hSt : va_S (frA (zV Z) (zA Z)) s.heap H locs) (hU : U.heap = H) (hW : s.WarmedH U.vm) {a : Array Value} (ha : a = (as.map (cv (zA Z))).toArray) : McP Z as m a U := by
  refine ⟨ha, by rw [hU]; exact hP, va_K.moved hW.alike hK, fun w hw => ?_, hA.1, ?_⟩
  · obtain ⟨-, a, i, b, hh, rfl⟩ := nest_on hw
    exact va_Nw.warmM hW (hN _ hw)
  · obtain ⟨h1, h2, h3⟩ := hA.2
    refine ⟨?_, by rw [hU]; exact Nat.lt_of_lt_of_le h2 hSt.1, h3⟩
    rw [hU]
    exact (h1.kept (hSt.2.1 _ h2 h3)).moved hW.alike
theorem wsC_good {w : Cond} (h : w ∈ wsC) : (w.onTables && w.keeps) = true ∨ ∃ ty, w = .arrayClass ty := good_of_word (List.mem_filter.mp h).2
/-- the words of a call: the callee's code, its class, how it's linked -/
def vOk (own : String) (index : Nat) (C : String) (y : MethodName) (bytes : ByteArray) (maxL : Nat) (ret : Option FieldType) (n : Nat) : Prop :=
  Cond.methodLink own index y ∈ wsC ∧ Cond.instanceMethod y ∈ wsC ∧ Cond.selects C y y ∈ wsC ∧ Cond.initialized C ∈ wsC ∧ Cond.code y bytes maxL ret ∈ wsC ∧ (y.cls = C ∧ y.cls ≠ "java/lang/invoke/MethodHandle" ∧ y.cls ≠ "java/lang/invoke/VarHandle" ∧ (parseMethodDescriptor y.desc).map (fun d => d.parameters.length) = some n)
def sOk (own : String) (index : Nat) (y : MethodName) (bytes : ByteArray) (maxL : Nat) (ret : Option FieldType) (n : Nat) : Prop :=
  Cond.methodLink own index y ∈ wsC ∧ Cond.static y ∈ wsC ∧ Cond.initialized y.cls ∈ wsC ∧ Cond.code y bytes maxL ret ∈ wsC ∧ (y.cls ≠ "java/lang/invoke/MethodHandle" ∧ y.cls ≠ "java/lang/invoke/VarHandle" ∧ (parseMethodDescriptor y.desc).map (fun d => d.parameters.length) = some n)
def nOk (own : String) (index : Nat) (host : String) (y : MethodName) (bytes : ByteArray) (maxL : Nat) (ret : Option FieldType) (n : Nat) : Prop :=
  Cond.methodLinkNest own index y host ∈ nestC ∧ Cond.static y ∈ wsC ∧ Cond.initialized y.cls ∈ wsC ∧ Cond.code y bytes maxL ret ∈ wsC ∧ (y.cls ≠ "java/lang/invoke/MethodHandle" ∧ y.cls ≠ "java/lang/invoke/VarHandle" ∧ (parseMethodDescriptor y.desc).map (fun d => d.parameters.length) = some n)
theorem good_ws {y : MethodName} {bytes : ByteArray} {maxL : Nat} {ret : Option FieldType} (h : Cond.code y bytes maxL ret ∈ wsC) : GoodIn wsC (.code y bytes maxL ret :: wsC) := by
  intro w hw
  rcases List.mem_cons.mp hw with rfl | hw
  · exact ⟨h, wsC_good h⟩
  · exact ⟨hw, wsC_good hw⟩
def catS : ASt → Nat
  | [] => 0
  | .inr (.inl _) :: r => 2 + catS r
  | _ :: r => 1 + catS r
theorem catS_eq {A : AR → Nat} : ∀ (st : ASt), ((st.map (cv A)).map fun v => v.category).sum = catS st
  | [] => rfl
  | .inl x :: r => by simp only [List.map_cons, List.sum_cons, catS_eq r]; rfl
  | .inr (.inl x) :: r => by simp only [List.map_cons, List.sum_cons, catS_eq r]; rfl
  | .inr (.inr x) :: r => by simp only [List.map_cons, List.sum_cons, catS_eq r]; rfl
theorem gg_run {X : XT} {Q : State → Prop} {pc : Nat} {ls : ALs} {st rest pu : ASt} {m' : Mem} {a : Array Value} {H : Heap} {locs : List Loc} {lsa : Array Slot}
    (hr : va_Run (xp X) (xl X) (xe X) (xR X) (xs X) (xm X) (xa X) (xb X) (xM X) (xc X) H locs (xcl X) (xsl X) 0 0 (F0 (xm X) pc lsa (st.map (cv (xA X)))) (rest.map (cv (xA X))) (McQ (xZ X) pu m' a) (frA (xV X) (xA X)))
    (hS : va_S (frA (xV X) (xA X)) (xs X).heap H locs) (hl : lhas (xA X) (xn X) lsa ls) (hpu : pu.length ≤ 1) (hok : okS (xV X) (pu ++ rest)) (hL : okL (xV X) ls) (kk : GG X Q (pc + 3) ls (pu ++ rest) m') : xW X Q H locs (F0 (xm X) pc lsa (st.map (cv (xA X)))) := by
  intro T hT Xs
  obtain ⟨v, st₀, t, T', L, h0, X', hLf, e1, e2, ⟨hv, hP, hz, hk⟩, step⟩ := hr T hT Xs
  cases hv
  rw [h0] at hz hk
  have hst : (pu.map (cv (xA X))).head?.toList ++ rest.map (cv (xA X)) = (pu ++ rest).map (cv (xA X)) := by
    match pu, hpu with
    | [], _ => rfl
    | [x], _ => rfl
  obtain ⟨t2, a1, b1⟩ := kk hok hL T'.heap (locs ++ L) lsa (by rw [e1]; exact hP)
    ⟨Nat.le_trans hS.1 (by rw [e1]; exact hz), fun q h1 h2 => by rw [e1, hk q (Nat.lt_of_lt_of_le h1 hS.1) h2]; exact hS.2.1 q h1 h2, fun q hq => by
      rcases List.mem_append.mp hq with h | h
      · exact hS.2.2 q h
      · exact hLf q h⟩ hl T' rfl X'
  refine ⟨t2, step t2 ?_, b1⟩
  rw [← hst] at a1
  exact a1
section GCALL
variable {X : XT} {cc : ByteArray} {P : PT} {ρ σ : Type} {E : σ → Mem → State → Prop} {pc index d maxL n : Nat} {ls : ALs} {m : Mem} {rest as : ASt} {pu : ρ → ASt} {oy : Option (ρ × Mem)} {k : ρ → Mem → Option (σ × Mem)} {y : MethodName} {bytes : ByteArray} {ret : Option FieldType} {C host : String}
theorem bnd_eq {oy : Option (ρ × Mem)} {k : ρ → Mem → Option (σ × Mem)} {q : σ × Mem} (h : bnd oy k = some q) : ∃ r m1, oy = some (r, m1) ∧ k r m1 = some q := by
  cases oy with
  | none => cases h
  | some z => exact ⟨z.1, z.2, rfl, h⟩
theorem ok_app {a b : ASt} (ha : okS ph a) (hb : okS ph b) : okS ph (a ++ b) := fun v hv => (List.mem_append.mp hv).elim (ha v) (hb v)
theorem ok_appl {a b : ASt} (h : okS ph (a ++ b)) : okS ph a := fun v hv => h v (List.mem_append_left _ hv)
theorem ok_appr {a b : ASt} (h : okS ph (a ++ b)) : okS ph b := fun v hv => h v (List.mem_append_right _ hv)
theorem go_callV (hC : GC X cc P) {t i ci nf : Nat} {cz : vw_C} (hct : Ctr (xZ X) y bytes maxL ret d pu (.inr (.inr (t, i)) :: as) m oy) (hd : decode cc pc = .ok (.invokevirtual index, 3)) (hcz : vwCl[ci]? = some cz) (hsh : sh_cls t = some (ci, nf)) (hw : vOk P.1 index cz.1 y bytes maxL ret n) (hn : as.length = n)
    (hR : d + 1 ≤ (xR X).frames ∧ 8 + (maxL + 11) + 40 * d ≤ (xR X).locals) (hcl : xcl X ≤ (xR X).cells ∧ xsl X ≤ (xR X).slots) (hcat : catS rest ≤ 8) (hpu : ∀ r, (pu r).length ≤ 1 ∧ okS (xV X) (pu r)) {st : ASt} (hst : st = as.reverse ++ .inr (.inr (t, i)) :: rest)
    (kk : ∀ r m1, oy = some (r, m1) → Go X E (pc + 3) ls (pu r ++ rest) m1 (k r m1)) : Go X E pc ls st m (bnd oy k) := by
  intro q m2 h hS hL H locs lsa hP hSt hl
  obtain ⟨r, m1, e1, e2⟩ := bnd_eq h
  subst hst
  obtain ⟨w1, w2, w3, w4, w5, w6⟩ := hw
  have hrest := ok_appr hS
  have hq : (t, i) ∈ vrefs (xV X) := ok_cls (okS_cons.mp hrest).1 hsh
  have has : okS (xV X) (.inr (.inr (t, i)) :: as) := okT (okS_cons.mp hrest).1 (fun v hv => ok_appl hS v (List.mem_reverse.mpr hv))
  obtain ⟨q0, hq0, hwm⟩ := wsM_at (ph := xV X) (A := xA X) (cs := xk X) (m := m) hq
  rw [cellOf_obj (k := 0) hsh] at hwm
  have hts := hC.2.2.2.2.1
  have hG : GoodIn wsC (wsV P.1 index cz.1 y (.code y bytes maxL ret :: wsC)) := by
    intro w hw
    unfold wsV at hw
    rcases List.mem_append.mp hw with h1 | h1
    · simp only [List.mem_cons, List.not_mem_nil, or_false] at h1
      rcases h1 with rfl | rfl | rfl | rfl
      · exact ⟨w1, wsC_good w1⟩
      · exact ⟨w2, wsC_good w2⟩
      · exact ⟨w3, wsC_good w3⟩
      · exact ⟨w4, wsC_good w4⟩
    · exact good_ws w5 w h1
  refine gg_run (m' := m1) (a := (Value.ref (xA X (t, i)) :: as.map (cv (xA X))).toArray) (va_runV (As := as.map (cv (xA X))) (b := xA X (t, i)) ⟨hC.1, hC.2.1, hC.2.2.1, hC.2.2.2.1, hts⟩ (hct has r m1 e1) (cwV n hts hG rfl rfl rfl w6 hR) ⟨McP_blind, va_recv hC.2.2.2.2.2.2.1 hP hcz hwm, fun U hU hW => McP_of hP hC.2.2.2.2.2.2.1 hC.2.2.2.2.2.1 hC.2.2.2.2.2.2.2.1 hSt hU hW rfl⟩ rfl (by simpa using hn) hl.1 ?_ (lv_room (by rw [catS_eq]; exact hcat)) hd hcl) hSt hl (hpu r).1 (ok_app (hpu r).2 (ok1 hrest)) hL (kk r m1 e1 q m2 e2)
  simp [cv]
theorem go_callS (hC : GC X cc P) (hct : Ctr (xZ X) y bytes maxL ret d pu as m oy) (hd : decode cc pc = .ok (.invokestatic index, 3)) (hw : sOk P.1 index y bytes maxL ret n) (hn : as.length = n)
    (hR : d + 1 ≤ (xR X).frames ∧ 8 + (maxL + 11) + 40 * d ≤ (xR X).locals) (hcl : xcl X ≤ (xR X).cells ∧ xsl X ≤ (xR X).slots) (hcat : catS rest ≤ 8) (hpu : ∀ r, (pu r).length ≤ 1 ∧ okS (xV X) (pu r)) {st : ASt} (hst : st = as.reverse ++ rest)
    (kk : ∀ r m1, oy = some (r, m1) → Go X E (pc + 3) ls (pu r ++ rest) m1 (k r m1)) : Go X E pc ls st m (bnd oy k) := by
  intro q m2 h hS hL H locs lsa hP hSt hl
  obtain ⟨r, m1, e1, e2⟩ := bnd_eq h
  subst hst
  obtain ⟨w1, w2, w3, w4, w5⟩ := hw
  have hrest := ok_appr hS
  have has : okS (xV X) as := fun v hv => ok_appl hS v (List.mem_reverse.mpr hv)
  have hts := hC.2.2.2.2.1
  refine gg_run (m' := m1) (a := (as.map (cv (xA X))).toArray) (va_runS (As := as.map (cv (xA X))) ⟨hC.1, hC.2.1, hC.2.2.1, hC.2.2.2.1, hts⟩ (hct has r m1 e1) ⟨callB_of n hts (good_ws w4) rfl rfl rfl (hts _ w3) (hts _ w1) w5 hR, hts _ w2⟩ ⟨McP_blind, fun U hU hW => McP_of hP hC.2.2.2.2.2.2.1 hC.2.2.2.2.2.1 hC.2.2.2.2.2.2.2.1 hSt hU hW rfl⟩ rfl (by simpa using hn) hl.1 ?_ (lv_room (by rw [catS_eq]; exact hcat)) hd hcl) hSt hl (hpu r).1 (ok_app (hpu r).2 hrest) hL (kk r m1 e1 q m2 e2)
  simp [cv]
theorem go_callN (hC : GC X cc P) (hct : Ctr (xZ X) y bytes maxL ret d pu as m oy) (hd : decode cc pc = .ok (.invokestatic index, 3)) (hw : nOk P.1 index host y bytes maxL ret n) (hn : as.length = n)
    (hR : d + 1 ≤ (xR X).frames ∧ 8 + (maxL + 11) + 40 * d ≤ (xR X).locals) (hcl : xcl X ≤ (xR X).cells ∧ xsl X ≤ (xR X).slots) (hcat : catS rest ≤ 8) (hpu : ∀ r, (pu r).length ≤ 1 ∧ okS (xV X) (pu r)) {st : ASt} (hst : st = as.reverse ++ rest)
    (kk : ∀ r m1, oy = some (r, m1) → Go X E (pc + 3) ls (pu r ++ rest) m1 (k r m1)) : Go X E pc ls st m (bnd oy k) := by
  intro q m2 h hS hL H locs lsa hP hSt hl
  obtain ⟨r, m1, e1, e2⟩ := bnd_eq h
  subst hst
  obtain ⟨w1, w2, w3, w4, w5⟩ := hw
  have hrest := ok_appr hS
  have has : okS (xV X) as := fun v hv => ok_appl hS v (List.mem_reverse.mpr hv)
  have hts := hC.2.2.2.2.1
  refine gg_run (m' := m1) (a := (as.map (cv (xA X))).toArray) (va_runSN (As := as.map (cv (xA X))) ⟨hC.1, hC.2.1, hC.2.2.1, hC.2.2.2.1, hts⟩ (hct has r m1 e1) ⟨va_cnB n hts (good_ws w4) rfl rfl rfl (hC.2.2.2.2.2.1 _ w1) (hts _ w3) w5 hR, hts _ w2, trivial⟩ ⟨McP_blind, fun U hU hW => McP_of hP hC.2.2.2.2.2.2.1 hC.2.2.2.2.2.1 hC.2.2.2.2.2.2.2.1 hSt hU hW rfl⟩ rfl (by simpa using hn) hl.1 ?_ (lv_room (by rw [catS_eq]; exact hcat)) hd hcl) hSt hl (hpu r).1 (ok_app (hpu r).2 hrest) hL (kk r m1 e1 q m2 e2)
  simp [cv]
end GCALL
/-! ===== a method's end, its start ===== -/
def Em (X : XT) {ρ : Type} (pu : ρ → ASt) (r : ρ) (m' : Mem) : State → Prop := MQ (xb X) (McQ (xZ X) (pu r) m') (xa X) (xs X) (xcl X) (xsl X) (frA (xV X) (xA X))
section GRET
variable {X : XT} {cc : ByteArray} {P : PT} {pc : Nat} {ls : ALs} {m : Mem}
theorem go_iret (hC : GC X cc P) (hr : (xM X).sig.returnType = some .int) {v : Int32} (hd : decode cc pc = .ok (.ireturn, 1)) : Go X (Em X puI) pc ls [.inl v] m (some (v, m)) := by
  intro r m2 h hS hL H locs lsa hP hSt hl
  cases h
  exact W.iret (v := v) hC.1 hC.2.1 hr (fun t ht hW => ⟨rfl, by rw [ht]; exact hP, hSt.F ht⟩) hSt.2.2 hd hC.2.2.2.2.2.2.2.2.1
theorem go_zret (hC : GC X cc P) (hr : (xM X).sig.returnType = some .boolean) {v : Int32} (hv : v = 0 ∨ v = 1) (hd : decode cc pc = .ok (.ireturn, 1)) : Go X (Em X puI) pc ls [.inl v] m (some (v, m)) := by
  intro r m2 h hS hL H locs lsa hP hSt hl
  cases h
  refine W.zret (v := v) (ty := .boolean) hC.1 hC.2.1 hr ?_ (fun t ht hW => ⟨rfl, by rw [ht]; exact hP, hSt.F ht⟩) hSt.2.2 hd hC.2.2.2.2.2.2.2.2.1
  rcases hv with rfl | rfl <;> rfl
theorem go_zretG (hC : GC X cc P) (hr : (xM X).sig.returnType = some .boolean) {v : Int32} (hd : decode cc pc = .ok (.ireturn, 1)) : Go X (Em X puI) pc ls [.inl v] m (if v = 0 ∨ v = 1 then some (v, m) else none) := by
  intro r m2 h
  split at h
  case isFalse => cases h
  rename_i hv
  exact go_zret hC hr hv hd r m2 h
theorem go_lret (hC : GC X cc P) (hr : (xM X).sig.returnType = some .long) {v : Int64} (hd : decode cc pc = .ok (.lreturn, 1)) : Go X (Em X puL) pc ls [.inr (.inl v)] m (some (v, m)) := by
  intro r m2 h hS hL H locs lsa hP hSt hl
  cases h
  exact W.lret (v := v) hC.1 hC.2.1 hr (fun t ht hW => ⟨rfl, by rw [ht]; exact hP, hSt.F ht⟩) hSt.2.2 hd hC.2.2.2.2.2.2.2.2.1
theorem go_vret (hC : GC X cc P) (hr : (xM X).sig.returnType = none) (hd : decode cc pc = .ok (.return_, 1)) : Go X (Em X puV) pc ls [] m (some ((), m)) := by
  intro r m2 h hS hL H locs lsa hP hSt hl
  cases h
  exact W.vret hC.1 hC.2.1 hr (fun t ht hW => ⟨rfl, by rw [ht]; exact hP, hSt.F ht⟩) hSt.2.2 hd hC.2.2.2.2.2.2.2.2.1
end GRET
def entL : ASt → ALs
  | [] => []
  | .inr (.inl x) :: r => some (.inr (.inl x)) :: none :: entL r
  | v :: r => some v :: entL r
def padL (n : Nat) (l : ALs) : ALs := l ++ List.replicate (n - l.length) none
theorem entL_len {A : AR → Nat} : ∀ (as : ASt), (lg_sl (as.map (cv A))).length = (entL as).length
  | [] => rfl
  | .inl x :: r => by have h := entL_len (A := A) r; simp only [lg_sl, List.map_cons, List.flatMap_cons, entL, List.length_append, List.length_cons] at h ⊢; rw [h]; simp [cv, Value.category]; omega
  | .inr (.inl x) :: r => by have h := entL_len (A := A) r; simp only [lg_sl, List.map_cons, List.flatMap_cons, entL, List.length_append, List.length_cons] at h ⊢; rw [h]; simp [cv, Value.category]; omega
  | .inr (.inr x) :: r => by have h := entL_len (A := A) r; simp only [lg_sl, List.map_cons, List.flatMap_cons, entL, List.length_append, List.length_cons] at h ⊢; rw [h]; simp [cv, Value.category]; omega
theorem entL_at {A : AR → Nat} : ∀ (as : ASt) (i k : Nat) (v : AV), (entL as)[k]? = some (some v) → (i + k, cv A v) ∈ lv_args i (as.map (cv A))
  | [], i, k, v, h => by simp [entL] at h
  | .inl x :: r, i, k, v, h => by
    simp only [List.map_cons, lv_args]
    cases k with
    | zero => simp only [entL, List.getElem?_cons_zero] at h; cases h; exact List.mem_cons_self
    | succ k => simp only [entL, List.getElem?_cons_succ] at h; have := entL_at (A := A) r (i + 1) k v h; refine List.mem_cons_of_mem _ ?_; simpa [cv, Value.category, Nat.add_assoc, Nat.add_comm 1 k] using this
  | .inr (.inl x) :: r, i, k, v, h => by
    simp only [List.map_cons, lv_args]
    cases k with
    | zero => simp only [entL, List.getElem?_cons_zero] at h; cases h; exact List.mem_cons_self
    | succ k => cases k with
      | zero => simp [entL] at h
      | succ k => simp only [entL, List.getElem?_cons_succ] at h; have := entL_at (A := A) r (i + 2) k v h; refine List.mem_cons_of_mem _ ?_; simpa [cv, Value.category, Nat.add_assoc, Nat.add_comm 2 k] using this
  | .inr (.inr x) :: r, i, k, v, h => by
    simp only [List.map_cons, lv_args]
    cases k with
    | zero => simp only [entL, List.getElem?_cons_zero] at h; cases h; exact List.mem_cons_self
    | succ k => simp only [entL, List.getElem?_cons_succ] at h; have := entL_at (A := A) r (i + 1) k v h; refine List.mem_cons_of_mem _ ?_; simpa [cv, Value.category, Nat.add_assoc, Nat.add_comm 1 k] using this
theorem okL_ent : ∀ (as : ASt), okS ph as → okL ph (entL as)
  | [], _ => fun v h => by cases h
  | .inl x :: r, h => fun v hv => by
    rcases List.mem_cons.mp hv with h1 | h1
    · cases h1; trivial
    · exact okL_ent r (ok1 h) v h1
  | .inr (.inl x) :: r, h => fun v hv => by
    rcases List.mem_cons.mp hv with h1 | h1
    · cases h1; trivial
    · rcases List.mem_cons.mp h1 with h2 | h2
      · cases h2
      · exact okL_ent r (ok1 h) v h2
  | .inr (.inr x) :: r, h => fun v hv => by
    rcases List.mem_cons.mp hv with h1 | h1
    · cases h1; exact (okS_cons.mp h).1
    · exact okL_ent r (ok1 h) v h1
theorem ctr_of {Z : ZT} {y : MethodName} {cc : ByteArray} {maxL d : Nat} {ret : Option FieldType} {ρ : Type} {pu : ρ → ASt} {as : ASt} {m : Mem} {o : Option (ρ × Mem)} {P : PT} {ls : ALs}
    (hy : plainName y.cls = true) (hown : P.1 = y.cls) (hP : ptOk P) (hlen : Nat.ble (entL as).length maxL = true) (hls : padL maxL (entL as) = ls)
    (body : ∀ X : XT, GC X cc P → xZ X = Z → xR X = rmd d → xcl X = 0 → xsl X = 0 → (xM X).sig.returnType = ret → Go X (Em X pu) 0 ls [] m o) : Ctr Z y cc maxL ret d pu as m o := by
  intro hok r m' ho
  refine Met.ofW (cc := cc) (maxL := maxL) (ret := ret) hy rfl ?_
  intro p e s mi args below meth c s₁ B hml hv
  obtain ⟨rfl, hPw, hK, hN, hA⟩ := hv
  obtain ⟨l, A, dC, dI, cs, ph, L, xsc⟩ := Z
  have hts := atoms_spec (ws := .code y cc maxL ret :: wsC) B.pre
  have hfc : s.vm.findClass y.cls = some mi.cls := findClass_of_methodNamed B.named
  rw [lg_entry_eq]
  have hle : (lg_sl (as.map (cv A))).length ≤ maxL := by rw [entL_len]; exact Nat.le_of_ble_eq_true hlen
  have hl := lv_entry (as.map (cv A)) (n := maxL) hle
  have hlh : lhas A maxL ((lg_sl (as.map (cv A)) ++ List.replicate (maxL - (lg_sl (as.map (cv A))).length) Slot.unset).toArray) ls := by
    subst hls
    refine ⟨hl.1, ?_, hl.2.1, fun k v hk => ?_⟩
    · have := Nat.le_of_ble_eq_true hlen
      simp [padL]; omega
    · unfold padL at hk
      by_cases h1 : k < (entL as).length
      · rw [List.getElem?_append_left h1] at hk
        have := entL_at (A := A) as 0 k v hk
        rw [Nat.zero_add] at this
        exact hl.2.2 _ this
      · rw [List.getElem?_append_right (Nat.not_lt.mp h1), List.getElem?_replicate] at hk
        split at hk <;> cases hk
  have hokl : okL ph ls := by
    subst hls
    intro v hv
    rcases List.mem_append.mp hv with h1 | h1
    · exact okL_ent as hok v h1
    · exact absurd (List.eq_of_mem_replicate h1) (by intro q; cases q)
  have hgc : GC (p, e, rmd d, s, mi, (as.map (cv A)).toArray, below, meth, c, (l, A, dC, dI, cs, ph, L, xsc), 0, 0, maxL) cc P :=
    ⟨B.exec, B.bytes, hml, by show s.vm.findClass P.1 = _; rw [hown]; exact hfc, fun w hw => hts w (List.mem_cons_of_mem _ hw), hN, hK, hA, B.notSynchronized, hP⟩
  exact body _ hgc rfl rfl rfl rfl B.returns r m' ho (fun v h => by cases h) hokl s.heap [] _ hPw va_S.rf hlh
/-! ===== what every piece of a method takes ===== -/
def MX (X : XT) (cc : ByteArray) (P : PT) (D : Nat) (ret : Option FieldType) : Prop := GC X cc P ∧ xR X = rmd D ∧ xcl X = 0 ∧ xsl X = 0 ∧ (xM X).sig.returnType = ret
theorem MX.room {X : XT} {cc : ByteArray} {P : PT} {D : Nat} {ret : Option FieldType} (h : MX X cc P D ret) {d maxL : Nat} (h1 : d + 1 ≤ D) (h2 : maxL ≤ 21) : d + 1 ≤ (xR X).frames ∧ 8 + (maxL + 11) + 40 * d ≤ (xR X).locals := by
  rw [h.2.1]
  show d + 1 ≤ D ∧ 8 + (maxL + 11) + 40 * d ≤ 40 * D
  omega
theorem MX.cl {X : XT} {cc : ByteArray} {P : PT} {D : Nat} {ret : Option FieldType} (h : MX X cc P D ret) : xcl X ≤ (xR X).cells ∧ xsl X ≤ (xR X).slots := by
  rw [h.2.2.1, h.2.2.2.1]
  exact ⟨Nat.zero_le _, Nat.zero_le _⟩
theorem puI_ok : ∀ r, (puI r).length ≤ 1 ∧ okS ph (puI r) := fun r => ⟨Nat.le_refl _, fun v hv => by rw [List.mem_singleton.mp hv]; trivial⟩
theorem puL_ok : ∀ r, (puL r).length ≤ 1 ∧ okS ph (puL r) := fun r => ⟨Nat.le_refl _, fun v hv => by rw [List.mem_singleton.mp hv]; trivial⟩
theorem puV_ok : ∀ r, (puV r).length ≤ 1 ∧ okS ph (puV r) := fun r => ⟨Nat.zero_le _, fun v hv => by cases hv⟩
theorem wsC_at {w : Cond} (i : Nat) (h : lw_tbl[i]? = some w) (hg : goodWord w = true) : w ∈ wsC := List.mem_filter.mpr ⟨List.mem_of_getElem? h, hg⟩
/-! ===== the JDK's own: max, min ===== -/
section GJ
variable {X : XT} {cc : ByteArray} {P : PT} {ρ : Type} {E : ρ → Mem → State → Prop} {pc D : Nat} {ret : Option FieldType} {ls : ALs} {m : Mem} {o : Option (ρ × Mem)} {rest : ASt} {index : Nat}
theorem go_max (h : MX X cc P D ret) (hD : 1 ≤ D) {x y : Int32} (hd : decode cc pc = .ok (.invokestatic index, 3)) (w1 : Cond.methodLink P.1 index Lib.Math.max.name ∈ wsC) (w2 : Cond.static Lib.Math.max.name ∈ wsC) (w3 : Cond.initialized "java/lang/Math" ∈ wsC) (w4 : Cond.code Lib.Math.max.name Lib.Math.max.code 2 (some .int) ∈ wsC) (hcat : catS rest ≤ 8)
    (kk : Go X E (pc + 3) ls (.inl (if x < y then y else x) :: rest) m o) : Go X E pc ls (.inl y :: .inl x :: rest) m o := by
  intro r m2 ho hS hL H locs lsa hP hSt hl
  have hts := h.1.2.2.2.2.1
  refine va_mmax h.1.1 h.1.2.1 (h.1.2.2.1.trans hl.1.symm) h.1.2.2.2.1 (hts _ w1) (hts _ w2) (hts _ w3) (hts _ w4) ?_ ?_ h.cl.1 h.cl.2 hd (kk r m2 ho (okT trivial (ok2 hS)) hL H locs lsa hP hSt hl)
  · rw [h.2.1]; exact hD
  · rw [h.2.1, catS_eq]; show catS rest + 13 ≤ 40 * D; omega
theorem go_min (h : MX X cc P D ret) (hD : 1 ≤ D) {x y : Int32} (hd : decode cc pc = .ok (.invokestatic index, 3)) (w1 : Cond.methodLink P.1 index Lib.Math.min.name ∈ wsC) (w2 : Cond.static Lib.Math.min.name ∈ wsC) (w3 : Cond.initialized "java/lang/Math" ∈ wsC) (w4 : Cond.code Lib.Math.min.name Lib.Math.min.code 2 (some .int) ∈ wsC) (hcat : catS rest ≤ 8)
    (kk : Go X E (pc + 3) ls (.inl (if y < x then y else x) :: rest) m o) : Go X E pc ls (.inl y :: .inl x :: rest) m o := by
  intro r m2 ho hS hL H locs lsa hP hSt hl
  have hts := h.1.2.2.2.2.1
  refine va_mmin h.1.1 h.1.2.1 (h.1.2.2.1.trans hl.1.symm) h.1.2.2.2.1 (hts _ w1) (hts _ w2) (hts _ w3) (hts _ w4) ?_ ?_ h.cl.1 h.cl.2 hd (kk r m2 ho (okT trivial (ok2 hS)) hL H locs lsa hP hSt hl)
  · rw [h.2.1]; exact hD
  · rw [h.2.1, catS_eq]; show catS rest + 13 ≤ 40 * D; omega
end GJ
/-! ===== switches ===== -/
section GSW
variable {X : XT} {cc : ByteArray} {P : PT} {ρ : Type} {E : ρ → Mem → State → Prop} {pc len : Nat} {ls : ALs} {m : Mem} {o : Option (ρ × Mem)} {rest : ASt} {x : Int32}
theorem go_tsIn (hC : GC X cc P) {dflt lo hi off : Int} {offs : Array Int} (v : Int32) (tgt : Nat) (hx : x = v) (hd : decode cc pc = .ok (.tableswitch dflt lo hi offs, len)) (h1 : ¬ v.toInt < lo ∧ ¬ hi < v.toInt) (ho : offs[(v.toInt - lo).toNat]? = some off) (ht : (pc : Int) + off = (tgt : Int)) (kk : Go X E tgt ls rest m o) : Go X E pc ls (.inl x :: rest) m o := by
  intro r m2 h hS hL H locs lsa hP hSt hl
  subst hx
  exact lv_tableIn hC.1 hC.2.1 hd h1.1 h1.2 ho ht (kk r m2 h (ok1 hS) hL H locs lsa hP hSt hl)
theorem sw_out {x : Int32} {lo hi : Int} {n : Nat} (hn : hi < lo + n) (h : ∀ j : Nat, j < n → ¬ x = Int32.ofInt (lo + j)) : x.toInt < lo ∨ hi < x.toInt := by
  by_cases h1 : x.toInt < lo
  · exact Or.inl h1
  by_cases h2 : hi < x.toInt
  · exact Or.inr h2
  refine absurd ?_ (h (x.toInt - lo).toNat (by omega))
  rw [show lo + ((x.toInt - lo).toNat : Int) = x.toInt by omega, Int32.ofInt_toInt]
theorem go_tsOut (hC : GC X cc P) {dflt lo hi : Int} {offs : Array Int} (tgt : Nat) (hd : decode cc pc = .ok (.tableswitch dflt lo hi offs, len)) (h1 : x.toInt < lo ∨ hi < x.toInt) (ht : (pc : Int) + dflt = (tgt : Int)) (kk : Go X E tgt ls rest m o) : Go X E pc ls (.inl x :: rest) m o := by
  intro r m2 h hS hL H locs lsa hP hSt hl
  exact lv_tableOut hC.1 hC.2.1 hd h1 ht (kk r m2 h (ok1 hS) hL H locs lsa hP hSt hl)
theorem go_ls (hC : GC X cc P) {dflt off : Int} {ps : Array (Int × Int)} (tgt : Nat) (hd : decode cc pc = .ok (.lookupswitch dflt ps, len)) (hp : (ps.toList.zip (ps.toList.drop 1)).all (fun (a, next) => a.1 < next.1) = true) (ho : Op.lookupswitch.offset ps.toList dflt x.toInt = off) (ht : (pc : Int) + off = (tgt : Int)) (kk : Go X E tgt ls rest m o) : Go X E pc ls (.inl x :: rest) m o := by
  intro r m2 h hS hL H locs lsa hP hSt hl
  exact lv_lookup hC.1 hC.2.1 hd hp ho ht (kk r m2 h (ok1 hS) hL H locs lsa hP hSt hl)
theorem go_lsIn (hC : GC X cc P) {dflt off : Int} {ps : Array (Int × Int)} (v : Int32) (tgt : Nat) (hx : x = v) (hd : decode cc pc = .ok (.lookupswitch dflt ps, len)) (hp : (ps.toList.zip (ps.toList.drop 1)).all (fun (a, next) => a.1 < next.1) = true) (ho : Op.lookupswitch.offset ps.toList dflt v.toInt = off) (ht : (pc : Int) + off = (tgt : Int)) (kk : Go X E tgt ls rest m o) : Go X E pc ls (.inl x :: rest) m o := by
  subst hx
  exact go_ls hC tgt hd hp ho ht kk
theorem toInt_ne {x v : Int32} (h : ¬ x = v) : ¬ x.toInt = v.toInt := fun q => h (Int32.toInt_inj.mp q)
end GSW
/-! ===== the script ===== -/
section GSC
variable {X : XT} {cc : ByteArray} {P : PT} {ρ : Type} {E : ρ → Mem → State → Prop} {pc : Nat} {ls : ALs} {m : Mem} {o : Option (ρ × Mem)} {rest : ASt}
theorem go_slen (hC : GC X cc P) (hd : decode cc pc = .ok (.arraylength, 1)) (kk : Go X E (pc + 1) ls (.inl (Int32.ofNat (xL X)) :: rest) m o) : Go X E pc ls (.inr (.inr (60, 0)) :: rest) m o := by
  intro r m2 ho hS hL H locs lsa hP hSt hl
  have h := hC.2.2.2.2.2.2.2.1.2
  exact va_slen hC.1 hC.2.1 h.1 h.2.1 h.2.2 hSt hd (kk r m2 ho (okT trivial (ok1 hS)) hL H locs lsa hP hSt hl)
theorem go_sld (hC : GC X cc P) {j : Int32} (hd : decode cc pc = .ok (.iaload, 1)) (kk : inB j (xL X) = true → Go X E (pc + 1) ls (.inl (xx X (ix j)) :: rest) m o) : Go X E pc ls (.inl j :: .inr (.inr (60, 0)) :: rest) m (if inB j (xL X) = true then o else none) := by
  intro r m2 ho hS hL H locs lsa hP hSt hl
  split at ho
  case isFalse => cases ho
  rename_i hin
  have h := hC.2.2.2.2.2.2.2.1.2
  exact va_sld hC.1 hC.2.1 h.1 h.2.1 h.2.2 hSt (inB_in hin).1 hd (kk hin r m2 ho (okT trivial (ok2 hS)) hL H locs lsa hP hSt hl)
end GSC
end
section
/-! ===== printed by wip/p31/tr.py out of the listing: pools and words ===== -/
def P_X6 : PT := (RX6, [(196, 4, 1), (90, 1, 0), (95, 1, 1), (98, 1, 2), (101, 1, 3), (104, 1, 4), (86, 5, 0), (82, 5, 1), (115, 5, 2), (118, 5, 3), (138, 0, 2), (149, 0, 5), (131, 0, 10), (132, 0, 11), (135, 0, 12), (128, 0, 13), (76, 2, 2), (13, 6, 0), (21, 6, 1), (28, 6, 2), (35, 6, 3), (42, 6, 4), (46, 6, 5), (50, 6, 6)], [], [])
theorem pt_X6 : ptOk P_X6 := ⟨(List.forall_mem_cons.mpr ⟨⟨_, rfl, by decide, wsC_at 39 (by decide +kernel) rfl⟩, (List.forall_mem_cons.mpr ⟨⟨_, rfl, by decide, wsC_at 67 (by decide +kernel) rfl⟩, (List.forall_mem_cons.mpr ⟨⟨_, rfl, by decide, wsC_at 70 (by decide +kernel) rfl⟩, (List.forall_mem_cons.mpr ⟨⟨_, rfl, by decide, wsC_at 73 (by decide +kernel) rfl⟩, (List.forall_mem_cons.mpr ⟨⟨_, rfl, by decide, wsC_at 76 (by decide +kernel) rfl⟩, (List.forall_mem_cons.mpr ⟨⟨_, rfl, by decide, wsC_at 79 (by decide +kernel) rfl⟩, (List.forall_mem_cons.mpr ⟨⟨_, rfl, by decide, wsC_at 93 (by decide +kernel) rfl⟩, (List.forall_mem_cons.mpr ⟨⟨_, rfl, by decide, wsC_at 96 (by decide +kernel) rfl⟩, (List.forall_mem_cons.mpr ⟨⟨_, rfl, by decide, wsC_at 99 (by decide +kernel) rfl⟩, (List.forall_mem_cons.mpr ⟨⟨_, rfl, by decide, wsC_at 102 (by decide +kernel) rfl⟩, (List.forall_mem_cons.mpr ⟨⟨_, rfl, by decide, wsC_at 123 (by decide +kernel) rfl⟩, (List.forall_mem_cons.mpr ⟨⟨_, rfl, by decide, wsC_at 127 (by decide +kernel) rfl⟩, (List.forall_mem_cons.mpr ⟨⟨_, rfl, by decide, wsC_at 133 (by decide +kernel) rfl⟩, (List.forall_mem_cons.mpr ⟨⟨_, rfl, by decide, wsC_at 135 (by decide +kernel) rfl⟩, (List.forall_mem_cons.mpr ⟨⟨_, rfl, by decide, wsC_at 137 (by decide +kernel) rfl⟩, (List.forall_mem_cons.mpr ⟨⟨_, rfl, by decide, wsC_at 139 (by decide +kernel) rfl⟩, (List.forall_mem_cons.mpr ⟨⟨_, rfl, by decide, wsC_at 203 (by decide +kernel) rfl⟩, (List.forall_mem_cons.mpr ⟨⟨_, rfl, by decide, wsC_at 211 (by decide +kernel) rfl⟩, (List.forall_mem_cons.mpr ⟨⟨_, rfl, by decide, wsC_at 212 (by decide +kernel) rfl⟩, (List.forall_mem_cons.mpr ⟨⟨_, rfl, by decide, wsC_at 213 (by decide +kernel) rfl⟩, (List.forall_mem_cons.mpr ⟨⟨_, rfl, by decide, wsC_at 214 (by decide +kernel) rfl⟩, (List.forall_mem_cons.mpr ⟨⟨_, rfl, by decide, wsC_at 215 (by decide +kernel) rfl⟩, (List.forall_mem_cons.mpr ⟨⟨_, rfl, by decide, wsC_at 216 (by decide +kernel) rfl⟩, (List.forall_mem_cons.mpr ⟨⟨_, rfl, by decide, wsC_at 217 (by decide +kernel) rfl⟩, (fun _ h => absurd h List.not_mem_nil)⟩)⟩)⟩)⟩)⟩)⟩)⟩)⟩)⟩)⟩)⟩)⟩)⟩)⟩)⟩)⟩)⟩)⟩)⟩)⟩)⟩)⟩)⟩)⟩), (fun _ h => absurd h List.not_mem_nil), (fun _ h => absurd h List.not_mem_nil)⟩
def P_X0 : PT := (RX0, [(66, 1, 0), (70, 1, 1), (72, 1, 2), (74, 1, 3), (76, 1, 4), (62, 5, 0), (38, 5, 1), (45, 5, 2), (49, 5, 3), (9, 0, 0), (15, 0, 1), (18, 0, 2), (21, 0, 3), (24, 0, 4), (29, 0, 5), (32, 0, 6), (35, 0, 7), (44, 0, 8), (48, 0, 9), (52, 0, 10), (53, 0, 11), (56, 0, 12), (59, 0, 13)], [], [])
theorem pt_X0 : ptOk P_X0 := ⟨(List.forall_mem_cons.mpr ⟨⟨_, rfl, by decide, wsC_at 66 (by decide +kernel) rfl⟩, (List.forall_mem_cons.mpr ⟨⟨_, rfl, by decide, wsC_at 69 (by decide +kernel) rfl⟩, (List.forall_mem_cons.mpr ⟨⟨_, rfl, by decide, wsC_at 72 (by decide +kernel) rfl⟩, (List.forall_mem_cons.mpr ⟨⟨_, rfl, by decide, wsC_at 75 (by decide +kernel) rfl⟩, (List.forall_mem_cons.mpr ⟨⟨_, rfl, by decide, wsC_at 78 (by decide +kernel) rfl⟩, (List.forall_mem_cons.mpr ⟨⟨_, rfl, by decide, wsC_at 92 (by decide +kernel) rfl⟩, (List.forall_mem_cons.mpr ⟨⟨_, rfl, by decide, wsC_at 95 (by decide +kernel) rfl⟩, (List.forall_mem_cons.mpr ⟨⟨_, rfl, by decide, wsC_at 98 (by decide +kernel) rfl⟩, (List.forall_mem_cons.mpr ⟨⟨_, rfl, by decide, wsC_at 101 (by decide +kernel) rfl⟩, (List.forall_mem_cons.mpr ⟨⟨_, rfl, by decide, wsC_at 120 (by decide +kernel) rfl⟩, (List.forall_mem_cons.mpr ⟨⟨_, rfl, by decide, wsC_at 121 (by decide +kernel) rfl⟩, (List.forall_mem_cons.mpr ⟨⟨_, rfl, by decide, wsC_at 122 (by decide +kernel) rfl⟩, (List.forall_mem_cons.mpr ⟨⟨_, rfl, by decide, wsC_at 124 (by decide +kernel) rfl⟩, (List.forall_mem_cons.mpr ⟨⟨_, rfl, by decide, wsC_at 125 (by decide +kernel) rfl⟩, (List.forall_mem_cons.mpr ⟨⟨_, rfl, by decide, wsC_at 126 (by decide +kernel) rfl⟩, (List.forall_mem_cons.mpr ⟨⟨_, rfl, by decide, wsC_at 128 (by decide +kernel) rfl⟩, (List.forall_mem_cons.mpr ⟨⟨_, rfl, by decide, wsC_at 129 (by decide +kernel) rfl⟩, (List.forall_mem_cons.mpr ⟨⟨_, rfl, by decide, wsC_at 130 (by decide +kernel) rfl⟩, (List.forall_mem_cons.mpr ⟨⟨_, rfl, by decide, wsC_at 131 (by decide +kernel) rfl⟩, (List.forall_mem_cons.mpr ⟨⟨_, rfl, by decide, wsC_at 132 (by decide +kernel) rfl⟩, (List.forall_mem_cons.mpr ⟨⟨_, rfl, by decide, wsC_at 134 (by decide +kernel) rfl⟩, (List.forall_mem_cons.mpr ⟨⟨_, rfl, by decide, wsC_at 136 (by decide +kernel) rfl⟩, (List.forall_mem_cons.mpr ⟨⟨_, rfl, by decide, wsC_at 138 (by decide +kernel) rfl⟩, (fun _ h => absurd h List.not_mem_nil)⟩)⟩)⟩)⟩)⟩)⟩)⟩)⟩)⟩)⟩)⟩)⟩)⟩)⟩)⟩)⟩)⟩)⟩)⟩)⟩)⟩)⟩)⟩), (fun _ h => absurd h List.not_mem_nil), (fun _ h => absurd h List.not_mem_nil)⟩
def P_X1 : PT := (RX1, [(18, 1, 0), (24, 1, 1), (27, 1, 2), (30, 1, 3), (33, 1, 4)], [], [])
theorem pt_X1 : ptOk P_X1 := ⟨(List.forall_mem_cons.mpr ⟨⟨_, rfl, by decide, wsC_at 65 (by decide +kernel) rfl⟩, (List.forall_mem_cons.mpr ⟨⟨_, rfl, by decide, wsC_at 68 (by decide +kernel) rfl⟩, (List.forall_mem_cons.mpr ⟨⟨_, rfl, by decide, wsC_at 71 (by decide +kernel) rfl⟩, (List.forall_mem_cons.mpr ⟨⟨_, rfl, by decide, wsC_at 74 (by decide +kernel) rfl⟩, (List.forall_mem_cons.mpr ⟨⟨_, rfl, by decide, wsC_at 77 (by decide +kernel) rfl⟩, (fun _ h => absurd h List.not_mem_nil)⟩)⟩)⟩)⟩)⟩), (fun _ h => absurd h List.not_mem_nil), (fun _ h => absurd h List.not_mem_nil)⟩
def P_X3 : PT := (RX3, [(12, 3, 0), (18, 3, 1), (22, 3, 2), (25, 3, 3), (30, 3, 4)], [(29, (1000000 : Int32))], [])
theorem pt_X3 : ptOk P_X3 := ⟨(List.forall_mem_cons.mpr ⟨⟨_, rfl, by decide, wsC_at 178 (by decide +kernel) rfl⟩, (List.forall_mem_cons.mpr ⟨⟨_, rfl, by decide, wsC_at 179 (by decide +kernel) rfl⟩, (List.forall_mem_cons.mpr ⟨⟨_, rfl, by decide, wsC_at 180 (by decide +kernel) rfl⟩, (List.forall_mem_cons.mpr ⟨⟨_, rfl, by decide, wsC_at 181 (by decide +kernel) rfl⟩, (List.forall_mem_cons.mpr ⟨⟨_, rfl, by decide, wsC_at 182 (by decide +kernel) rfl⟩, (fun _ h => absurd h List.not_mem_nil)⟩)⟩)⟩)⟩)⟩), (List.forall_mem_cons.mpr ⟨wsC_at 177 (by decide +kernel) rfl, (fun _ h => absurd h List.not_mem_nil)⟩), (fun _ h => absurd h List.not_mem_nil)⟩
def P_X4 : PT := (RX4, [(9, 4, 0), (15, 4, 1), (19, 4, 2), (23, 4, 3)], [], [])
theorem pt_X4 : ptOk P_X4 := ⟨(List.forall_mem_cons.mpr ⟨⟨_, rfl, by decide, wsC_at 37 (by decide +kernel) rfl⟩, (List.forall_mem_cons.mpr ⟨⟨_, rfl, by decide, wsC_at 38 (by decide +kernel) rfl⟩, (List.forall_mem_cons.mpr ⟨⟨_, rfl, by decide, wsC_at 40 (by decide +kernel) rfl⟩, (List.forall_mem_cons.mpr ⟨⟨_, rfl, by decide, wsC_at 41 (by decide +kernel) rfl⟩, (fun _ h => absurd h List.not_mem_nil)⟩)⟩)⟩)⟩), (fun _ h => absurd h List.not_mem_nil), (fun _ h => absurd h List.not_mem_nil)⟩
def P_X5 : PT := (RX5, [(11, 5, 0), (18, 5, 1), (22, 5, 2), (25, 5, 3)], [], [])
theorem pt_X5 : ptOk P_X5 := ⟨(List.forall_mem_cons.mpr ⟨⟨_, rfl, by decide, wsC_at 91 (by decide +kernel) rfl⟩, (List.forall_mem_cons.mpr ⟨⟨_, rfl, by decide, wsC_at 94 (by decide +kernel) rfl⟩, (List.forall_mem_cons.mpr ⟨⟨_, rfl, by decide, wsC_at 97 (by decide +kernel) rfl⟩, (List.forall_mem_cons.mpr ⟨⟨_, rfl, by decide, wsC_at 100 (by decide +kernel) rfl⟩, (fun _ h => absurd h List.not_mem_nil)⟩)⟩)⟩)⟩), (fun _ h => absurd h List.not_mem_nil), (fun _ h => absurd h List.not_mem_nil)⟩
def P_J7 : PT := (RJ7, [], [], [])
theorem pt_J7 : ptOk P_J7 := ⟨(fun _ h => absurd h List.not_mem_nil), (fun _ h => absurd h List.not_mem_nil), (fun _ h => absurd h List.not_mem_nil)⟩
theorem wd_s_X6_111 : sOk RX6 111 yX6_isWithin prog_1_method_30_code 3 (some .boolean) 3 := ⟨(wsC_at 240 (by decide +kernel) rfl), (wsC_at 241 (by decide +kernel) rfl), (wsC_at 13 (by decide +kernel) rfl), (wsC_at 242 (by decide +kernel) rfl), by decide +kernel⟩
theorem wd_v_X4_41 : vOk RX4 41 RX4 yX4_holds prog_6_method_3_code 3 (some .boolean) 2 := ⟨(wsC_at 250 (by decide +kernel) rfl), (wsC_at 251 (by decide +kernel) rfl), (wsC_at 252 (by decide +kernel) rfl), (wsC_at 14 (by decide +kernel) rfl), (wsC_at 253 (by decide +kernel) rfl), by decide +kernel⟩
theorem wd_s_X6_243 : sOk RX6 243 yX6_isDigit prog_1_method_48_code 3 (some .boolean) 3 := ⟨(wsC_at 268 (by decide +kernel) rfl), (wsC_at 269 (by decide +kernel) rfl), (wsC_at 13 (by decide +kernel) rfl), (wsC_at 270 (by decide +kernel) rfl), by decide +kernel⟩
theorem wd_s_X6_240 : sOk RX6 240 yX6_goesOn prog_1_method_47_code 2 (some .boolean) 2 := ⟨(wsC_at 265 (by decide +kernel) rfl), (wsC_at 266 (by decide +kernel) rfl), (wsC_at 13 (by decide +kernel) rfl), (wsC_at 267 (by decide +kernel) rfl), by decide +kernel⟩
theorem wd_v_X6_207 : vOk RX6 207 RX4 yX4_at prog_6_method_5_code 2 (some .int) 1 := ⟨(wsC_at 261 (by decide +kernel) rfl), (wsC_at 262 (by decide +kernel) rfl), (wsC_at 263 (by decide +kernel) rfl), (wsC_at 14 (by decide +kernel) rfl), (wsC_at 264 (by decide +kernel) rfl), by decide +kernel⟩
theorem wd_ml_X5_34 : Cond.methodLink RX5 34 Lib.Math.min.name ∈ wsC := (wsC_at 276 (by decide +kernel) rfl)
theorem wd_st_min : Cond.static Lib.Math.min.name ∈ wsC := (wsC_at 277 (by decide +kernel) rfl)
theorem wd_in_Math : Cond.initialized "java/lang/Math" ∈ wsC := (wsC_at 21 (by decide +kernel) rfl)
theorem wd_co_min : Cond.code Lib.Math.min.name Lib.Math.min.code 2 (some .int) ∈ wsC := (wsC_at 278 (by decide +kernel) rfl)
theorem wd_v_X1_7 : vOk RX1 7 RX4 yX4_at prog_6_method_5_code 2 (some .int) 1 := ⟨(wsC_at 283 (by decide +kernel) rfl), (wsC_at 262 (by decide +kernel) rfl), (wsC_at 263 (by decide +kernel) rfl), (wsC_at 14 (by decide +kernel) rfl), (wsC_at 264 (by decide +kernel) rfl), by decide +kernel⟩
theorem wd_n_X1_13 : nOk RX1 13 "HeronFord" yX6_kindOf prog_1_method_49_code 1 (some .int) 1 := ⟨List.mem_filter.mpr ⟨List.mem_of_getElem? (i := 284) (by decide +kernel), rfl⟩, (wsC_at 285 (by decide +kernel) rfl), (wsC_at 13 (by decide +kernel) rfl), (wsC_at 286 (by decide +kernel) rfl), by decide +kernel⟩
theorem wd_v_X5_40 : vOk RX5 40 RX1 yX1_take prog_3_method_2_code 3 none 2 := ⟨(wsC_at 279 (by decide +kernel) rfl), (wsC_at 280 (by decide +kernel) rfl), (wsC_at 281 (by decide +kernel) rfl), (wsC_at 16 (by decide +kernel) rfl), (wsC_at 282 (by decide +kernel) rfl), by decide +kernel⟩
theorem wd_v_X5_28 : vOk RX5 28 RX4 yX4_at prog_6_method_5_code 2 (some .int) 1 := ⟨(wsC_at 275 (by decide +kernel) rfl), (wsC_at 262 (by decide +kernel) rfl), (wsC_at 263 (by decide +kernel) rfl), (wsC_at 14 (by decide +kernel) rfl), (wsC_at 264 (by decide +kernel) rfl), by decide +kernel⟩
theorem wd_v_X6_79 : vOk RX6 79 RX3 yX3_forget prog_5_method_2_code 1 none 0 := ⟨(wsC_at 287 (by decide +kernel) rfl), (wsC_at 288 (by decide +kernel) rfl), (wsC_at 289 (by decide +kernel) rfl), (wsC_at 18 (by decide +kernel) rfl), (wsC_at 290 (by decide +kernel) rfl), by decide +kernel⟩
theorem wd_v_X6_72 : vOk RX6 72 RX5 yX5_take prog_7_method_3_code 5 none 3 := ⟨(wsC_at 271 (by decide +kernel) rfl), (wsC_at 272 (by decide +kernel) rfl), (wsC_at 273 (by decide +kernel) rfl), (wsC_at 15 (by decide +kernel) rfl), (wsC_at 274 (by decide +kernel) rfl), by decide +kernel⟩
theorem wd_s_X6_68 : sOk RX6 68 yX6_firstFault prog_1_method_46_code 4 (some .int) 3 := ⟨(wsC_at 258 (by decide +kernel) rfl), (wsC_at 259 (by decide +kernel) rfl), (wsC_at 13 (by decide +kernel) rfl), (wsC_at 260 (by decide +kernel) rfl), by decide +kernel⟩
theorem wd_v_X6_64 : vOk RX6 64 RX6 yX6_faulty prog_1_method_36_code 2 (some .int) 1 := ⟨(wsC_at 254 (by decide +kernel) rfl), (wsC_at 256 (by decide +kernel) rfl), (wsC_at 0 (by decide +kernel) rfl), (wsC_at 13 (by decide +kernel) rfl), (wsC_at 257 (by decide +kernel) rfl), by decide +kernel⟩
theorem wd_v_X6_60 : vOk RX6 60 RX4 yX4_faultAt prog_6_method_4_code 4 (some .int) 3 := ⟨(wsC_at 246 (by decide +kernel) rfl), (wsC_at 247 (by decide +kernel) rfl), (wsC_at 248 (by decide +kernel) rfl), (wsC_at 14 (by decide +kernel) rfl), (wsC_at 249 (by decide +kernel) rfl), by decide +kernel⟩
theorem wd_s_X6_57 : sOk RX6 57 yX6_isLane prog_1_method_32_code 1 (some .boolean) 1 := ⟨(wsC_at 243 (by decide +kernel) rfl), (wsC_at 244 (by decide +kernel) rfl), (wsC_at 13 (by decide +kernel) rfl), (wsC_at 245 (by decide +kernel) rfl), by decide +kernel⟩
theorem wd_s_X6_53 : sOk RX6 53 yX6_isSheet prog_1_method_31_code 1 (some .boolean) 1 := ⟨(wsC_at 237 (by decide +kernel) rfl), (wsC_at 238 (by decide +kernel) rfl), (wsC_at 13 (by decide +kernel) rfl), (wsC_at 239 (by decide +kernel) rfl), by decide +kernel⟩
theorem wd_s_X6_107 : sOk RX6 107 yX6_shareOf prog_1_method_35_code 2 (some .int) 2 := ⟨(wsC_at 299 (by decide +kernel) rfl), (wsC_at 300 (by decide +kernel) rfl), (wsC_at 13 (by decide +kernel) rfl), (wsC_at 301 (by decide +kernel) rfl), by decide +kernel⟩
theorem wd_v_X6_83 : vOk RX6 83 RX5 yX5_has prog_7_method_2_code 2 (some .boolean) 1 := ⟨(wsC_at 295 (by decide +kernel) rfl), (wsC_at 296 (by decide +kernel) rfl), (wsC_at 297 (by decide +kernel) rfl), (wsC_at 15 (by decide +kernel) rfl), (wsC_at 298 (by decide +kernel) rfl), by decide +kernel⟩
theorem wd_s_X0_78 : sOk RX0 78 yJ7_fill_53178 prog_11_method_103_code 4 none 2 := ⟨(wsC_at 330 (by decide +kernel) rfl), (wsC_at 331 (by decide +kernel) rfl), (wsC_at 20 (by decide +kernel) rfl), (wsC_at 332 (by decide +kernel) rfl), by decide +kernel⟩
theorem wd_v_X0_121 : vOk RX0 121 RX0 yX0_isBelow prog_2_method_13_code 2 (some .boolean) 1 := ⟨(wsC_at 351 (by decide +kernel) rfl), (wsC_at 352 (by decide +kernel) rfl), (wsC_at 353 (by decide +kernel) rfl), (wsC_at 17 (by decide +kernel) rfl), (wsC_at 354 (by decide +kernel) rfl), by decide +kernel⟩
theorem wd_n_X0_118 : nOk RX0 118 "HeronFord" yX6_shareOf prog_1_method_35_code 2 (some .int) 2 := ⟨List.mem_filter.mpr ⟨List.mem_of_getElem? (i := 350) (by decide +kernel), rfl⟩, (wsC_at 300 (by decide +kernel) rfl), (wsC_at 13 (by decide +kernel) rfl), (wsC_at 301 (by decide +kernel) rfl), by decide +kernel⟩
theorem wd_v_X0_108 : vOk RX0 108 RX0 yX0_hasNewSong prog_2_method_9_code 2 (some .boolean) 1 := ⟨(wsC_at 355 (by decide +kernel) rfl), (wsC_at 357 (by decide +kernel) rfl), (wsC_at 4 (by decide +kernel) rfl), (wsC_at 17 (by decide +kernel) rfl), (wsC_at 358 (by decide +kernel) rfl), by decide +kernel⟩
theorem wd_v_X0_112 : vOk RX0 112 RX0 yX0_hasSecret prog_2_method_10_code 2 (some .boolean) 1 := ⟨(wsC_at 359 (by decide +kernel) rfl), (wsC_at 361 (by decide +kernel) rfl), (wsC_at 5 (by decide +kernel) rfl), (wsC_at 17 (by decide +kernel) rfl), (wsC_at 362 (by decide +kernel) rfl), by decide +kernel⟩
theorem wd_v_X0_115 : vOk RX0 115 RX0 yX0_lenderFor prog_2_method_11_code 4 (some .int) 2 := ⟨(wsC_at 363 (by decide +kernel) rfl), (wsC_at 365 (by decide +kernel) rfl), (wsC_at 6 (by decide +kernel) rfl), (wsC_at 17 (by decide +kernel) rfl), (wsC_at 366 (by decide +kernel) rfl), by decide +kernel⟩
theorem wd_v_X0_97 : vOk RX0 97 RX0 yX0_tollOf prog_2_method_12_code 3 (some .int) 1 := ⟨(wsC_at 346 (by decide +kernel) rfl), (wsC_at 347 (by decide +kernel) rfl), (wsC_at 348 (by decide +kernel) rfl), (wsC_at 17 (by decide +kernel) rfl), (wsC_at 349 (by decide +kernel) rfl), by decide +kernel⟩
theorem wd_v_X0_104 : vOk RX0 104 RX0 yX0_turnWord prog_2_method_8_code 3 none 2 := ⟨(wsC_at 371 (by decide +kernel) rfl), (wsC_at 373 (by decide +kernel) rfl), (wsC_at 8 (by decide +kernel) rfl), (wsC_at 17 (by decide +kernel) rfl), (wsC_at 374 (by decide +kernel) rfl), by decide +kernel⟩
theorem wd_v_X0_100 : vOk RX0 100 RX0 yX0_pay prog_2_method_7_code 4 none 3 := ⟨(wsC_at 367 (by decide +kernel) rfl), (wsC_at 369 (by decide +kernel) rfl), (wsC_at 7 (by decide +kernel) rfl), (wsC_at 17 (by decide +kernel) rfl), (wsC_at 370 (by decide +kernel) rfl), by decide +kernel⟩
theorem wd_v_X0_94 : vOk RX0 94 RX0 yX0_payerOf prog_2_method_6_code 4 (some .int) 2 := ⟨(wsC_at 342 (by decide +kernel) rfl), (wsC_at 344 (by decide +kernel) rfl), (wsC_at 3 (by decide +kernel) rfl), (wsC_at 17 (by decide +kernel) rfl), (wsC_at 345 (by decide +kernel) rfl), by decide +kernel⟩
theorem wd_v_X0_90 : vOk RX0 90 RX0 yX0_pass prog_2_method_4_code 4 (some .int) 2 := ⟨(wsC_at 338 (by decide +kernel) rfl), (wsC_at 339 (by decide +kernel) rfl), (wsC_at 340 (by decide +kernel) rfl), (wsC_at 17 (by decide +kernel) rfl), (wsC_at 341 (by decide +kernel) rfl), by decide +kernel⟩
theorem wd_v_X0_84 : vOk RX0 84 RX4 yX4_at prog_6_method_5_code 2 (some .int) 1 := ⟨(wsC_at 337 (by decide +kernel) rfl), (wsC_at 262 (by decide +kernel) rfl), (wsC_at 263 (by decide +kernel) rfl), (wsC_at 14 (by decide +kernel) rfl), (wsC_at 264 (by decide +kernel) rfl), by decide +kernel⟩
theorem wd_v_X6_174 : vOk RX6 174 RX0 yX0_walk prog_2_method_3_code 5 (some .int) 3 := ⟨(wsC_at 333 (by decide +kernel) rfl), (wsC_at 334 (by decide +kernel) rfl), (wsC_at 335 (by decide +kernel) rfl), (wsC_at 17 (by decide +kernel) rfl), (wsC_at 336 (by decide +kernel) rfl), by decide +kernel⟩
theorem wd_v_X6_170 : vOk RX6 170 RX0 yX0_start prog_2_method_2_code 4 none 1 := ⟨(wsC_at 326 (by decide +kernel) rfl), (wsC_at 327 (by decide +kernel) rfl), (wsC_at 328 (by decide +kernel) rfl), (wsC_at 17 (by decide +kernel) rfl), (wsC_at 329 (by decide +kernel) rfl), by decide +kernel⟩
theorem wd_v_X6_125 : vOk RX6 125 RX6 yX6_walkAsTold prog_1_method_40_code 4 (some .int) 3 := ⟨(wsC_at 322 (by decide +kernel) rfl), (wsC_at 324 (by decide +kernel) rfl), (wsC_at 2 (by decide +kernel) rfl), (wsC_at 13 (by decide +kernel) rfl), (wsC_at 325 (by decide +kernel) rfl), by decide +kernel⟩
theorem wd_v_X6_121 : vOk RX6 121 RX6 yX6_refusalOf prog_1_method_39_code 8 (some .int) 5 := ⟨(wsC_at 318 (by decide +kernel) rfl), (wsC_at 320 (by decide +kernel) rfl), (wsC_at 1 (by decide +kernel) rfl), (wsC_at 13 (by decide +kernel) rfl), (wsC_at 321 (by decide +kernel) rfl), by decide +kernel⟩
theorem wd_v_X6_145 : vOk RX6 145 RX6 yX6_unknownFish prog_1_method_37_code 1 (some .int) 0 := ⟨(wsC_at 383 (by decide +kernel) rfl), (wsC_at 385 (by decide +kernel) rfl), (wsC_at 10 (by decide +kernel) rfl), (wsC_at 13 (by decide +kernel) rfl), (wsC_at 386 (by decide +kernel) rfl), by decide +kernel⟩
theorem wd_v_X6_141 : vOk RX6 141 RX6 yX6_refusalWithFish prog_1_method_38_code 6 (some .int) 5 := ⟨(wsC_at 379 (by decide +kernel) rfl), (wsC_at 381 (by decide +kernel) rfl), (wsC_at 9 (by decide +kernel) rfl), (wsC_at 13 (by decide +kernel) rfl), (wsC_at 382 (by decide +kernel) rfl), by decide +kernel⟩
theorem wd_v_X6_153 : vOk RX6 153 RX0 yX0_tollOf prog_2_method_12_code 3 (some .int) 1 := ⟨(wsC_at 391 (by decide +kernel) rfl), (wsC_at 347 (by decide +kernel) rfl), (wsC_at 348 (by decide +kernel) rfl), (wsC_at 17 (by decide +kernel) rfl), (wsC_at 349 (by decide +kernel) rfl), by decide +kernel⟩
theorem wd_ml_X4_32 : Cond.methodLink RX4 32 Lib.Math.max.name ∈ wsC := (wsC_at 433 (by decide +kernel) rfl)
theorem wd_st_max : Cond.static Lib.Math.max.name ∈ wsC := (wsC_at 434 (by decide +kernel) rfl)
theorem wd_co_max : Cond.code Lib.Math.max.name Lib.Math.max.code 2 (some .int) ∈ wsC := (wsC_at 435 (by decide +kernel) rfl)
theorem wd_ml_X4_38 : Cond.methodLink RX4 38 Lib.Math.min.name ∈ wsC := (wsC_at 436 (by decide +kernel) rfl)
theorem wd_s_X4_26 : sOk RX4 26 yJ7_fill_53178 prog_11_method_103_code 4 none 2 := ⟨(wsC_at 432 (by decide +kernel) rfl), (wsC_at 331 (by decide +kernel) rfl), (wsC_at 20 (by decide +kernel) rfl), (wsC_at 332 (by decide +kernel) rfl), by decide +kernel⟩
theorem wd_v_X6_192 : vOk RX6 192 RX4 yX4_begin prog_6_method_2_code 3 none 2 := ⟨(wsC_at 428 (by decide +kernel) rfl), (wsC_at 429 (by decide +kernel) rfl), (wsC_at 430 (by decide +kernel) rfl), (wsC_at 14 (by decide +kernel) rfl), (wsC_at 431 (by decide +kernel) rfl), by decide +kernel⟩
theorem wd_v_X4_45 : vOk RX4 45 RX4 yX4_cut prog_6_method_7_code 2 (some .int) 1 := ⟨(wsC_at 405 (by decide +kernel) rfl), (wsC_at 407 (by decide +kernel) rfl), (wsC_at 11 (by decide +kernel) rfl), (wsC_at 14 (by decide +kernel) rfl), (wsC_at 408 (by decide +kernel) rfl), by decide +kernel⟩
theorem wd_v_X6_204 : vOk RX6 204 RX4 yX4_set prog_6_method_6_code 3 none 2 := ⟨(wsC_at 401 (by decide +kernel) rfl), (wsC_at 402 (by decide +kernel) rfl), (wsC_at 403 (by decide +kernel) rfl), (wsC_at 14 (by decide +kernel) rfl), (wsC_at 404 (by decide +kernel) rfl), by decide +kernel⟩
theorem wd_v_X6_200 : vOk RX6 200 RX4 yX4_holds prog_6_method_3_code 3 (some .boolean) 2 := ⟨(wsC_at 400 (by decide +kernel) rfl), (wsC_at 251 (by decide +kernel) rfl), (wsC_at 252 (by decide +kernel) rfl), (wsC_at 14 (by decide +kernel) rfl), (wsC_at 253 (by decide +kernel) rfl), by decide +kernel⟩
end
section
/-! ===== printed by wip/p31/tr.py out of the listing ===== -/
def f_X6_isWithin (x0 : Int32) (x1 : Int32) (x2 : Int32) (m : Mem) : Option (Int32 × Mem) :=
  if x0 < x1 then
    some ((0 : Int32), m)
  else
    if x2 < x0 then
      some ((0 : Int32), m)
    else
      some ((1 : Int32), m)
theorem g_X6_isWithin {X : XT} (h : MX X prog_1_method_30_code P_X6 0 (some .boolean)) (x0 : Int32) (x1 : Int32) (x2 : Int32) (m : Mem) : Go X (Em X puI) 0 [some (.inl x0), some (.inl x1), some (.inl x2)] [] m (f_X6_isWithin x0 x1 x2 m) := by
  unfold f_X6_isWithin
  refine go_blk h.1 (is := [.iload_n 0, .iload_n 1]) (pc' := 2) (ls' := [some (.inl x0), some (.inl x1), some (.inl x2)]) (st' := [.inl x1, .inl x0]) (m' := m) (by decide +kernel) rfl ?_
  refine go_icmplt h.1 (off := 12) 14 (by decide +kernel) (by decide) (fun c2 => ?_) (fun c2 => ?_)
  · refine go_blk h.1 (is := [.iconst 0]) (pc' := 15) (ls' := [some (.inl x0), some (.inl x1), some (.inl x2)]) (st' := [.inl (0 : Int32)]) (m' := m) (by decide +kernel) rfl ?_
    exact go_zret h.1 h.2.2.2.2 (Or.inl rfl) (by decide +kernel)
  · refine go_blk h.1 (is := [.iload_n 0, .iload_n 2]) (pc' := 7) (ls' := [some (.inl x0), some (.inl x1), some (.inl x2)]) (st' := [.inl x2, .inl x0]) (m' := m) (by decide +kernel) rfl ?_
    refine go_icmpgt h.1 (off := 7) 14 (by decide +kernel) (by decide) (fun c7 => ?_) (fun c7 => ?_)
    · refine go_blk h.1 (is := [.iconst 0]) (pc' := 15) (ls' := [some (.inl x0), some (.inl x1), some (.inl x2)]) (st' := [.inl (0 : Int32)]) (m' := m) (by decide +kernel) rfl ?_
      exact go_zret h.1 h.2.2.2.2 (Or.inl rfl) (by decide +kernel)
    · refine go_blk h.1 (is := [.iconst 1]) (pc' := 11) (ls' := [some (.inl x0), some (.inl x1), some (.inl x2)]) (st' := [.inl (1 : Int32)]) (m' := m) (by decide +kernel) rfl ?_
      refine go_goto h.1 (off := 4) 15 (by decide +kernel) (by decide) ?_
      exact go_zret h.1 h.2.2.2.2 (Or.inr rfl) (by decide +kernel)
theorem ctr_X6_isWithin (Z : ZT) (x0 : Int32) (x1 : Int32) (x2 : Int32) (m : Mem) : Ctr Z yX6_isWithin prog_1_method_30_code 3 (some .boolean) 0 puI [.inl x0, .inl x1, .inl x2] m (f_X6_isWithin x0 x1 x2 m) :=
  ctr_of (P := P_X6) (by decide +kernel) rfl pt_X6 rfl rfl (fun X hC hZ hR h0 h1 hr => by subst hZ; exact g_X6_isWithin ⟨hC, hR, h0, h1, hr⟩ x0 x1 x2 m)

def f_X6_isSheet (x0 : Int32) (m : Mem) : Option (Int32 × Mem) :=
  bnd (f_X6_isWithin x0 (0 : Int32) (3 : Int32) m) (fun r3 m3 =>
    if r3 = 0 ∨ r3 = 1 then some (r3, m3) else none)
theorem g_X6_isSheet {X : XT} (h : MX X prog_1_method_31_code P_X6 1 (some .boolean)) (x0 : Int32) (m : Mem) : Go X (Em X puI) 0 [some (.inl x0)] [] m (f_X6_isSheet x0 m) := by
  unfold f_X6_isSheet
  refine go_blk h.1 (is := [.iload_n 0, .iconst 0, .iconst 3]) (pc' := 3) (ls' := [some (.inl x0)]) (st' := [.inl (3 : Int32), .inl (0 : Int32), .inl x0]) (m' := m) (by decide +kernel) rfl ?_
  refine go_callS h.1 (index := 111) (n := 3) (as := [.inl x0, .inl (0 : Int32), .inl (3 : Int32)]) (rest := []) (ctr_X6_isWithin (xZ X) x0 (0 : Int32) (3 : Int32) m) (by decide +kernel) wd_s_X6_111 rfl (h.room (by first | decide | omega) (by decide)) h.cl (Nat.le_of_ble_eq_true rfl) puI_ok rfl (fun r3 m3 _ => ?_)
  show Go X (Em X puI) 6 [some (.inl x0)] [.inl r3] m3 _
  exact go_zretG h.1 h.2.2.2.2 (by decide +kernel)
theorem ctr_X6_isSheet (Z : ZT) (x0 : Int32) (m : Mem) : Ctr Z yX6_isSheet prog_1_method_31_code 1 (some .boolean) 1 puI [.inl x0] m (f_X6_isSheet x0 m) :=
  ctr_of (P := P_X6) (by decide +kernel) rfl pt_X6 rfl rfl (fun X hC hZ hR h0 h1 hr => by subst hZ; exact g_X6_isSheet ⟨hC, hR, h0, h1, hr⟩ x0 m)

def f_X6_isLane (x0 : Int32) (m : Mem) : Option (Int32 × Mem) :=
  bnd (f_X6_isWithin x0 (0 : Int32) (2 : Int32) m) (fun r3 m3 =>
    if r3 = 0 ∨ r3 = 1 then some (r3, m3) else none)
theorem g_X6_isLane {X : XT} (h : MX X prog_1_method_32_code P_X6 1 (some .boolean)) (x0 : Int32) (m : Mem) : Go X (Em X puI) 0 [some (.inl x0)] [] m (f_X6_isLane x0 m) := by
  unfold f_X6_isLane
  refine go_blk h.1 (is := [.iload_n 0, .iconst 0, .iconst 2]) (pc' := 3) (ls' := [some (.inl x0)]) (st' := [.inl (2 : Int32), .inl (0 : Int32), .inl x0]) (m' := m) (by decide +kernel) rfl ?_
  refine go_callS h.1 (index := 111) (n := 3) (as := [.inl x0, .inl (0 : Int32), .inl (2 : Int32)]) (rest := []) (ctr_X6_isWithin (xZ X) x0 (0 : Int32) (2 : Int32) m) (by decide +kernel) wd_s_X6_111 rfl (h.room (by first | decide | omega) (by decide)) h.cl (Nat.le_of_ble_eq_true rfl) puI_ok rfl (fun r3 m3 _ => ?_)
  show Go X (Em X puI) 6 [some (.inl x0)] [.inl r3] m3 _
  exact go_zretG h.1 h.2.2.2.2 (by decide +kernel)
theorem ctr_X6_isLane (Z : ZT) (x0 : Int32) (m : Mem) : Ctr Z yX6_isLane prog_1_method_32_code 1 (some .boolean) 1 puI [.inl x0] m (f_X6_isLane x0 m) :=
  ctr_of (P := P_X6) (by decide +kernel) rfl pt_X6 rfl rfl (fun X hC hZ hR h0 h1 hr => by subst hZ; exact g_X6_isLane ⟨hC, hR, h0, h1, hr⟩ x0 m)

def f_X4_holds (w : Nat) (x1 : Int32) (x2 : Int32) (m : Mem) : Option (Int32 × Mem) :=
  if x1 < 0 then
    some ((0 : Int32), m)
  else
    if x2 < 0 then
      some ((0 : Int32), m)
    else
      if ((m 2 w 3) - x2) < x1 then
        some ((0 : Int32), m)
      else
        some ((1 : Int32), m)
theorem g_X4_holds {X : XT} (h : MX X prog_6_method_3_code P_X4 0 (some .boolean)) (w : Nat) (x1 : Int32) (x2 : Int32) (m : Mem) : Go X (Em X puI) 0 [some (.inr (.inr (2, w))), some (.inl x1), some (.inl x2)] [] m (f_X4_holds w x1 x2 m) := by
  unfold f_X4_holds
  refine go_blk h.1 (is := [.iload_n 1]) (pc' := 1) (ls' := [some (.inr (.inr (2, w))), some (.inl x1), some (.inl x2)]) (st' := [.inl x1]) (m' := m) (by decide +kernel) rfl ?_
  refine go_iflt h.1 (off := 21) 22 (by decide +kernel) (by decide) (fun c1 => ?_) (fun c1 => ?_)
  · refine go_blk h.1 (is := [.iconst 0]) (pc' := 23) (ls' := [some (.inr (.inr (2, w))), some (.inl x1), some (.inl x2)]) (st' := [.inl (0 : Int32)]) (m' := m) (by decide +kernel) rfl ?_
    exact go_zret h.1 h.2.2.2.2 (Or.inl rfl) (by decide +kernel)
  · refine go_blk h.1 (is := [.iload_n 2]) (pc' := 5) (ls' := [some (.inr (.inr (2, w))), some (.inl x1), some (.inl x2)]) (st' := [.inl x2]) (m' := m) (by decide +kernel) rfl ?_
    refine go_iflt h.1 (off := 17) 22 (by decide +kernel) (by decide) (fun c5 => ?_) (fun c5 => ?_)
    · refine go_blk h.1 (is := [.iconst 0]) (pc' := 23) (ls' := [some (.inr (.inr (2, w))), some (.inl x1), some (.inl x2)]) (st' := [.inl (0 : Int32)]) (m' := m) (by decide +kernel) rfl ?_
      exact go_zret h.1 h.2.2.2.2 (Or.inl rfl) (by decide +kernel)
    · refine go_blk h.1 (is := [.iload_n 1, .aload_n 0, .getfield 23, .iload_n 2, .isub]) (pc' := 15) (ls' := [some (.inr (.inr (2, w))), some (.inl x1), some (.inl x2)]) (st' := [.inl ((m 2 w 3) - x2), .inl x1]) (m' := m) (by decide +kernel) rfl ?_
      refine go_icmpgt h.1 (off := 7) 22 (by decide +kernel) (by decide) (fun c15 => ?_) (fun c15 => ?_)
      · refine go_blk h.1 (is := [.iconst 0]) (pc' := 23) (ls' := [some (.inr (.inr (2, w))), some (.inl x1), some (.inl x2)]) (st' := [.inl (0 : Int32)]) (m' := m) (by decide +kernel) rfl ?_
        exact go_zret h.1 h.2.2.2.2 (Or.inl rfl) (by decide +kernel)
      · refine go_blk h.1 (is := [.iconst 1]) (pc' := 19) (ls' := [some (.inr (.inr (2, w))), some (.inl x1), some (.inl x2)]) (st' := [.inl (1 : Int32)]) (m' := m) (by decide +kernel) rfl ?_
        refine go_goto h.1 (off := 4) 23 (by decide +kernel) (by decide) ?_
        exact go_zret h.1 h.2.2.2.2 (Or.inr rfl) (by decide +kernel)
theorem ctr_X4_holds (Z : ZT) (w : Nat) (x1 : Int32) (x2 : Int32) (m : Mem) : Ctr Z yX4_holds prog_6_method_3_code 3 (some .boolean) 0 puI [.inr (.inr (2, w)), .inl x1, .inl x2] m (f_X4_holds w x1 x2 m) :=
  ctr_of (P := P_X4) (by decide +kernel) rfl pt_X4 rfl rfl (fun X hC hZ hR h0 h1 hr => by subst hZ; exact g_X4_holds ⟨hC, hR, h0, h1, hr⟩ w x1 x2 m)

def f_X4_faultAt (w : Nat) (x1 : Int32) (x2 : Int32) (x3 : Int32) (m : Mem) : Option (Int32 × Mem) :=
  if (m 2 w 1) = 0 then
    some ((1 : Int32), m)
  else
    if (m 2 w 2) = x1 then
      if 0 ≤ x3 then
        bnd (f_X4_holds w x2 x3 m) (fun r28 m28 =>
          if r28 = 0 then
            some ((3 : Int32), m28)
          else
            some ((0 : Int32), m28))
      else
        some ((4 : Int32), m)
    else
      some ((2 : Int32), m)
theorem g_X4_faultAt {X : XT} (h : MX X prog_6_method_4_code P_X4 1 (some .int)) (w : Nat) (x1 : Int32) (x2 : Int32) (x3 : Int32) (m : Mem) : Go X (Em X puI) 0 [some (.inr (.inr (2, w))), some (.inl x1), some (.inl x2), some (.inl x3)] [] m (f_X4_faultAt w x1 x2 x3 m) := by
  unfold f_X4_faultAt
  refine go_blk h.1 (is := [.aload_n 0, .getfield 15]) (pc' := 4) (ls' := [some (.inr (.inr (2, w))), some (.inl x1), some (.inl x2), some (.inl x3)]) (st' := [.inl (m 2 w 1)]) (m' := m) (by decide +kernel) rfl ?_
  refine go_ifne h.1 (off := 5) 9 (by decide +kernel) (by decide) (fun c4 => ?_) (fun c4 => ?_)
  · refine go_blk h.1 (is := [.aload_n 0, .getfield 19, .iload_n 1]) (pc' := 14) (ls' := [some (.inr (.inr (2, w))), some (.inl x1), some (.inl x2), some (.inl x3)]) (st' := [.inl x1, .inl (m 2 w 2)]) (m' := m) (by decide +kernel) rfl ?_
    refine go_icmpeq h.1 (off := 5) 19 (by decide +kernel) (by decide) (fun c14 => ?_) (fun c14 => ?_)
    · refine go_blk h.1 (is := [.iload_n 3]) (pc' := 20) (ls' := [some (.inr (.inr (2, w))), some (.inl x1), some (.inl x2), some (.inl x3)]) (st' := [.inl x3]) (m' := m) (by decide +kernel) rfl ?_
      refine go_ifge h.1 (off := 5) 25 (by decide +kernel) (by decide) (fun c20 => ?_) (fun c20 => ?_)
      · refine go_blk h.1 (is := [.aload_n 0, .iload_n 2, .iload_n 3]) (pc' := 28) (ls' := [some (.inr (.inr (2, w))), some (.inl x1), some (.inl x2), some (.inl x3)]) (st' := [.inl x3, .inl x2, .inr (.inr (2, w))]) (m' := m) (by decide +kernel) rfl ?_
        refine go_callV h.1 (index := 41) (n := 2) (t := 2) (i := w) (ci := 4) (nf := 4) (cz := (RX4, TX4, 4)) (as := [.inl x2, .inl x3]) (rest := []) (ctr_X4_holds (xZ X) w x2 x3 m) (by decide +kernel) rfl rfl wd_v_X4_41 rfl (h.room (by first | decide | omega) (by decide)) h.cl (Nat.le_of_ble_eq_true rfl) puI_ok rfl (fun r28 m28 _ => ?_)
        show Go X (Em X puI) 31 [some (.inr (.inr (2, w))), some (.inl x1), some (.inl x2), some (.inl x3)] [.inl r28] m28 _
        refine go_ifeq h.1 (off := 7) 38 (by decide +kernel) (by decide) (fun c31 => ?_) (fun c31 => ?_)
        · refine go_blk h.1 (is := [.iconst 3]) (pc' := 39) (ls' := [some (.inr (.inr (2, w))), some (.inl x1), some (.inl x2), some (.inl x3)]) (st' := [.inl (3 : Int32)]) (m' := m28) (by decide +kernel) rfl ?_
          exact go_iret h.1 h.2.2.2.2 (by decide +kernel)
        · refine go_blk h.1 (is := [.iconst 0]) (pc' := 35) (ls' := [some (.inr (.inr (2, w))), some (.inl x1), some (.inl x2), some (.inl x3)]) (st' := [.inl (0 : Int32)]) (m' := m28) (by decide +kernel) rfl ?_
          refine go_goto h.1 (off := 4) 39 (by decide +kernel) (by decide) ?_
          exact go_iret h.1 h.2.2.2.2 (by decide +kernel)
      · refine go_blk h.1 (is := [.iconst 4]) (pc' := 24) (ls' := [some (.inr (.inr (2, w))), some (.inl x1), some (.inl x2), some (.inl x3)]) (st' := [.inl (4 : Int32)]) (m' := m) (by decide +kernel) rfl ?_
        exact go_iret h.1 h.2.2.2.2 (by decide +kernel)
    · refine go_blk h.1 (is := [.iconst 2]) (pc' := 18) (ls' := [some (.inr (.inr (2, w))), some (.inl x1), some (.inl x2), some (.inl x3)]) (st' := [.inl (2 : Int32)]) (m' := m) (by decide +kernel) rfl ?_
      exact go_iret h.1 h.2.2.2.2 (by decide +kernel)
  · refine go_blk h.1 (is := [.iconst 1]) (pc' := 8) (ls' := [some (.inr (.inr (2, w))), some (.inl x1), some (.inl x2), some (.inl x3)]) (st' := [.inl (1 : Int32)]) (m' := m) (by decide +kernel) rfl ?_
    exact go_iret h.1 h.2.2.2.2 (by decide +kernel)
theorem ctr_X4_faultAt (Z : ZT) (w : Nat) (x1 : Int32) (x2 : Int32) (x3 : Int32) (m : Mem) : Ctr Z yX4_faultAt prog_6_method_4_code 4 (some .int) 1 puI [.inr (.inr (2, w)), .inl x1, .inl x2, .inl x3] m (f_X4_faultAt w x1 x2 x3 m) :=
  ctr_of (P := P_X4) (by decide +kernel) rfl pt_X4 rfl rfl (fun X hC hZ hR h0 h1 hr => by subst hZ; exact g_X4_faultAt ⟨hC, hR, h0, h1, hr⟩ w x1 x2 x3 m)

def f_X4_at (w : Nat) (x1 : Int32) (m : Mem) : Option (Int32 × Mem) :=
  bnd (f_X4_holds w x1 (1 : Int32) m) (fun r3 m3 =>
    if r3 = 0 then
      some ((0 : Int32), m3)
    else
      if inB x1 60 = true then
        some ((m3 3 w (ix x1)), m3)
      else none)
theorem g_X4_at {X : XT} (h : MX X prog_6_method_5_code P_X4 1 (some .int)) (w : Nat) (x1 : Int32) (m : Mem) : Go X (Em X puI) 0 [some (.inr (.inr (2, w))), some (.inl x1)] [] m (f_X4_at w x1 m) := by
  unfold f_X4_at
  refine go_blk h.1 (is := [.aload_n 0, .iload_n 1, .iconst 1]) (pc' := 3) (ls' := [some (.inr (.inr (2, w))), some (.inl x1)]) (st' := [.inl (1 : Int32), .inl x1, .inr (.inr (2, w))]) (m' := m) (by decide +kernel) rfl ?_
  refine go_callV h.1 (index := 41) (n := 2) (t := 2) (i := w) (ci := 4) (nf := 4) (cz := (RX4, TX4, 4)) (as := [.inl x1, .inl (1 : Int32)]) (rest := []) (ctr_X4_holds (xZ X) w x1 (1 : Int32) m) (by decide +kernel) rfl rfl wd_v_X4_41 rfl (h.room (by first | decide | omega) (by decide)) h.cl (Nat.le_of_ble_eq_true rfl) puI_ok rfl (fun r3 m3 _ => ?_)
  show Go X (Em X puI) 6 [some (.inr (.inr (2, w))), some (.inl x1)] [.inl r3] m3 _
  refine go_ifeq h.1 (off := 12) 18 (by decide +kernel) (by decide) (fun c6 => ?_) (fun c6 => ?_)
  · refine go_blk h.1 (is := [.iconst 0]) (pc' := 19) (ls' := [some (.inr (.inr (2, w))), some (.inl x1)]) (st' := [.inl (0 : Int32)]) (m' := m3) (by decide +kernel) rfl ?_
    exact go_iret h.1 h.2.2.2.2 (by decide +kernel)
  · refine go_blk h.1 (is := [.aload_n 0, .getfield 9, .iload_n 1]) (pc' := 14) (ls' := [some (.inr (.inr (2, w))), some (.inl x1)]) (st' := [.inl x1, .inr (.inr (3, w))]) (m' := m3) (by decide +kernel) rfl ?_
    refine go_iald h.1 (by decide +kernel) rfl rfl (fun b14 => ?_)
    show Go X (Em X puI) 15 [some (.inr (.inr (2, w))), some (.inl x1)] [.inl (m3 3 w (ix x1))] m3 _
    refine go_goto h.1 (off := 4) 19 (by decide +kernel) (by decide) ?_
    exact go_iret h.1 h.2.2.2.2 (by decide +kernel)
theorem ctr_X4_at (Z : ZT) (w : Nat) (x1 : Int32) (m : Mem) : Ctr Z yX4_at prog_6_method_5_code 2 (some .int) 1 puI [.inr (.inr (2, w)), .inl x1] m (f_X4_at w x1 m) :=
  ctr_of (P := P_X4) (by decide +kernel) rfl pt_X4 rfl rfl (fun X hC hZ hR h0 h1 hr => by subst hZ; exact g_X4_at ⟨hC, hR, h0, h1, hr⟩ w x1 m)

def f_X6_isDigit (x0 : Int32) (x1 : Int32) (x2 : Int32) (m : Mem) : Option (Int32 × Mem) :=
  bnd (f_X6_isWithin x0 ((48 : Int32) + x1) ((48 : Int32) + x2) m) (fun r9 m9 =>
    if r9 = 0 ∨ r9 = 1 then some (r9, m9) else none)
theorem g_X6_isDigit {X : XT} (h : MX X prog_1_method_48_code P_X6 1 (some .boolean)) (x0 : Int32) (x1 : Int32) (x2 : Int32) (m : Mem) : Go X (Em X puI) 0 [some (.inl x0), some (.inl x1), some (.inl x2)] [] m (f_X6_isDigit x0 x1 x2 m) := by
  unfold f_X6_isDigit
  refine go_blk h.1 (is := [.iload_n 0, .bipush 48, .iload_n 1, .iadd, .bipush 48, .iload_n 2, .iadd]) (pc' := 9) (ls' := [some (.inl x0), some (.inl x1), some (.inl x2)]) (st' := [.inl ((48 : Int32) + x2), .inl ((48 : Int32) + x1), .inl x0]) (m' := m) (by decide +kernel) rfl ?_
  refine go_callS h.1 (index := 111) (n := 3) (as := [.inl x0, .inl ((48 : Int32) + x1), .inl ((48 : Int32) + x2)]) (rest := []) (ctr_X6_isWithin (xZ X) x0 ((48 : Int32) + x1) ((48 : Int32) + x2) m) (by decide +kernel) wd_s_X6_111 rfl (h.room (by first | decide | omega) (by decide)) h.cl (Nat.le_of_ble_eq_true rfl) puI_ok rfl (fun r9 m9 _ => ?_)
  show Go X (Em X puI) 12 [some (.inl x0), some (.inl x1), some (.inl x2)] [.inl r9] m9 _
  exact go_zretG h.1 h.2.2.2.2 (by decide +kernel)
theorem ctr_X6_isDigit (Z : ZT) (x0 : Int32) (x1 : Int32) (x2 : Int32) (m : Mem) : Ctr Z yX6_isDigit prog_1_method_48_code 3 (some .boolean) 1 puI [.inl x0, .inl x1, .inl x2] m (f_X6_isDigit x0 x1 x2 m) :=
  ctr_of (P := P_X6) (by decide +kernel) rfl pt_X6 rfl rfl (fun X hC hZ hR h0 h1 hr => by subst hZ; exact g_X6_isDigit ⟨hC, hR, h0, h1, hr⟩ x0 x1 x2 m)

def f_X6_goesOn (x0 : Int32) (x1 : Int32) (m : Mem) : Option (Int32 × Mem) :=
  if (2 : Int32) ≤ x0 then
    if x0 < (32 : Int32) then
      if ¬ (6 : Int32) = 0 then dv ((x0 - (2 : Int32)) - (x0 - (2 : Int32)) / (6 : Int32) * (6 : Int32)) (fun q44 =>
        if q44 = (0 : Int32) then
          if x1 = (59 : Int32) then
            some ((1 : Int32), m)
          else
            some ((0 : Int32), m)
        else
          if q44 = (1 : Int32) then
            if x1 = (102 : Int32) then
              some ((1 : Int32), m)
            else
              if x1 = (101 : Int32) then
                some ((1 : Int32), m)
              else
                if x1 = (112 : Int32) then
                  some ((1 : Int32), m)
                else
                  some ((0 : Int32), m)
          else
            if q44 = (2 : Int32) then
              bnd (f_X6_isDigit x1 (1 : Int32) (9 : Int32) m) (fun r120 m120 =>
                if r120 = 0 ∨ r120 = 1 then some (r120, m120) else none)
            else
              if q44 = (3 : Int32) then
                bnd (f_X6_isDigit x1 (0 : Int32) (9 : Int32) m) (fun r128 m128 =>
                  if r128 = 0 ∨ r128 = 1 then some (r128, m128) else none)
              else
                if q44 = (4 : Int32) then
                  bnd (f_X6_isDigit x1 (0 : Int32) (6 : Int32) m) (fun r136 m136 =>
                    if r136 = 0 ∨ r136 = 1 then some (r136, m136) else none)
                else
                  bnd (f_X6_isDigit x1 (0 : Int32) (5 : Int32) m) (fun r143 m143 =>
                    if r143 = 0 ∨ r143 = 1 then some (r143, m143) else none))
      else none
    else
      some ((0 : Int32), m)
  else
    if x0 = 0 then
      if x1 = (104 : Int32) then
        some ((1 : Int32), m)
      else
        some ((0 : Int32), m)
    else
      bnd (f_X6_isDigit x1 (0 : Int32) (9 : Int32) m) (fun r27 m27 =>
        if r27 = 0 ∨ r27 = 1 then some (r27, m27) else none)
theorem g_X6_goesOn {X : XT} (h : MX X prog_1_method_47_code P_X6 2 (some .boolean)) (x0 : Int32) (x1 : Int32) (m : Mem) : Go X (Em X puI) 0 [some (.inl x0), some (.inl x1)] [] m (f_X6_goesOn x0 x1 m) := by
  unfold f_X6_goesOn
  refine go_blk h.1 (is := [.iload_n 0, .iconst 2]) (pc' := 2) (ls' := [some (.inl x0), some (.inl x1)]) (st' := [.inl (2 : Int32), .inl x0]) (m' := m) (by decide +kernel) rfl ?_
  refine go_icmpge h.1 (off := 29) 31 (by decide +kernel) (by decide) (fun c2 => ?_) (fun c2 => ?_)
  · refine go_blk h.1 (is := [.iload_n 0, .bipush 32]) (pc' := 34) (ls' := [some (.inl x0), some (.inl x1)]) (st' := [.inl (32 : Int32), .inl x0]) (m' := m) (by decide +kernel) rfl ?_
    refine go_icmplt h.1 (off := 5) 39 (by decide +kernel) (by decide) (fun c34 => ?_) (fun c34 => ?_)
    · refine go_blk h.1 (is := [.iload_n 0, .iconst 2, .isub, .bipush 6]) (pc' := 44) (ls' := [some (.inl x0), some (.inl x1)]) (st' := [.inl (6 : Int32), .inl (x0 - (2 : Int32))]) (m' := m) (by decide +kernel) rfl ?_
      refine go_irem h.1 (by decide +kernel) (fun z44 q44 _ => ?_)
      refine go_ite (fun w45_0 => ?_) (fun w45_0 => ?_)
      · refine go_tsIn h.1 (dflt := 95) (lo := 0) (hi := 4) (offs := #[35, 47, 71, 79, 87]) (len := 35) (off := 35) (0 : Int32) 80 w45_0 (by decide +kernel) (by decide) rfl (by decide) ?_
        refine go_blk h.1 (is := [.iload_n 1, .bipush 59]) (pc' := 83) (ls' := [some (.inl x0), some (.inl x1)]) (st' := [.inl (59 : Int32), .inl x1]) (m' := m) (by decide +kernel) rfl ?_
        refine go_icmpne h.1 (off := 7) 90 (by decide +kernel) (by decide) (fun c83 => ?_) (fun c83 => ?_)
        · refine go_blk h.1 (is := [.iconst 0]) (pc' := 91) (ls' := [some (.inl x0), some (.inl x1)]) (st' := [.inl (0 : Int32)]) (m' := m) (by decide +kernel) rfl ?_
          exact go_zret h.1 h.2.2.2.2 (Or.inl rfl) (by decide +kernel)
        · refine go_blk h.1 (is := [.iconst 1]) (pc' := 87) (ls' := [some (.inl x0), some (.inl x1)]) (st' := [.inl (1 : Int32)]) (m' := m) (by decide +kernel) rfl ?_
          refine go_goto h.1 (off := 4) 91 (by decide +kernel) (by decide) ?_
          exact go_zret h.1 h.2.2.2.2 (Or.inr rfl) (by decide +kernel)
      · refine go_ite (fun w45_1 => ?_) (fun w45_1 => ?_)
        · refine go_tsIn h.1 (dflt := 95) (lo := 0) (hi := 4) (offs := #[35, 47, 71, 79, 87]) (len := 35) (off := 47) (1 : Int32) 92 w45_1 (by decide +kernel) (by decide) rfl (by decide) ?_
          refine go_blk h.1 (is := [.iload_n 1, .bipush 102]) (pc' := 95) (ls' := [some (.inl x0), some (.inl x1)]) (st' := [.inl (102 : Int32), .inl x1]) (m' := m) (by decide +kernel) rfl ?_
          refine go_icmpeq h.1 (off := 15) 110 (by decide +kernel) (by decide) (fun c95 => ?_) (fun c95 => ?_)
          · refine go_blk h.1 (is := [.iconst 1]) (pc' := 111) (ls' := [some (.inl x0), some (.inl x1)]) (st' := [.inl (1 : Int32)]) (m' := m) (by decide +kernel) rfl ?_
            refine go_goto h.1 (off := 4) 115 (by decide +kernel) (by decide) ?_
            exact go_zret h.1 h.2.2.2.2 (Or.inr rfl) (by decide +kernel)
          · refine go_blk h.1 (is := [.iload_n 1, .bipush 101]) (pc' := 101) (ls' := [some (.inl x0), some (.inl x1)]) (st' := [.inl (101 : Int32), .inl x1]) (m' := m) (by decide +kernel) rfl ?_
            refine go_icmpeq h.1 (off := 9) 110 (by decide +kernel) (by decide) (fun c101 => ?_) (fun c101 => ?_)
            · refine go_blk h.1 (is := [.iconst 1]) (pc' := 111) (ls' := [some (.inl x0), some (.inl x1)]) (st' := [.inl (1 : Int32)]) (m' := m) (by decide +kernel) rfl ?_
              refine go_goto h.1 (off := 4) 115 (by decide +kernel) (by decide) ?_
              exact go_zret h.1 h.2.2.2.2 (Or.inr rfl) (by decide +kernel)
            · refine go_blk h.1 (is := [.iload_n 1, .bipush 112]) (pc' := 107) (ls' := [some (.inl x0), some (.inl x1)]) (st' := [.inl (112 : Int32), .inl x1]) (m' := m) (by decide +kernel) rfl ?_
              refine go_icmpne h.1 (off := 7) 114 (by decide +kernel) (by decide) (fun c107 => ?_) (fun c107 => ?_)
              · refine go_blk h.1 (is := [.iconst 0]) (pc' := 115) (ls' := [some (.inl x0), some (.inl x1)]) (st' := [.inl (0 : Int32)]) (m' := m) (by decide +kernel) rfl ?_
                exact go_zret h.1 h.2.2.2.2 (Or.inl rfl) (by decide +kernel)
              · refine go_blk h.1 (is := [.iconst 1]) (pc' := 111) (ls' := [some (.inl x0), some (.inl x1)]) (st' := [.inl (1 : Int32)]) (m' := m) (by decide +kernel) rfl ?_
                refine go_goto h.1 (off := 4) 115 (by decide +kernel) (by decide) ?_
                exact go_zret h.1 h.2.2.2.2 (Or.inr rfl) (by decide +kernel)
        · refine go_ite (fun w45_2 => ?_) (fun w45_2 => ?_)
          · refine go_tsIn h.1 (dflt := 95) (lo := 0) (hi := 4) (offs := #[35, 47, 71, 79, 87]) (len := 35) (off := 71) (2 : Int32) 116 w45_2 (by decide +kernel) (by decide) rfl (by decide) ?_
            refine go_blk h.1 (is := [.iload_n 1, .iconst 1, .bipush 9]) (pc' := 120) (ls' := [some (.inl x0), some (.inl x1)]) (st' := [.inl (9 : Int32), .inl (1 : Int32), .inl x1]) (m' := m) (by decide +kernel) rfl ?_
            refine go_callS h.1 (index := 243) (n := 3) (as := [.inl x1, .inl (1 : Int32), .inl (9 : Int32)]) (rest := []) (ctr_X6_isDigit (xZ X) x1 (1 : Int32) (9 : Int32) m) (by decide +kernel) wd_s_X6_243 rfl (h.room (by first | decide | omega) (by decide)) h.cl (Nat.le_of_ble_eq_true rfl) puI_ok rfl (fun r120 m120 _ => ?_)
            show Go X (Em X puI) 123 [some (.inl x0), some (.inl x1)] [.inl r120] m120 _
            exact go_zretG h.1 h.2.2.2.2 (by decide +kernel)
          · refine go_ite (fun w45_3 => ?_) (fun w45_3 => ?_)
            · refine go_tsIn h.1 (dflt := 95) (lo := 0) (hi := 4) (offs := #[35, 47, 71, 79, 87]) (len := 35) (off := 79) (3 : Int32) 124 w45_3 (by decide +kernel) (by decide) rfl (by decide) ?_
              refine go_blk h.1 (is := [.iload_n 1, .iconst 0, .bipush 9]) (pc' := 128) (ls' := [some (.inl x0), some (.inl x1)]) (st' := [.inl (9 : Int32), .inl (0 : Int32), .inl x1]) (m' := m) (by decide +kernel) rfl ?_
              refine go_callS h.1 (index := 243) (n := 3) (as := [.inl x1, .inl (0 : Int32), .inl (9 : Int32)]) (rest := []) (ctr_X6_isDigit (xZ X) x1 (0 : Int32) (9 : Int32) m) (by decide +kernel) wd_s_X6_243 rfl (h.room (by first | decide | omega) (by decide)) h.cl (Nat.le_of_ble_eq_true rfl) puI_ok rfl (fun r128 m128 _ => ?_)
              show Go X (Em X puI) 131 [some (.inl x0), some (.inl x1)] [.inl r128] m128 _
              exact go_zretG h.1 h.2.2.2.2 (by decide +kernel)
            · refine go_ite (fun w45_4 => ?_) (fun w45_4 => ?_)
              · refine go_tsIn h.1 (dflt := 95) (lo := 0) (hi := 4) (offs := #[35, 47, 71, 79, 87]) (len := 35) (off := 87) (4 : Int32) 132 w45_4 (by decide +kernel) (by decide) rfl (by decide) ?_
                refine go_blk h.1 (is := [.iload_n 1, .iconst 0, .bipush 6]) (pc' := 136) (ls' := [some (.inl x0), some (.inl x1)]) (st' := [.inl (6 : Int32), .inl (0 : Int32), .inl x1]) (m' := m) (by decide +kernel) rfl ?_
                refine go_callS h.1 (index := 243) (n := 3) (as := [.inl x1, .inl (0 : Int32), .inl (6 : Int32)]) (rest := []) (ctr_X6_isDigit (xZ X) x1 (0 : Int32) (6 : Int32) m) (by decide +kernel) wd_s_X6_243 rfl (h.room (by first | decide | omega) (by decide)) h.cl (Nat.le_of_ble_eq_true rfl) puI_ok rfl (fun r136 m136 _ => ?_)
                show Go X (Em X puI) 139 [some (.inl x0), some (.inl x1)] [.inl r136] m136 _
                exact go_zretG h.1 h.2.2.2.2 (by decide +kernel)
              · refine go_tsOut h.1 (dflt := 95) (lo := 0) (hi := 4) (offs := #[35, 47, 71, 79, 87]) (len := 35) 140 (by decide +kernel) (sw_out (n := 5) (by decide) ((lt_s (lt_s (lt_s (lt_s (lt_s lt_0 w45_0) w45_1) w45_2) w45_3) w45_4) : ∀ j : Nat, j < 5 → ¬ q44 = Int32.ofInt (0 + (j : Int)))) (by decide) ?_
                refine go_blk h.1 (is := [.iload_n 1, .iconst 0, .iconst 5]) (pc' := 143) (ls' := [some (.inl x0), some (.inl x1)]) (st' := [.inl (5 : Int32), .inl (0 : Int32), .inl x1]) (m' := m) (by decide +kernel) rfl ?_
                refine go_callS h.1 (index := 243) (n := 3) (as := [.inl x1, .inl (0 : Int32), .inl (5 : Int32)]) (rest := []) (ctr_X6_isDigit (xZ X) x1 (0 : Int32) (5 : Int32) m) (by decide +kernel) wd_s_X6_243 rfl (h.room (by first | decide | omega) (by decide)) h.cl (Nat.le_of_ble_eq_true rfl) puI_ok rfl (fun r143 m143 _ => ?_)
                show Go X (Em X puI) 146 [some (.inl x0), some (.inl x1)] [.inl r143] m143 _
                exact go_zretG h.1 h.2.2.2.2 (by decide +kernel)
    · refine go_blk h.1 (is := [.iconst 0]) (pc' := 38) (ls' := [some (.inl x0), some (.inl x1)]) (st' := [.inl (0 : Int32)]) (m' := m) (by decide +kernel) rfl ?_
      exact go_zret h.1 h.2.2.2.2 (Or.inl rfl) (by decide +kernel)
  · refine go_blk h.1 (is := [.iload_n 0]) (pc' := 6) (ls' := [some (.inl x0), some (.inl x1)]) (st' := [.inl x0]) (m' := m) (by decide +kernel) rfl ?_
    refine go_ifne h.1 (off := 17) 23 (by decide +kernel) (by decide) (fun c6 => ?_) (fun c6 => ?_)
    · refine go_blk h.1 (is := [.iload_n 1, .iconst 0, .bipush 9]) (pc' := 27) (ls' := [some (.inl x0), some (.inl x1)]) (st' := [.inl (9 : Int32), .inl (0 : Int32), .inl x1]) (m' := m) (by decide +kernel) rfl ?_
      refine go_callS h.1 (index := 243) (n := 3) (as := [.inl x1, .inl (0 : Int32), .inl (9 : Int32)]) (rest := []) (ctr_X6_isDigit (xZ X) x1 (0 : Int32) (9 : Int32) m) (by decide +kernel) wd_s_X6_243 rfl (h.room (by first | decide | omega) (by decide)) h.cl (Nat.le_of_ble_eq_true rfl) puI_ok rfl (fun r27 m27 _ => ?_)
      show Go X (Em X puI) 30 [some (.inl x0), some (.inl x1)] [.inl r27] m27 _
      exact go_zretG h.1 h.2.2.2.2 (by decide +kernel)
    · refine go_blk h.1 (is := [.iload_n 1, .bipush 104]) (pc' := 12) (ls' := [some (.inl x0), some (.inl x1)]) (st' := [.inl (104 : Int32), .inl x1]) (m' := m) (by decide +kernel) rfl ?_
      refine go_icmpne h.1 (off := 7) 19 (by decide +kernel) (by decide) (fun c12 => ?_) (fun c12 => ?_)
      · refine go_blk h.1 (is := [.iconst 0]) (pc' := 20) (ls' := [some (.inl x0), some (.inl x1)]) (st' := [.inl (0 : Int32)]) (m' := m) (by decide +kernel) rfl ?_
        refine go_goto h.1 (off := 10) 30 (by decide +kernel) (by decide) ?_
        exact go_zret h.1 h.2.2.2.2 (Or.inl rfl) (by decide +kernel)
      · refine go_blk h.1 (is := [.iconst 1]) (pc' := 16) (ls' := [some (.inl x0), some (.inl x1)]) (st' := [.inl (1 : Int32)]) (m' := m) (by decide +kernel) rfl ?_
        refine go_goto h.1 (off := 14) 30 (by decide +kernel) (by decide) ?_
        exact go_zret h.1 h.2.2.2.2 (Or.inr rfl) (by decide +kernel)
theorem ctr_X6_goesOn (Z : ZT) (x0 : Int32) (x1 : Int32) (m : Mem) : Ctr Z yX6_goesOn prog_1_method_47_code 2 (some .boolean) 2 puI [.inl x0, .inl x1] m (f_X6_goesOn x0 x1 m) :=
  ctr_of (P := P_X6) (by decide +kernel) rfl pt_X6 rfl rfl (fun X hC hZ hR h0 h1 hr => by subst hZ; exact g_X6_goesOn ⟨hC, hR, h0, h1, hr⟩ x0 x1 m)

def f_X6_firstFault_b2 (w : Nat) (x1 : Int32) (x2 : Int32) (next : Int32 × Mem → Option (Int32 × Mem)) (exit : Mem → Option (Int32 × Mem)) (s : Int32 × Mem) : Option (Int32 × Mem) :=
  if x2 ≤ s.1 then
    exit (s.2)
  else
    bnd (f_X4_at w (x1 + s.1) s.2) (fun r12 m12 =>
      bnd (f_X6_goesOn s.1 r12 m12) (fun r15 m15 =>
        if r15 = 0 then
          some (s.1, m15)
        else
          next ((s.1 + (1 : Int32)), m15)))
theorem g_X6_firstFault_b2 {X : XT} (h : MX X prog_1_method_46_code P_X6 3 (some .int)) (w : Nat) (x1 : Int32) (x2 : Int32) (next : Int32 × Mem → Option (Int32 × Mem)) (exit : Mem → Option (Int32 × Mem)) (hn : ∀ (y3 : Int32) (n : Mem), Go X (Em X puI) 2 [some (.inr (.inr (2, w))), some (.inl x1), some (.inl x2), some (.inl y3)] [] n (next (y3, n))) (hx : ∀ (n : Mem) (o0 : Option AV) (o1 : Option AV) (o3 : Option AV), Go X (Em X puI) 29 [o0, o1, some (.inl x2), o3] [] n (exit (n))) (s : Int32 × Mem) : Go X (Em X puI) 2 [some (.inr (.inr (2, w))), some (.inl x1), some (.inl x2), some (.inl s.1)] [] s.2 (f_X6_firstFault_b2 w x1 x2 next exit s) := by
  unfold f_X6_firstFault_b2
  refine go_blk h.1 (is := [.iload_n 3, .iload_n 2]) (pc' := 4) (ls' := [some (.inr (.inr (2, w))), some (.inl x1), some (.inl x2), some (.inl s.1)]) (st' := [.inl x2, .inl s.1]) (m' := s.2) (by decide +kernel) rfl ?_
  refine go_icmpge h.1 (off := 25) 29 (by decide +kernel) (by decide) (fun c4 => ?_) (fun c4 => ?_)
  · exact hx s.2 (some (.inr (.inr (2, w)))) (some (.inl x1)) (some (.inl s.1))
  · refine go_blk h.1 (is := [.iload_n 3, .aload_n 0, .iload_n 1, .iload_n 3, .iadd]) (pc' := 12) (ls' := [some (.inr (.inr (2, w))), some (.inl x1), some (.inl x2), some (.inl s.1)]) (st' := [.inl (x1 + s.1), .inr (.inr (2, w)), .inl s.1]) (m' := s.2) (by decide +kernel) rfl ?_
    refine go_callV h.1 (index := 207) (n := 1) (t := 2) (i := w) (ci := 4) (nf := 4) (cz := (RX4, TX4, 4)) (as := [.inl (x1 + s.1)]) (rest := [.inl s.1]) (ctr_X4_at (xZ X) w (x1 + s.1) s.2) (by decide +kernel) rfl rfl wd_v_X6_207 rfl (h.room (by first | decide | omega) (by decide)) h.cl (Nat.le_of_ble_eq_true rfl) puI_ok rfl (fun r12 m12 _ => ?_)
    show Go X (Em X puI) 15 [some (.inr (.inr (2, w))), some (.inl x1), some (.inl x2), some (.inl s.1)] [.inl r12, .inl s.1] m12 _
    refine go_callS h.1 (index := 240) (n := 2) (as := [.inl s.1, .inl r12]) (rest := []) (ctr_X6_goesOn (xZ X) s.1 r12 m12) (by decide +kernel) wd_s_X6_240 rfl (h.room (by first | decide | omega) (by decide)) h.cl (Nat.le_of_ble_eq_true rfl) puI_ok rfl (fun r15 m15 _ => ?_)
    show Go X (Em X puI) 18 [some (.inr (.inr (2, w))), some (.inl x1), some (.inl x2), some (.inl s.1)] [.inl r15] m15 _
    refine go_ifne h.1 (off := 5) 23 (by decide +kernel) (by decide) (fun c18 => ?_) (fun c18 => ?_)
    · refine go_blk h.1 (is := [.iinc 3 1]) (pc' := 26) (ls' := [some (.inr (.inr (2, w))), some (.inl x1), some (.inl x2), some (.inl (s.1 + (1 : Int32)))]) (st' := []) (m' := m15) (by decide +kernel) rfl ?_
      refine go_goto h.1 (off := -24) 2 (by decide +kernel) (by decide) ?_
      exact hn (s.1 + (1 : Int32)) m15
    · refine go_blk h.1 (is := [.iload_n 3]) (pc' := 22) (ls' := [some (.inr (.inr (2, w))), some (.inl x1), some (.inl x2), some (.inl s.1)]) (st' := [.inl s.1]) (m' := m15) (by decide +kernel) rfl ?_
      exact go_iret h.1 h.2.2.2.2 (by decide +kernel)

def f_X6_firstFault_j49 (w : Nat) (s0 : Int32) (x2 : Int32) (m : Mem) : Option (Int32 × Mem) :=
  if s0 = 0 then
    some (x2, m)
  else
    some ((-9 : Int32), m)
theorem g_X6_firstFault_j49 {X : XT} (h : MX X prog_1_method_46_code P_X6 3 (some .int)) (w : Nat) (s0 : Int32) (x2 : Int32) (m : Mem) (o0 : Option AV) (o1 : Option AV) (o3 : Option AV) : Go X (Em X puI) 49 [o0, o1, some (.inl x2), o3] [.inl s0] m (f_X6_firstFault_j49 w s0 x2 m) := by
  unfold f_X6_firstFault_j49
  refine go_blk h.1 (is := [.istore_n 3, .iload_n 3]) (pc' := 51) (ls' := [o0, o1, some (.inl x2), some (.inl s0)]) (st' := [.inl s0]) (m' := m) (by decide +kernel) rfl ?_
  refine go_ifeq h.1 (off := 8) 59 (by decide +kernel) (by decide) (fun c51 => ?_) (fun c51 => ?_)
  · refine go_blk h.1 (is := [.iload_n 2]) (pc' := 60) (ls' := [o0, o1, some (.inl x2), some (.inl s0)]) (st' := [.inl x2]) (m' := m) (by decide +kernel) rfl ?_
    exact go_iret h.1 h.2.2.2.2 (by decide +kernel)
  · refine go_blk h.1 (is := [.bipush (-9)]) (pc' := 56) (ls' := [o0, o1, some (.inl x2), some (.inl s0)]) (st' := [.inl (-9 : Int32)]) (m' := m) (by decide +kernel) rfl ?_
    refine go_goto h.1 (off := 4) 60 (by decide +kernel) (by decide) ?_
    exact go_iret h.1 h.2.2.2.2 (by decide +kernel)

def f_X6_firstFault_j48 (w : Nat) (x2 : Int32) (m : Mem) : Option (Int32 × Mem) :=
  f_X6_firstFault_j49 w (0 : Int32) x2 m
theorem g_X6_firstFault_j48 {X : XT} (h : MX X prog_1_method_46_code P_X6 3 (some .int)) (w : Nat) (x2 : Int32) (m : Mem) (o0 : Option AV) (o1 : Option AV) (o3 : Option AV) : Go X (Em X puI) 48 [o0, o1, some (.inl x2), o3] [] m (f_X6_firstFault_j48 w x2 m) := by
  unfold f_X6_firstFault_j48
  refine go_blk h.1 (is := [.iconst 0]) (pc' := 49) (ls' := [o0, o1, some (.inl x2), o3]) (st' := [.inl (0 : Int32)]) (m' := m) (by decide +kernel) rfl ?_
  exact g_X6_firstFault_j49 h w (0 : Int32) x2 m (o0) (o1) (o3)

def f_X6_firstFault (w : Nat) (x1 : Int32) (x2 : Int32) (m : Mem) : Option (Int32 × Mem) :=
  lpk (f_X6_firstFault_b2 w x1 x2) fuelN ((0 : Int32), m) (fun t2 =>
    if x2 < (8 : Int32) then
      f_X6_firstFault_j48 w x2 t2
    else
      if ¬ (6 : Int32) = 0 then dv ((x2 - (2 : Int32)) - (x2 - (2 : Int32)) / (6 : Int32) * (6 : Int32)) (fun q40 =>
        if q40 = 0 then
          f_X6_firstFault_j49 w (1 : Int32) x2 t2
        else
          f_X6_firstFault_j48 w x2 t2)
      else none)
theorem g_X6_firstFault {X : XT} (h : MX X prog_1_method_46_code P_X6 3 (some .int)) (w : Nat) (x1 : Int32) (x2 : Int32) (m : Mem) : Go X (Em X puI) 0 [some (.inr (.inr (2, w))), some (.inl x1), some (.inl x2), none] [] m (f_X6_firstFault w x1 x2 m) := by
  unfold f_X6_firstFault
  refine go_blk h.1 (is := [.iconst 0, .istore_n 3]) (pc' := 2) (ls' := [some (.inr (.inr (2, w))), some (.inl x1), some (.inl x2), some (.inl (0 : Int32))]) (st' := []) (m' := m) (by decide +kernel) rfl ?_
  refine go_lp1 (hd := fun (y3 : Int32) (n : Mem) o => Go X (Em X puI) 2 [some (.inr (.inr (2, w))), some (.inl x1), some (.inl x2), some (.inl y3)] [] n o) (fun _ _ => go_none) (fun y3 n nx_ hn_ => g_X6_firstFault_b2 h w x1 x2 nx_ _ hn_ (fun z_2 o0_2 o1_2 o3_2 => ?_) (y3, n)) fuelN (0 : Int32) m
  refine go_blk h.1 (is := [.iload_n 2, .bipush 8]) (pc' := 32) (ls' := [o0_2, o1_2, some (.inl x2), o3_2]) (st' := [.inl (8 : Int32), .inl x2]) (m' := z_2) (by decide +kernel) rfl ?_
  refine go_icmplt h.1 (off := 16) 48 (by decide +kernel) (by decide) (fun c32 => ?_) (fun c32 => ?_)
  · exact g_X6_firstFault_j48 h w x2 z_2 (o0_2) (o1_2) (o3_2)
  · refine go_blk h.1 (is := [.iload_n 2, .iconst 2, .isub, .bipush 6]) (pc' := 40) (ls' := [o0_2, o1_2, some (.inl x2), o3_2]) (st' := [.inl (6 : Int32), .inl (x2 - (2 : Int32))]) (m' := z_2) (by decide +kernel) rfl ?_
    refine go_irem h.1 (by decide +kernel) (fun z40 q40 _ => ?_)
    refine go_ifne h.1 (off := 7) 48 (by decide +kernel) (by decide) (fun c41 => ?_) (fun c41 => ?_)
    · exact g_X6_firstFault_j48 h w x2 z_2 (o0_2) (o1_2) (o3_2)
    · refine go_blk h.1 (is := [.iconst 1]) (pc' := 45) (ls' := [o0_2, o1_2, some (.inl x2), o3_2]) (st' := [.inl (1 : Int32)]) (m' := z_2) (by decide +kernel) rfl ?_
      refine go_goto h.1 (off := 4) 49 (by decide +kernel) (by decide) ?_
      exact g_X6_firstFault_j49 h w (1 : Int32) x2 z_2 (o0_2) (o1_2) (o3_2)
theorem ctr_X6_firstFault (Z : ZT) (w : Nat) (x1 : Int32) (x2 : Int32) (m : Mem) : Ctr Z yX6_firstFault prog_1_method_46_code 4 (some .int) 3 puI [.inr (.inr (2, w)), .inl x1, .inl x2] m (f_X6_firstFault w x1 x2 m) :=
  ctr_of (P := P_X6) (by decide +kernel) rfl pt_X6 rfl rfl (fun X hC hZ hR h0 h1 hr => by subst hZ; exact g_X6_firstFault ⟨hC, hR, h0, h1, hr⟩ w x1 x2 m)

def f_X6_kindOf (x0 : Int32) (m : Mem) : Option (Int32 × Mem) :=
  if x0 = (112 : Int32) then
    some ((2 : Int32), m)
  else
    if x0 = (101 : Int32) then
      some ((1 : Int32), m)
    else
      some ((0 : Int32), m)
theorem g_X6_kindOf {X : XT} (h : MX X prog_1_method_49_code P_X6 0 (some .int)) (x0 : Int32) (m : Mem) : Go X (Em X puI) 0 [some (.inl x0)] [] m (f_X6_kindOf x0 m) := by
  unfold f_X6_kindOf
  refine go_blk h.1 (is := [.iload_n 0, .bipush 112]) (pc' := 3) (ls' := [some (.inl x0)]) (st' := [.inl (112 : Int32), .inl x0]) (m' := m) (by decide +kernel) rfl ?_
  refine go_icmpne h.1 (off := 5) 8 (by decide +kernel) (by decide) (fun c3 => ?_) (fun c3 => ?_)
  · refine go_blk h.1 (is := [.iload_n 0, .bipush 101]) (pc' := 11) (ls' := [some (.inl x0)]) (st' := [.inl (101 : Int32), .inl x0]) (m' := m) (by decide +kernel) rfl ?_
    refine go_icmpne h.1 (off := 7) 18 (by decide +kernel) (by decide) (fun c11 => ?_) (fun c11 => ?_)
    · refine go_blk h.1 (is := [.iconst 0]) (pc' := 19) (ls' := [some (.inl x0)]) (st' := [.inl (0 : Int32)]) (m' := m) (by decide +kernel) rfl ?_
      exact go_iret h.1 h.2.2.2.2 (by decide +kernel)
    · refine go_blk h.1 (is := [.iconst 1]) (pc' := 15) (ls' := [some (.inl x0)]) (st' := [.inl (1 : Int32)]) (m' := m) (by decide +kernel) rfl ?_
      refine go_goto h.1 (off := 4) 19 (by decide +kernel) (by decide) ?_
      exact go_iret h.1 h.2.2.2.2 (by decide +kernel)
  · refine go_blk h.1 (is := [.iconst 2]) (pc' := 7) (ls' := [some (.inl x0)]) (st' := [.inl (2 : Int32)]) (m' := m) (by decide +kernel) rfl ?_
    exact go_iret h.1 h.2.2.2.2 (by decide +kernel)
theorem ctr_X6_kindOf (Z : ZT) (x0 : Int32) (m : Mem) : Ctr Z yX6_kindOf prog_1_method_49_code 1 (some .int) 0 puI [.inl x0] m (f_X6_kindOf x0 m) :=
  ctr_of (P := P_X6) (by decide +kernel) rfl pt_X6 rfl rfl (fun X hC hZ hR h0 h1 hr => by subst hZ; exact g_X6_kindOf ⟨hC, hR, h0, h1, hr⟩ x0 m)

def f_X1_take (w : Nat) (a1 : Nat) (x2 : Int32) (m : Mem) : Option (Unit × Mem) :=
  bnd (f_X4_at a1 (x2 + (1 : Int32)) m) (fun r5 m5 =>
    bnd (f_X6_kindOf r5 m5) (fun r8 m8 =>
      bnd (f_X4_at a1 (x2 + (2 : Int32)) (mset m8 6 w 0 r8)) (fun r19 m19 =>
        bnd (f_X4_at a1 (x2 + (3 : Int32)) (mset m19 6 w 1 (r19 - (48 : Int32)))) (fun r33 m33 =>
          bnd (f_X4_at a1 (x2 + (4 : Int32)) (mset m33 6 w 2 (r33 - (48 : Int32)))) (fun r47 m47 =>
            bnd (f_X4_at a1 (x2 + (5 : Int32)) (mset m47 6 w 3 (r47 - (48 : Int32)))) (fun r61 m61 =>
              some ((), (mset m61 6 w 4 (r61 - (48 : Int32))))))))))
theorem g_X1_take {X : XT} (h : MX X prog_3_method_2_code P_X1 2 none) (w : Nat) (a1 : Nat) (x2 : Int32) (m : Mem) : Go X (Em X puV) 0 [some (.inr (.inr (6, w))), some (.inr (.inr (2, a1))), some (.inl x2)] [] m (f_X1_take w a1 x2 m) := by
  unfold f_X1_take
  refine go_blk h.1 (is := [.aload_n 0, .aload_n 1, .iload_n 2, .iconst 1, .iadd]) (pc' := 5) (ls' := [some (.inr (.inr (6, w))), some (.inr (.inr (2, a1))), some (.inl x2)]) (st' := [.inl (x2 + (1 : Int32)), .inr (.inr (2, a1)), .inr (.inr (6, w))]) (m' := m) (by decide +kernel) rfl ?_
  refine go_callV h.1 (index := 7) (n := 1) (t := 2) (i := a1) (ci := 4) (nf := 4) (cz := (RX4, TX4, 4)) (as := [.inl (x2 + (1 : Int32))]) (rest := [.inr (.inr (6, w))]) (ctr_X4_at (xZ X) a1 (x2 + (1 : Int32)) m) (by decide +kernel) rfl rfl wd_v_X1_7 rfl (h.room (by first | decide | omega) (by decide)) h.cl (Nat.le_of_ble_eq_true rfl) puI_ok rfl (fun r5 m5 _ => ?_)
  show Go X (Em X puV) 8 [some (.inr (.inr (6, w))), some (.inr (.inr (2, a1))), some (.inl x2)] [.inl r5, .inr (.inr (6, w))] m5 _
  refine go_callN h.1 (index := 13) (n := 1) (as := [.inl r5]) (rest := [.inr (.inr (6, w))]) (ctr_X6_kindOf (xZ X) r5 m5) (by decide +kernel) wd_n_X1_13 rfl (h.room (by first | decide | omega) (by decide)) h.cl (Nat.le_of_ble_eq_true rfl) puI_ok rfl (fun r8 m8 _ => ?_)
  show Go X (Em X puV) 11 [some (.inr (.inr (6, w))), some (.inr (.inr (2, a1))), some (.inl x2)] [.inl r8, .inr (.inr (6, w))] m8 _
  refine go_blk h.1 (is := [.putfield 18, .aload_n 0, .aload_n 1, .iload_n 2, .iconst 2, .iadd]) (pc' := 19) (ls' := [some (.inr (.inr (6, w))), some (.inr (.inr (2, a1))), some (.inl x2)]) (st' := [.inl (x2 + (2 : Int32)), .inr (.inr (2, a1)), .inr (.inr (6, w))]) (m' := (mset m8 6 w 0 r8)) (by decide +kernel) rfl ?_
  refine go_callV h.1 (index := 7) (n := 1) (t := 2) (i := a1) (ci := 4) (nf := 4) (cz := (RX4, TX4, 4)) (as := [.inl (x2 + (2 : Int32))]) (rest := [.inr (.inr (6, w))]) (ctr_X4_at (xZ X) a1 (x2 + (2 : Int32)) (mset m8 6 w 0 r8)) (by decide +kernel) rfl rfl wd_v_X1_7 rfl (h.room (by first | decide | omega) (by decide)) h.cl (Nat.le_of_ble_eq_true rfl) puI_ok rfl (fun r19 m19 _ => ?_)
  show Go X (Em X puV) 22 [some (.inr (.inr (6, w))), some (.inr (.inr (2, a1))), some (.inl x2)] [.inl r19, .inr (.inr (6, w))] m19 _
  refine go_blk h.1 (is := [.bipush 48, .isub, .putfield 24, .aload_n 0, .aload_n 1, .iload_n 2, .iconst 3, .iadd]) (pc' := 33) (ls' := [some (.inr (.inr (6, w))), some (.inr (.inr (2, a1))), some (.inl x2)]) (st' := [.inl (x2 + (3 : Int32)), .inr (.inr (2, a1)), .inr (.inr (6, w))]) (m' := (mset m19 6 w 1 (r19 - (48 : Int32)))) (by decide +kernel) rfl ?_
  refine go_callV h.1 (index := 7) (n := 1) (t := 2) (i := a1) (ci := 4) (nf := 4) (cz := (RX4, TX4, 4)) (as := [.inl (x2 + (3 : Int32))]) (rest := [.inr (.inr (6, w))]) (ctr_X4_at (xZ X) a1 (x2 + (3 : Int32)) (mset m19 6 w 1 (r19 - (48 : Int32)))) (by decide +kernel) rfl rfl wd_v_X1_7 rfl (h.room (by first | decide | omega) (by decide)) h.cl (Nat.le_of_ble_eq_true rfl) puI_ok rfl (fun r33 m33 _ => ?_)
  show Go X (Em X puV) 36 [some (.inr (.inr (6, w))), some (.inr (.inr (2, a1))), some (.inl x2)] [.inl r33, .inr (.inr (6, w))] m33 _
  refine go_blk h.1 (is := [.bipush 48, .isub, .putfield 27, .aload_n 0, .aload_n 1, .iload_n 2, .iconst 4, .iadd]) (pc' := 47) (ls' := [some (.inr (.inr (6, w))), some (.inr (.inr (2, a1))), some (.inl x2)]) (st' := [.inl (x2 + (4 : Int32)), .inr (.inr (2, a1)), .inr (.inr (6, w))]) (m' := (mset m33 6 w 2 (r33 - (48 : Int32)))) (by decide +kernel) rfl ?_
  refine go_callV h.1 (index := 7) (n := 1) (t := 2) (i := a1) (ci := 4) (nf := 4) (cz := (RX4, TX4, 4)) (as := [.inl (x2 + (4 : Int32))]) (rest := [.inr (.inr (6, w))]) (ctr_X4_at (xZ X) a1 (x2 + (4 : Int32)) (mset m33 6 w 2 (r33 - (48 : Int32)))) (by decide +kernel) rfl rfl wd_v_X1_7 rfl (h.room (by first | decide | omega) (by decide)) h.cl (Nat.le_of_ble_eq_true rfl) puI_ok rfl (fun r47 m47 _ => ?_)
  show Go X (Em X puV) 50 [some (.inr (.inr (6, w))), some (.inr (.inr (2, a1))), some (.inl x2)] [.inl r47, .inr (.inr (6, w))] m47 _
  refine go_blk h.1 (is := [.bipush 48, .isub, .putfield 30, .aload_n 0, .aload_n 1, .iload_n 2, .iconst 5, .iadd]) (pc' := 61) (ls' := [some (.inr (.inr (6, w))), some (.inr (.inr (2, a1))), some (.inl x2)]) (st' := [.inl (x2 + (5 : Int32)), .inr (.inr (2, a1)), .inr (.inr (6, w))]) (m' := (mset m47 6 w 3 (r47 - (48 : Int32)))) (by decide +kernel) rfl ?_
  refine go_callV h.1 (index := 7) (n := 1) (t := 2) (i := a1) (ci := 4) (nf := 4) (cz := (RX4, TX4, 4)) (as := [.inl (x2 + (5 : Int32))]) (rest := [.inr (.inr (6, w))]) (ctr_X4_at (xZ X) a1 (x2 + (5 : Int32)) (mset m47 6 w 3 (r47 - (48 : Int32)))) (by decide +kernel) rfl rfl wd_v_X1_7 rfl (h.room (by first | decide | omega) (by decide)) h.cl (Nat.le_of_ble_eq_true rfl) puI_ok rfl (fun r61 m61 _ => ?_)
  show Go X (Em X puV) 64 [some (.inr (.inr (6, w))), some (.inr (.inr (2, a1))), some (.inl x2)] [.inl r61, .inr (.inr (6, w))] m61 _
  refine go_blk h.1 (is := [.bipush 48, .isub, .putfield 33]) (pc' := 70) (ls' := [some (.inr (.inr (6, w))), some (.inr (.inr (2, a1))), some (.inl x2)]) (st' := []) (m' := (mset m61 6 w 4 (r61 - (48 : Int32)))) (by decide +kernel) rfl ?_
  exact go_vret h.1 h.2.2.2.2 (by decide +kernel)
theorem ctr_X1_take (Z : ZT) (w : Nat) (a1 : Nat) (x2 : Int32) (m : Mem) : Ctr Z yX1_take prog_3_method_2_code 3 none 2 puV [.inr (.inr (6, w)), .inr (.inr (2, a1)), .inl x2] m (f_X1_take w a1 x2 m) :=
  ctr_of (P := P_X1) (by decide +kernel) rfl pt_X1 rfl rfl (fun X hC hZ hR h0 h1 hr => by subst hZ; exact g_X1_take ⟨hC, hR, h0, h1, hr⟩ w a1 x2 m)

def f_X5_take_b36 (w : Nat) (x2 : Int32) (next : Int32 × Mem → Option (Unit × Mem)) (exit : Mem → Option (Unit × Mem)) (s : Int32 × Mem) : Option (Unit × Mem) :=
  if (s.2 4 0 1) ≤ s.1 then
    exit (s.2)
  else
    if inB s.1 5 = true then
      bnd (f_X1_take (ix s.1) w ((x2 + (2 : Int32)) + (s.1 * (6 : Int32))) s.2) (fun _ m62 =>
        next ((s.1 + (1 : Int32)), m62))
    else none
theorem g_X5_take_b36 {X : XT} (h : MX X prog_7_method_3_code P_X5 3 none) (w : Nat) (x2 : Int32) (next : Int32 × Mem → Option (Unit × Mem)) (exit : Mem → Option (Unit × Mem)) (hn : ∀ (y4 : Int32) (n : Mem) (o3 : Option AV), Go X (Em X puV) 36 [some (.inr (.inr (4, 0))), some (.inr (.inr (2, w))), some (.inl x2), o3, some (.inl y4)] [] n (next (y4, n))) (hx : ∀ (n : Mem) (o0 : Option AV) (o1 : Option AV) (o2 : Option AV) (o3 : Option AV) (o4 : Option AV), Go X (Em X puV) 71 [o0, o1, o2, o3, o4] [] n (exit (n))) (s : Int32 × Mem) (o3 : Option AV) : Go X (Em X puV) 36 [some (.inr (.inr (4, 0))), some (.inr (.inr (2, w))), some (.inl x2), o3, some (.inl s.1)] [] s.2 (f_X5_take_b36 w x2 next exit s) := by
  unfold f_X5_take_b36
  refine go_blk h.1 (is := [.iload 4, .aload_n 0, .getfield 18]) (pc' := 42) (ls' := [some (.inr (.inr (4, 0))), some (.inr (.inr (2, w))), some (.inl x2), o3, some (.inl s.1)]) (st' := [.inl (s.2 4 0 1), .inl s.1]) (m' := s.2) (by decide +kernel) rfl ?_
  refine go_icmpge h.1 (off := 29) 71 (by decide +kernel) (by decide) (fun c42 => ?_) (fun c42 => ?_)
  · exact hx s.2 (some (.inr (.inr (4, 0)))) (some (.inr (.inr (2, w)))) (some (.inl x2)) (o3) (some (.inl s.1))
  · refine go_blk h.1 (is := [.aload_n 0, .getfield 11, .iload 4]) (pc' := 51) (ls' := [some (.inr (.inr (4, 0))), some (.inr (.inr (2, w))), some (.inl x2), o3, some (.inl s.1)]) (st' := [.inl s.1, .inr (.inr (5, 0))]) (m' := s.2) (by decide +kernel) rfl ?_
    refine go_aald h.1 (kd := 1) (z := (6, (ix s.1))) (by decide +kernel) rfl rfl (by decide) rfl (fun b51 => ?_)
    refine go_blk h.1 (is := [.aload_n 1, .iload_n 2, .iconst 2, .iadd, .iload 4, .bipush 6, .imul, .iadd]) (pc' := 62) (ls' := [some (.inr (.inr (4, 0))), some (.inr (.inr (2, w))), some (.inl x2), o3, some (.inl s.1)]) (st' := [.inl ((x2 + (2 : Int32)) + (s.1 * (6 : Int32))), .inr (.inr (2, w)), .inr (.inr (6, (ix s.1)))]) (m' := s.2) (by decide +kernel) rfl ?_
    refine go_callV h.1 (index := 40) (n := 2) (t := 6) (i := (ix s.1)) (ci := 1) (nf := 5) (cz := (RX1, TX1, 5)) (as := [.inr (.inr (2, w)), .inl ((x2 + (2 : Int32)) + (s.1 * (6 : Int32)))]) (rest := []) (ctr_X1_take (xZ X) (ix s.1) w ((x2 + (2 : Int32)) + (s.1 * (6 : Int32))) s.2) (by decide +kernel) rfl rfl wd_v_X5_40 rfl (h.room (by first | decide | omega) (by decide)) h.cl (Nat.le_of_ble_eq_true rfl) puV_ok rfl (fun r62 m62 _ => ?_)
    show Go X (Em X puV) 65 [some (.inr (.inr (4, 0))), some (.inr (.inr (2, w))), some (.inl x2), o3, some (.inl s.1)] [] m62 _
    refine go_blk h.1 (is := [.iinc 4 1]) (pc' := 68) (ls' := [some (.inr (.inr (4, 0))), some (.inr (.inr (2, w))), some (.inl x2), (clrL o3), some (.inl (s.1 + (1 : Int32)))]) (st' := []) (m' := m62) (by decide +kernel) rfl ?_
    refine go_goto h.1 (off := -32) 36 (by decide +kernel) (by decide) ?_
    exact hn (s.1 + (1 : Int32)) m62 ((clrL o3))

def f_X5_take (w : Nat) (x2 : Int32) (x3 : Int32) (m : Mem) : Option (Unit × Mem) :=
  bnd (f_X4_at w (x2 + (1 : Int32)) m) (fun r5 m5 =>
    if ¬ (6 : Int32) = 0 then dv ((x3 - (2 : Int32)) / (6 : Int32)) (fun q25 =>
      lpk (f_X5_take_b36 w x2) fuelN ((0 : Int32), (mset (mset (mset m5 4 0 2 (r5 - (48 : Int32))) 4 0 3 (0 : Int32)) 4 0 1 (if (5 : Int32) < q25 then (5 : Int32) else q25))) (fun t36 =>
        some ((), t36)))
    else none)
theorem g_X5_take {X : XT} (h : MX X prog_7_method_3_code P_X5 3 none) (w : Nat) (x2 : Int32) (x3 : Int32) (m : Mem) : Go X (Em X puV) 0 [some (.inr (.inr (4, 0))), some (.inr (.inr (2, w))), some (.inl x2), some (.inl x3), none] [] m (f_X5_take w x2 x3 m) := by
  unfold f_X5_take
  refine go_blk h.1 (is := [.aload_n 0, .aload_n 1, .iload_n 2, .iconst 1, .iadd]) (pc' := 5) (ls' := [some (.inr (.inr (4, 0))), some (.inr (.inr (2, w))), some (.inl x2), some (.inl x3), none]) (st' := [.inl (x2 + (1 : Int32)), .inr (.inr (2, w)), .inr (.inr (4, 0))]) (m' := m) (by decide +kernel) rfl ?_
  refine go_callV h.1 (index := 28) (n := 1) (t := 2) (i := w) (ci := 4) (nf := 4) (cz := (RX4, TX4, 4)) (as := [.inl (x2 + (1 : Int32))]) (rest := [.inr (.inr (4, 0))]) (ctr_X4_at (xZ X) w (x2 + (1 : Int32)) m) (by decide +kernel) rfl rfl wd_v_X5_28 rfl (h.room (by first | decide | omega) (by decide)) h.cl (Nat.le_of_ble_eq_true rfl) puI_ok rfl (fun r5 m5 _ => ?_)
  show Go X (Em X puV) 8 [some (.inr (.inr (4, 0))), some (.inr (.inr (2, w))), some (.inl x2), some (.inl x3), none] [.inl r5, .inr (.inr (4, 0))] m5 _
  refine go_blk h.1 (is := [.bipush 48, .isub, .putfield 22, .aload_n 0, .iconst 0, .putfield 25, .aload_n 0, .iload_n 3, .iconst 2, .isub, .bipush 6]) (pc' := 25) (ls' := [some (.inr (.inr (4, 0))), some (.inr (.inr (2, w))), some (.inl x2), some (.inl x3), none]) (st' := [.inl (6 : Int32), .inl (x3 - (2 : Int32)), .inr (.inr (4, 0))]) (m' := (mset (mset m5 4 0 2 (r5 - (48 : Int32))) 4 0 3 (0 : Int32))) (by decide +kernel) rfl ?_
  refine go_idiv h.1 (by decide +kernel) (fun z25 q25 _ => ?_)
  refine go_blk h.1 (is := [.iconst 5]) (pc' := 27) (ls' := [some (.inr (.inr (4, 0))), some (.inr (.inr (2, w))), some (.inl x2), some (.inl x3), none]) (st' := [.inl (5 : Int32), .inl q25, .inr (.inr (4, 0))]) (m' := (mset (mset m5 4 0 2 (r5 - (48 : Int32))) 4 0 3 (0 : Int32))) (by decide +kernel) rfl ?_
  refine go_min h (index := 34) (by first | decide | omega) (by decide +kernel) wd_ml_X5_34 wd_st_min wd_in_Math wd_co_min (Nat.le_of_ble_eq_true rfl) ?_
  show Go X (Em X puV) 30 [some (.inr (.inr (4, 0))), some (.inr (.inr (2, w))), some (.inl x2), some (.inl x3), none] [.inl (if (5 : Int32) < q25 then (5 : Int32) else q25), .inr (.inr (4, 0))] (mset (mset m5 4 0 2 (r5 - (48 : Int32))) 4 0 3 (0 : Int32)) _
  refine go_blk h.1 (is := [.putfield 18, .iconst 0, .istore 4]) (pc' := 36) (ls' := [some (.inr (.inr (4, 0))), some (.inr (.inr (2, w))), some (.inl x2), some (.inl x3), some (.inl (0 : Int32))]) (st' := []) (m' := (mset (mset (mset m5 4 0 2 (r5 - (48 : Int32))) 4 0 3 (0 : Int32)) 4 0 1 (if (5 : Int32) < q25 then (5 : Int32) else q25))) (by decide +kernel) rfl ?_
  refine go_lp1 (hd := fun (y4 : Int32) (n : Mem) o => ∀ (o3 : Option AV), Go X (Em X puV) 36 [some (.inr (.inr (4, 0))), some (.inr (.inr (2, w))), some (.inl x2), o3, some (.inl y4)] [] n o) (fun _ _ _ => go_none) (fun y4 n nx_ hn_ => g_X5_take_b36 h w x2 nx_ _ hn_ (fun z_36 o0_36 o1_36 o2_36 o3_36 o4_36 => ?_) (y4, n)) fuelN (0 : Int32) (mset (mset (mset m5 4 0 2 (r5 - (48 : Int32))) 4 0 3 (0 : Int32)) 4 0 1 (if (5 : Int32) < q25 then (5 : Int32) else q25)) (some (.inl x3))
  exact go_vret h.1 h.2.2.2.2 (by decide +kernel)
theorem ctr_X5_take (Z : ZT) (w : Nat) (x2 : Int32) (x3 : Int32) (m : Mem) : Ctr Z yX5_take prog_7_method_3_code 5 none 3 puV [.inr (.inr (4, 0)), .inr (.inr (2, w)), .inl x2, .inl x3] m (f_X5_take w x2 x3 m) :=
  ctr_of (P := P_X5) (by decide +kernel) rfl pt_X5 rfl rfl (fun X hC hZ hR h0 h1 hr => by subst hZ; exact g_X5_take ⟨hC, hR, h0, h1, hr⟩ w x2 x3 m)

def f_X3_forget (m : Mem) : Option (Unit × Mem) :=
  some ((), (mset m 17 0 3 (0 : Int32)))
theorem g_X3_forget {X : XT} (h : MX X prog_5_method_2_code P_X3 0 none) (m : Mem) : Go X (Em X puV) 0 [some (.inr (.inr (17, 0)))] [] m (f_X3_forget m) := by
  unfold f_X3_forget
  refine go_blk h.1 (is := [.aload_n 0, .iconst 0, .putfield 25]) (pc' := 5) (ls' := [some (.inr (.inr (17, 0)))]) (st' := []) (m' := (mset m 17 0 3 (0 : Int32))) (by decide +kernel) rfl ?_
  exact go_vret h.1 h.2.2.2.2 (by decide +kernel)
theorem ctr_X3_forget (Z : ZT) (m : Mem) : Ctr Z yX3_forget prog_5_method_2_code 1 none 0 puV [.inr (.inr (17, 0))] m (f_X3_forget m) :=
  ctr_of (P := P_X3) (by decide +kernel) rfl pt_X3 rfl rfl (fun X hC hZ hR h0 h1 hr => by subst hZ; exact g_X3_forget ⟨hC, hR, h0, h1, hr⟩ m)

def f_X6_faulty (x1 : Int32) (m : Mem) : Option (Int32 × Mem) :=
  some (((-10 : Int32) - x1), (mset m 0 0 6 x1))
theorem g_X6_faulty {X : XT} (h : MX X prog_1_method_36_code P_X6 0 (some .int)) (x1 : Int32) (m : Mem) : Go X (Em X puI) 0 [some (.inr (.inr (0, 0))), some (.inl x1)] [] m (f_X6_faulty x1 m) := by
  unfold f_X6_faulty
  refine go_blk h.1 (is := [.aload_n 0, .iload_n 1, .putfield 50, .bipush (-10), .iload_n 1, .isub]) (pc' := 9) (ls' := [some (.inr (.inr (0, 0))), some (.inl x1)]) (st' := [.inl ((-10 : Int32) - x1)]) (m' := (mset m 0 0 6 x1)) (by decide +kernel) rfl ?_
  exact go_iret h.1 h.2.2.2.2 (by decide +kernel)
theorem ctr_X6_faulty (Z : ZT) (x1 : Int32) (m : Mem) : Ctr Z yX6_faulty prog_1_method_36_code 2 (some .int) 0 puI [.inr (.inr (0, 0)), .inl x1] m (f_X6_faulty x1 m) :=
  ctr_of (P := P_X6) (by decide +kernel) rfl pt_X6 rfl rfl (fun X hC hZ hR h0 h1 hr => by subst hZ; exact g_X6_faulty ⟨hC, hR, h0, h1, hr⟩ x1 m)

def f_X6_ford (x1 : Int32) (x2 : Int32) (x3 : Int32) (x4 : Int32) (m : Mem) : Option (Int32 × Mem) :=
  bnd (f_X6_isSheet x1 (mset m 0 0 6 (0 : Int32))) (fun r6 m6 =>
    if r6 = 0 then
      some ((-1 : Int32), m6)
    else
      bnd (f_X6_isLane x2 m6) (fun r15 m15 =>
        if r15 = 0 then
          some ((-2 : Int32), m15)
        else
          if inB x1 4 = true then
            bnd (f_X4_faultAt (ix x1) x2 x3 x4 m15) (fun r38 m38 =>
              if r38 = 0 then
                bnd (f_X6_firstFault (ix x1) x3 x4 m38) (fun r60 m60 =>
                  if r60 = (-9 : Int32) then
                    bnd (f_X5_take (ix x1) x3 x4 m60) (fun _ m87 =>
                      bnd (f_X3_forget (mset m87 20 0 2 (0 : Int32))) (fun _ m102 =>
                        some ((m102 4 0 1), m102)))
                  else
                    some (((-100 : Int32) - r60), m60))
              else
                bnd (f_X6_faulty r38 m38) (fun r51 m51 =>
                  some (r51, m51)))
          else none))
theorem g_X6_ford {X : XT} (h : MX X prog_1_method_2_code P_X6 4 (some .int)) (x1 : Int32) (x2 : Int32) (x3 : Int32) (x4 : Int32) (m : Mem) : Go X (Em X puI) 0 [some (.inr (.inr (0, 0))), some (.inl x1), some (.inl x2), some (.inl x3), some (.inl x4), none, none, none] [] m (f_X6_ford x1 x2 x3 x4 m) := by
  unfold f_X6_ford
  refine go_blk h.1 (is := [.aload_n 0, .iconst 0, .putfield 50, .iload_n 1]) (pc' := 6) (ls' := [some (.inr (.inr (0, 0))), some (.inl x1), some (.inl x2), some (.inl x3), some (.inl x4), none, none, none]) (st' := [.inl x1]) (m' := (mset m 0 0 6 (0 : Int32))) (by decide +kernel) rfl ?_
  refine go_callS h.1 (index := 53) (n := 1) (as := [.inl x1]) (rest := []) (ctr_X6_isSheet (xZ X) x1 (mset m 0 0 6 (0 : Int32))) (by decide +kernel) wd_s_X6_53 rfl (h.room (by first | decide | omega) (by decide)) h.cl (Nat.le_of_ble_eq_true rfl) puI_ok rfl (fun r6 m6 _ => ?_)
  show Go X (Em X puI) 9 [some (.inr (.inr (0, 0))), some (.inl x1), some (.inl x2), some (.inl x3), some (.inl x4), none, none, none] [.inl r6] m6 _
  refine go_ifne h.1 (off := 5) 14 (by decide +kernel) (by decide) (fun c9 => ?_) (fun c9 => ?_)
  · refine go_blk h.1 (is := [.iload_n 2]) (pc' := 15) (ls' := [some (.inr (.inr (0, 0))), some (.inl x1), some (.inl x2), some (.inl x3), some (.inl x4), none, none, none]) (st' := [.inl x2]) (m' := m6) (by decide +kernel) rfl ?_
    refine go_callS h.1 (index := 57) (n := 1) (as := [.inl x2]) (rest := []) (ctr_X6_isLane (xZ X) x2 m6) (by decide +kernel) wd_s_X6_57 rfl (h.room (by first | decide | omega) (by decide)) h.cl (Nat.le_of_ble_eq_true rfl) puI_ok rfl (fun r15 m15 _ => ?_)
    show Go X (Em X puI) 18 [some (.inr (.inr (0, 0))), some (.inl x1), some (.inl x2), some (.inl x3), some (.inl x4), none, none, none] [.inl r15] m15 _
    refine go_ifne h.1 (off := 6) 24 (by decide +kernel) (by decide) (fun c18 => ?_) (fun c18 => ?_)
    · refine go_blk h.1 (is := [.aload_n 0, .getfield 13, .iload_n 1]) (pc' := 29) (ls' := [some (.inr (.inr (0, 0))), some (.inl x1), some (.inl x2), some (.inl x3), some (.inl x4), none, none, none]) (st' := [.inl x1, .inr (.inr (1, 0))]) (m' := m15) (by decide +kernel) rfl ?_
      refine go_aald h.1 (kd := 0) (z := (2, (ix x1))) (by decide +kernel) rfl rfl (by decide) rfl (fun b29 => ?_)
      refine go_blk h.1 (is := [.astore 5, .aload 5, .iload_n 2, .iload_n 3, .iload 4]) (pc' := 38) (ls' := [some (.inr (.inr (0, 0))), some (.inl x1), some (.inl x2), some (.inl x3), some (.inl x4), some (.inr (.inr (2, (ix x1)))), none, none]) (st' := [.inl x4, .inl x3, .inl x2, .inr (.inr (2, (ix x1)))]) (m' := m15) (by decide +kernel) rfl ?_
      refine go_callV h.1 (index := 60) (n := 3) (t := 2) (i := (ix x1)) (ci := 4) (nf := 4) (cz := (RX4, TX4, 4)) (as := [.inl x2, .inl x3, .inl x4]) (rest := []) (ctr_X4_faultAt (xZ X) (ix x1) x2 x3 x4 m15) (by decide +kernel) rfl rfl wd_v_X6_60 rfl (h.room (by first | decide | omega) (by decide)) h.cl (Nat.le_of_ble_eq_true rfl) puI_ok rfl (fun r38 m38 _ => ?_)
      show Go X (Em X puI) 41 [some (.inr (.inr (0, 0))), some (.inl x1), some (.inl x2), some (.inl x3), some (.inl x4), some (.inr (.inr (2, (ix x1)))), none, none] [.inl r38] m38 _
      refine go_blk h.1 (is := [.istore 6, .iload 6]) (pc' := 45) (ls' := [some (.inr (.inr (0, 0))), some (.inl x1), some (.inl x2), some (.inl x3), some (.inl x4), some (.inr (.inr (2, (ix x1)))), some (.inl r38), none]) (st' := [.inl r38]) (m' := m38) (by decide +kernel) rfl ?_
      refine go_ifeq h.1 (off := 10) 55 (by decide +kernel) (by decide) (fun c45 => ?_) (fun c45 => ?_)
      · refine go_blk h.1 (is := [.aload 5, .iload_n 3, .iload 4]) (pc' := 60) (ls' := [some (.inr (.inr (0, 0))), some (.inl x1), some (.inl x2), some (.inl x3), some (.inl x4), some (.inr (.inr (2, (ix x1)))), some (.inl r38), none]) (st' := [.inl x4, .inl x3, .inr (.inr (2, (ix x1)))]) (m' := m38) (by decide +kernel) rfl ?_
        refine go_callS h.1 (index := 68) (n := 3) (as := [.inr (.inr (2, (ix x1))), .inl x3, .inl x4]) (rest := []) (ctr_X6_firstFault (xZ X) (ix x1) x3 x4 m38) (by decide +kernel) wd_s_X6_68 rfl (h.room (by first | decide | omega) (by decide)) h.cl (Nat.le_of_ble_eq_true rfl) puI_ok rfl (fun r60 m60 _ => ?_)
        show Go X (Em X puI) 63 [some (.inr (.inr (0, 0))), some (.inl x1), some (.inl x2), some (.inl x3), some (.inl x4), some (.inr (.inr (2, (ix x1)))), some (.inl r38), none] [.inl r60] m60 _
        refine go_blk h.1 (is := [.istore 7, .iload 7, .bipush (-9)]) (pc' := 69) (ls' := [some (.inr (.inr (0, 0))), some (.inl x1), some (.inl x2), some (.inl x3), some (.inl x4), some (.inr (.inr (2, (ix x1)))), some (.inl r38), some (.inl r60)]) (st' := [.inl (-9 : Int32), .inl r60]) (m' := m60) (by decide +kernel) rfl ?_
        refine go_icmpeq h.1 (off := 9) 78 (by decide +kernel) (by decide) (fun c69 => ?_) (fun c69 => ?_)
        · refine go_blk h.1 (is := [.aload_n 0, .getfield 21, .aload 5, .iload_n 3, .iload 4]) (pc' := 87) (ls' := [some (.inr (.inr (0, 0))), some (.inl x1), some (.inl x2), some (.inl x3), some (.inl x4), some (.inr (.inr (2, (ix x1)))), some (.inl r38), some (.inl r60)]) (st' := [.inl x4, .inl x3, .inr (.inr (2, (ix x1))), .inr (.inr (4, 0))]) (m' := m60) (by decide +kernel) rfl ?_
          refine go_callV h.1 (index := 72) (n := 3) (t := 4) (i := 0) (ci := 5) (nf := 4) (cz := (RX5, TX5, 4)) (as := [.inr (.inr (2, (ix x1))), .inl x3, .inl x4]) (rest := []) (ctr_X5_take (xZ X) (ix x1) x3 x4 m60) (by decide +kernel) rfl rfl wd_v_X6_72 rfl (h.room (by first | decide | omega) (by decide)) h.cl (Nat.le_of_ble_eq_true rfl) puV_ok rfl (fun r87 m87 _ => ?_)
          show Go X (Em X puI) 90 [some (.inr (.inr (0, 0))), some (.inl x1), some (.inl x2), some (.inl x3), some (.inl x4), some (.inr (.inr (2, (ix x1)))), some (.inl r38), some (.inl r60)] [] m87 _
          refine go_blk h.1 (is := [.aload_n 0, .getfield 42, .iconst 0, .putfield 76, .aload_n 0, .getfield 35]) (pc' := 102) (ls' := [some (.inr (.inr (0, 0))), some (.inl x1), some (.inl x2), some (.inl x3), some (.inl x4), some (.inr (.inr (2, (ix x1)))), some (.inl r38), some (.inl r60)]) (st' := [.inr (.inr (17, 0))]) (m' := (mset m87 20 0 2 (0 : Int32))) (by decide +kernel) rfl ?_
          refine go_callV h.1 (index := 79) (n := 0) (t := 17) (i := 0) (ci := 3) (nf := 5) (cz := (RX3, TX3, 5)) (as := []) (rest := []) (ctr_X3_forget (xZ X) (mset m87 20 0 2 (0 : Int32))) (by decide +kernel) rfl rfl wd_v_X6_79 rfl (h.room (by first | decide | omega) (by decide)) h.cl (Nat.le_of_ble_eq_true rfl) puV_ok rfl (fun r102 m102 _ => ?_)
          show Go X (Em X puI) 105 [some (.inr (.inr (0, 0))), some (.inl x1), some (.inl x2), some (.inl x3), some (.inl x4), some (.inr (.inr (2, (ix x1)))), some (.inl r38), some (.inl r60)] [] m102 _
          refine go_blk h.1 (is := [.aload_n 0, .getfield 21, .getfield 82]) (pc' := 112) (ls' := [some (.inr (.inr (0, 0))), some (.inl x1), some (.inl x2), some (.inl x3), some (.inl x4), some (.inr (.inr (2, (ix x1)))), some (.inl r38), some (.inl r60)]) (st' := [.inl (m102 4 0 1)]) (m' := m102) (by decide +kernel) rfl ?_
          exact go_iret h.1 h.2.2.2.2 (by decide +kernel)
        · refine go_blk h.1 (is := [.bipush (-100), .iload 7, .isub]) (pc' := 77) (ls' := [some (.inr (.inr (0, 0))), some (.inl x1), some (.inl x2), some (.inl x3), some (.inl x4), some (.inr (.inr (2, (ix x1)))), some (.inl r38), some (.inl r60)]) (st' := [.inl ((-100 : Int32) - r60)]) (m' := m60) (by decide +kernel) rfl ?_
          exact go_iret h.1 h.2.2.2.2 (by decide +kernel)
      · refine go_blk h.1 (is := [.aload_n 0, .iload 6]) (pc' := 51) (ls' := [some (.inr (.inr (0, 0))), some (.inl x1), some (.inl x2), some (.inl x3), some (.inl x4), some (.inr (.inr (2, (ix x1)))), some (.inl r38), none]) (st' := [.inl r38, .inr (.inr (0, 0))]) (m' := m38) (by decide +kernel) rfl ?_
        refine go_callV h.1 (index := 64) (n := 1) (t := 0) (i := 0) (ci := 6) (nf := 7) (cz := (RX6, TX6, 7)) (as := [.inl r38]) (rest := []) (ctr_X6_faulty (xZ X) r38 m38) (by decide +kernel) rfl rfl wd_v_X6_64 rfl (h.room (by first | decide | omega) (by decide)) h.cl (Nat.le_of_ble_eq_true rfl) puI_ok rfl (fun r51 m51 _ => ?_)
        show Go X (Em X puI) 54 [some (.inr (.inr (0, 0))), some (.inl x1), some (.inl x2), some (.inl x3), some (.inl x4), some (.inr (.inr (2, (ix x1)))), some (.inl r38), none] [.inl r51] m51 _
        exact go_iret h.1 h.2.2.2.2 (by decide +kernel)
    · refine go_blk h.1 (is := [.bipush (-2)]) (pc' := 23) (ls' := [some (.inr (.inr (0, 0))), some (.inl x1), some (.inl x2), some (.inl x3), some (.inl x4), none, none, none]) (st' := [.inl (-2 : Int32)]) (m' := m15) (by decide +kernel) rfl ?_
      exact go_iret h.1 h.2.2.2.2 (by decide +kernel)
  · refine go_blk h.1 (is := [.iconst (-1)]) (pc' := 13) (ls' := [some (.inr (.inr (0, 0))), some (.inl x1), some (.inl x2), some (.inl x3), some (.inl x4), none, none, none]) (st' := [.inl (-1 : Int32)]) (m' := m6) (by decide +kernel) rfl ?_
    exact go_iret h.1 h.2.2.2.2 (by decide +kernel)
theorem ctr_X6_ford (Z : ZT) (x1 : Int32) (x2 : Int32) (x3 : Int32) (x4 : Int32) (m : Mem) : Ctr Z yX6_ford prog_1_method_2_code 8 (some .int) 4 puI [.inr (.inr (0, 0)), .inl x1, .inl x2, .inl x3, .inl x4] m (f_X6_ford x1 x2 x3 x4 m) :=
  ctr_of (P := P_X6) (by decide +kernel) rfl pt_X6 rfl rfl (fun X hC hZ hR h0 h1 hr => by subst hZ; exact g_X6_ford ⟨hC, hR, h0, h1, hr⟩ x1 x2 x3 x4 m)

def f_X5_has (x1 : Int32) (m : Mem) : Option (Int32 × Mem) :=
  if x1 < 0 then
    some ((0 : Int32), m)
  else
    if (m 4 0 1) ≤ x1 then
      some ((0 : Int32), m)
    else
      some ((1 : Int32), m)
theorem g_X5_has {X : XT} (h : MX X prog_7_method_2_code P_X5 0 (some .boolean)) (x1 : Int32) (m : Mem) : Go X (Em X puI) 0 [some (.inr (.inr (4, 0))), some (.inl x1)] [] m (f_X5_has x1 m) := by
  unfold f_X5_has
  refine go_blk h.1 (is := [.iload_n 1]) (pc' := 1) (ls' := [some (.inr (.inr (4, 0))), some (.inl x1)]) (st' := [.inl x1]) (m' := m) (by decide +kernel) rfl ?_
  refine go_iflt h.1 (off := 15) 16 (by decide +kernel) (by decide) (fun c1 => ?_) (fun c1 => ?_)
  · refine go_blk h.1 (is := [.iconst 0]) (pc' := 17) (ls' := [some (.inr (.inr (4, 0))), some (.inl x1)]) (st' := [.inl (0 : Int32)]) (m' := m) (by decide +kernel) rfl ?_
    exact go_zret h.1 h.2.2.2.2 (Or.inl rfl) (by decide +kernel)
  · refine go_blk h.1 (is := [.iload_n 1, .aload_n 0, .getfield 18]) (pc' := 9) (ls' := [some (.inr (.inr (4, 0))), some (.inl x1)]) (st' := [.inl (m 4 0 1), .inl x1]) (m' := m) (by decide +kernel) rfl ?_
    refine go_icmpge h.1 (off := 7) 16 (by decide +kernel) (by decide) (fun c9 => ?_) (fun c9 => ?_)
    · refine go_blk h.1 (is := [.iconst 0]) (pc' := 17) (ls' := [some (.inr (.inr (4, 0))), some (.inl x1)]) (st' := [.inl (0 : Int32)]) (m' := m) (by decide +kernel) rfl ?_
      exact go_zret h.1 h.2.2.2.2 (Or.inl rfl) (by decide +kernel)
    · refine go_blk h.1 (is := [.iconst 1]) (pc' := 13) (ls' := [some (.inr (.inr (4, 0))), some (.inl x1)]) (st' := [.inl (1 : Int32)]) (m' := m) (by decide +kernel) rfl ?_
      refine go_goto h.1 (off := 4) 17 (by decide +kernel) (by decide) ?_
      exact go_zret h.1 h.2.2.2.2 (Or.inr rfl) (by decide +kernel)
theorem ctr_X5_has (Z : ZT) (x1 : Int32) (m : Mem) : Ctr Z yX5_has prog_7_method_2_code 2 (some .boolean) 0 puI [.inr (.inr (4, 0)), .inl x1] m (f_X5_has x1 m) :=
  ctr_of (P := P_X5) (by decide +kernel) rfl pt_X5 rfl rfl (fun X hC hZ hR h0 h1 hr => by subst hZ; exact g_X5_has ⟨hC, hR, h0, h1, hr⟩ x1 m)

def f_X6_shareOf (x0 : Int32) (x1 : Int32) (m : Mem) : Option (Int32 × Mem) :=
  if x0 = (1 : Int32) then
    some ((x1 - (1 : Int32)), m)
  else
    if x0 = (2 : Int32) then
      if ¬ (2 : Int32) = 0 then dv ((x1 - (1 : Int32)) / (2 : Int32)) (fun q32 =>
        some (q32, m))
      else none
    else
      some (x1, m)
theorem g_X6_shareOf {X : XT} (h : MX X prog_1_method_35_code P_X6 0 (some .int)) (x0 : Int32) (x1 : Int32) (m : Mem) : Go X (Em X puI) 0 [some (.inl x0), some (.inl x1)] [] m (f_X6_shareOf x0 x1 m) := by
  unfold f_X6_shareOf
  refine go_blk h.1 (is := [.iload_n 0]) (pc' := 1) (ls' := [some (.inl x0), some (.inl x1)]) (st' := [.inl x0]) (m' := m) (by decide +kernel) rfl ?_
  refine go_ite (fun w1_0 => ?_) (fun w1_0 => ?_)
  · refine go_lsIn h.1 (dflt := 37) (ps := #[(1, 33), (2, 27)]) (len := 27) (off := 33) (1 : Int32) 34 w1_0 (by decide +kernel) (by decide) rfl (by decide) ?_
    refine go_blk h.1 (is := [.iload_n 1, .iconst 1, .isub]) (pc' := 37) (ls' := [some (.inl x0), some (.inl x1)]) (st' := [.inl (x1 - (1 : Int32))]) (m' := m) (by decide +kernel) rfl ?_
    exact go_iret h.1 h.2.2.2.2 (by decide +kernel)
  · refine go_ite (fun w1_1 => ?_) (fun w1_1 => ?_)
    · refine go_lsIn h.1 (dflt := 37) (ps := #[(1, 33), (2, 27)]) (len := 27) (off := 27) (2 : Int32) 28 w1_1 (by decide +kernel) (by decide) rfl (by decide) ?_
      refine go_blk h.1 (is := [.iload_n 1, .iconst 1, .isub, .iconst 2]) (pc' := 32) (ls' := [some (.inl x0), some (.inl x1)]) (st' := [.inl (2 : Int32), .inl (x1 - (1 : Int32))]) (m' := m) (by decide +kernel) rfl ?_
      refine go_idiv h.1 (by decide +kernel) (fun z32 q32 _ => ?_)
      exact go_iret h.1 h.2.2.2.2 (by decide +kernel)
    · refine go_ls h.1 (dflt := 37) (ps := #[(1, 33), (2, 27)]) (len := 27) 38 (off := 37) (by decide +kernel) (by decide) (by simp only [Op.lookupswitch.offset]; rw [if_neg (fun q => toInt_ne w1_0 q.symm)]; rw [if_neg (fun q => toInt_ne w1_1 q.symm)]) (by decide) ?_
      refine go_blk h.1 (is := [.iload_n 1]) (pc' := 39) (ls' := [some (.inl x0), some (.inl x1)]) (st' := [.inl x1]) (m' := m) (by decide +kernel) rfl ?_
      exact go_iret h.1 h.2.2.2.2 (by decide +kernel)
theorem ctr_X6_shareOf (Z : ZT) (x0 : Int32) (x1 : Int32) (m : Mem) : Ctr Z yX6_shareOf prog_1_method_35_code 2 (some .int) 0 puI [.inl x0, .inl x1] m (f_X6_shareOf x0 x1 m) :=
  ctr_of (P := P_X6) (by decide +kernel) rfl pt_X6 rfl rfl (fun X hC hZ hR h0 h1 hr => by subst hZ; exact g_X6_shareOf ⟨hC, hR, h0, h1, hr⟩ x0 x1 m)

def f_X6_ofFish (x1 : Int32) (x2 : Int32) (m : Mem) : Option (Int32 × Mem) :=
  bnd (f_X5_has x1 m) (fun r5 m5 =>
    if r5 = 0 then
      some ((-1 : Int32), m5)
    else
      if inB x1 5 = true then
        if x2 = (0 : Int32) then
          some ((m5 6 (ix x1) 0), m5)
        else
          if x2 = (1 : Int32) then
            some ((m5 6 (ix x1) 1), m5)
          else
            if x2 = (2 : Int32) then
              some ((m5 6 (ix x1) 2), m5)
            else
              if x2 = (3 : Int32) then
                some ((m5 6 (ix x1) 3), m5)
              else
                if x2 = (4 : Int32) then
                  some ((m5 6 (ix x1) 4), m5)
                else
                  if x2 = (5 : Int32) then
                    bnd (f_X6_shareOf (m5 6 (ix x1) 0) (m5 6 (ix x1) 1) m5) (fun r97 m97 =>
                      some (r97, m97))
                  else
                    some ((-2 : Int32), m5)
      else none)
theorem g_X6_ofFish {X : XT} (h : MX X prog_1_method_3_code P_X6 1 (some .int)) (x1 : Int32) (x2 : Int32) (m : Mem) : Go X (Em X puI) 0 [some (.inr (.inr (0, 0))), some (.inl x1), some (.inl x2), none] [] m (f_X6_ofFish x1 x2 m) := by
  unfold f_X6_ofFish
  refine go_blk h.1 (is := [.aload_n 0, .getfield 21, .iload_n 1]) (pc' := 5) (ls' := [some (.inr (.inr (0, 0))), some (.inl x1), some (.inl x2), none]) (st' := [.inl x1, .inr (.inr (4, 0))]) (m' := m) (by decide +kernel) rfl ?_
  refine go_callV h.1 (index := 83) (n := 1) (t := 4) (i := 0) (ci := 5) (nf := 4) (cz := (RX5, TX5, 4)) (as := [.inl x1]) (rest := []) (ctr_X5_has (xZ X) x1 m) (by decide +kernel) rfl rfl wd_v_X6_83 rfl (h.room (by first | decide | omega) (by decide)) h.cl (Nat.le_of_ble_eq_true rfl) puI_ok rfl (fun r5 m5 _ => ?_)
  show Go X (Em X puI) 8 [some (.inr (.inr (0, 0))), some (.inl x1), some (.inl x2), none] [.inl r5] m5 _
  refine go_ifne h.1 (off := 5) 13 (by decide +kernel) (by decide) (fun c8 => ?_) (fun c8 => ?_)
  · refine go_blk h.1 (is := [.aload_n 0, .getfield 21, .getfield 86, .iload_n 1]) (pc' := 21) (ls' := [some (.inr (.inr (0, 0))), some (.inl x1), some (.inl x2), none]) (st' := [.inl x1, .inr (.inr (5, 0))]) (m' := m5) (by decide +kernel) rfl ?_
    refine go_aald h.1 (kd := 1) (z := (6, (ix x1))) (by decide +kernel) rfl rfl (by decide) rfl (fun b21 => ?_)
    refine go_blk h.1 (is := [.astore_n 3, .iload_n 2]) (pc' := 24) (ls' := [some (.inr (.inr (0, 0))), some (.inl x1), some (.inl x2), some (.inr (.inr (6, (ix x1))))]) (st' := [.inl x2]) (m' := m5) (by decide +kernel) rfl ?_
    refine go_ite (fun w24_0 => ?_) (fun w24_0 => ?_)
    · refine go_tsIn h.1 (dflt := 77) (lo := 0) (hi := 5) (offs := #[40, 45, 50, 55, 60, 65]) (len := 40) (off := 40) (0 : Int32) 64 w24_0 (by decide +kernel) (by decide) rfl (by decide) ?_
      refine go_blk h.1 (is := [.aload_n 3, .getfield 90]) (pc' := 68) (ls' := [some (.inr (.inr (0, 0))), some (.inl x1), some (.inl x2), some (.inr (.inr (6, (ix x1))))]) (st' := [.inl (m5 6 (ix x1) 0)]) (m' := m5) (by decide +kernel) rfl ?_
      exact go_iret h.1 h.2.2.2.2 (by decide +kernel)
    · refine go_ite (fun w24_1 => ?_) (fun w24_1 => ?_)
      · refine go_tsIn h.1 (dflt := 77) (lo := 0) (hi := 5) (offs := #[40, 45, 50, 55, 60, 65]) (len := 40) (off := 45) (1 : Int32) 69 w24_1 (by decide +kernel) (by decide) rfl (by decide) ?_
        refine go_blk h.1 (is := [.aload_n 3, .getfield 95]) (pc' := 73) (ls' := [some (.inr (.inr (0, 0))), some (.inl x1), some (.inl x2), some (.inr (.inr (6, (ix x1))))]) (st' := [.inl (m5 6 (ix x1) 1)]) (m' := m5) (by decide +kernel) rfl ?_
        exact go_iret h.1 h.2.2.2.2 (by decide +kernel)
      · refine go_ite (fun w24_2 => ?_) (fun w24_2 => ?_)
        · refine go_tsIn h.1 (dflt := 77) (lo := 0) (hi := 5) (offs := #[40, 45, 50, 55, 60, 65]) (len := 40) (off := 50) (2 : Int32) 74 w24_2 (by decide +kernel) (by decide) rfl (by decide) ?_
          refine go_blk h.1 (is := [.aload_n 3, .getfield 98]) (pc' := 78) (ls' := [some (.inr (.inr (0, 0))), some (.inl x1), some (.inl x2), some (.inr (.inr (6, (ix x1))))]) (st' := [.inl (m5 6 (ix x1) 2)]) (m' := m5) (by decide +kernel) rfl ?_
          exact go_iret h.1 h.2.2.2.2 (by decide +kernel)
        · refine go_ite (fun w24_3 => ?_) (fun w24_3 => ?_)
          · refine go_tsIn h.1 (dflt := 77) (lo := 0) (hi := 5) (offs := #[40, 45, 50, 55, 60, 65]) (len := 40) (off := 55) (3 : Int32) 79 w24_3 (by decide +kernel) (by decide) rfl (by decide) ?_
            refine go_blk h.1 (is := [.aload_n 3, .getfield 101]) (pc' := 83) (ls' := [some (.inr (.inr (0, 0))), some (.inl x1), some (.inl x2), some (.inr (.inr (6, (ix x1))))]) (st' := [.inl (m5 6 (ix x1) 3)]) (m' := m5) (by decide +kernel) rfl ?_
            exact go_iret h.1 h.2.2.2.2 (by decide +kernel)
          · refine go_ite (fun w24_4 => ?_) (fun w24_4 => ?_)
            · refine go_tsIn h.1 (dflt := 77) (lo := 0) (hi := 5) (offs := #[40, 45, 50, 55, 60, 65]) (len := 40) (off := 60) (4 : Int32) 84 w24_4 (by decide +kernel) (by decide) rfl (by decide) ?_
              refine go_blk h.1 (is := [.aload_n 3, .getfield 104]) (pc' := 88) (ls' := [some (.inr (.inr (0, 0))), some (.inl x1), some (.inl x2), some (.inr (.inr (6, (ix x1))))]) (st' := [.inl (m5 6 (ix x1) 4)]) (m' := m5) (by decide +kernel) rfl ?_
              exact go_iret h.1 h.2.2.2.2 (by decide +kernel)
            · refine go_ite (fun w24_5 => ?_) (fun w24_5 => ?_)
              · refine go_tsIn h.1 (dflt := 77) (lo := 0) (hi := 5) (offs := #[40, 45, 50, 55, 60, 65]) (len := 40) (off := 65) (5 : Int32) 89 w24_5 (by decide +kernel) (by decide) rfl (by decide) ?_
                refine go_blk h.1 (is := [.aload_n 3, .getfield 90, .aload_n 3, .getfield 95]) (pc' := 97) (ls' := [some (.inr (.inr (0, 0))), some (.inl x1), some (.inl x2), some (.inr (.inr (6, (ix x1))))]) (st' := [.inl (m5 6 (ix x1) 1), .inl (m5 6 (ix x1) 0)]) (m' := m5) (by decide +kernel) rfl ?_
                refine go_callS h.1 (index := 107) (n := 2) (as := [.inl (m5 6 (ix x1) 0), .inl (m5 6 (ix x1) 1)]) (rest := []) (ctr_X6_shareOf (xZ X) (m5 6 (ix x1) 0) (m5 6 (ix x1) 1) m5) (by decide +kernel) wd_s_X6_107 rfl (h.room (by first | decide | omega) (by decide)) h.cl (Nat.le_of_ble_eq_true rfl) puI_ok rfl (fun r97 m97 _ => ?_)
                show Go X (Em X puI) 100 [some (.inr (.inr (0, 0))), some (.inl x1), some (.inl x2), some (.inr (.inr (6, (ix x1))))] [.inl r97] m97 _
                exact go_iret h.1 h.2.2.2.2 (by decide +kernel)
              · refine go_tsOut h.1 (dflt := 77) (lo := 0) (hi := 5) (offs := #[40, 45, 50, 55, 60, 65]) (len := 40) 101 (by decide +kernel) (sw_out (n := 6) (by decide) ((lt_s (lt_s (lt_s (lt_s (lt_s (lt_s lt_0 w24_0) w24_1) w24_2) w24_3) w24_4) w24_5) : ∀ j : Nat, j < 6 → ¬ x2 = Int32.ofInt (0 + (j : Int)))) (by decide) ?_
                refine go_blk h.1 (is := [.bipush (-2)]) (pc' := 103) (ls' := [some (.inr (.inr (0, 0))), some (.inl x1), some (.inl x2), some (.inr (.inr (6, (ix x1))))]) (st' := [.inl (-2 : Int32)]) (m' := m5) (by decide +kernel) rfl ?_
                exact go_iret h.1 h.2.2.2.2 (by decide +kernel)
  · refine go_blk h.1 (is := [.iconst (-1)]) (pc' := 12) (ls' := [some (.inr (.inr (0, 0))), some (.inl x1), some (.inl x2), none]) (st' := [.inl (-1 : Int32)]) (m' := m5) (by decide +kernel) rfl ?_
    exact go_iret h.1 h.2.2.2.2 (by decide +kernel)
theorem ctr_X6_ofFish (Z : ZT) (x1 : Int32) (x2 : Int32) (m : Mem) : Ctr Z yX6_ofFish prog_1_method_3_code 4 (some .int) 1 puI [.inr (.inr (0, 0)), .inl x1, .inl x2] m (f_X6_ofFish x1 x2 m) :=
  ctr_of (P := P_X6) (by decide +kernel) rfl pt_X6 rfl rfl (fun X hC hZ hR h0 h1 hr => by subst hZ; exact g_X6_ofFish ⟨hC, hR, h0, h1, hr⟩ x1 x2 m)

def f_X6_dear (x1 : Int32) (m : Mem) : Option (Int32 × Mem) :=
  bnd (f_X6_isWithin x1 (0 : Int32) (9 : Int32) m) (fun r4 m4 =>
    if r4 = 0 then
      some ((-2 : Int32), m4)
    else
      if (m4 4 0 1) = 0 then
        some ((-3 : Int32), m4)
      else
        bnd (f_X3_forget (mset m4 4 0 2 x1)) (fun _ m46 =>
          some ((m4 4 0 2), m46)))
theorem g_X6_dear {X : XT} (h : MX X prog_1_method_4_code P_X6 1 (some .int)) (x1 : Int32) (m : Mem) : Go X (Em X puI) 0 [some (.inr (.inr (0, 0))), some (.inl x1), none] [] m (f_X6_dear x1 m) := by
  unfold f_X6_dear
  refine go_blk h.1 (is := [.iload_n 1, .iconst 0, .bipush 9]) (pc' := 4) (ls' := [some (.inr (.inr (0, 0))), some (.inl x1), none]) (st' := [.inl (9 : Int32), .inl (0 : Int32), .inl x1]) (m' := m) (by decide +kernel) rfl ?_
  refine go_callS h.1 (index := 111) (n := 3) (as := [.inl x1, .inl (0 : Int32), .inl (9 : Int32)]) (rest := []) (ctr_X6_isWithin (xZ X) x1 (0 : Int32) (9 : Int32) m) (by decide +kernel) wd_s_X6_111 rfl (h.room (by first | decide | omega) (by decide)) h.cl (Nat.le_of_ble_eq_true rfl) puI_ok rfl (fun r4 m4 _ => ?_)
  show Go X (Em X puI) 7 [some (.inr (.inr (0, 0))), some (.inl x1), none] [.inl r4] m4 _
  refine go_ifne h.1 (off := 6) 13 (by decide +kernel) (by decide) (fun c7 => ?_) (fun c7 => ?_)
  · refine go_blk h.1 (is := [.aload_n 0, .getfield 21, .getfield 82]) (pc' := 20) (ls' := [some (.inr (.inr (0, 0))), some (.inl x1), none]) (st' := [.inl (m4 4 0 1)]) (m' := m4) (by decide +kernel) rfl ?_
    refine go_ifne h.1 (off := 6) 26 (by decide +kernel) (by decide) (fun c20 => ?_) (fun c20 => ?_)
    · refine go_blk h.1 (is := [.aload_n 0, .getfield 21, .getfield 115, .istore_n 2, .aload_n 0, .getfield 21, .iload_n 1, .putfield 115, .aload_n 0, .getfield 35]) (pc' := 46) (ls' := [some (.inr (.inr (0, 0))), some (.inl x1), some (.inl (m4 4 0 2))]) (st' := [.inr (.inr (17, 0))]) (m' := (mset m4 4 0 2 x1)) (by decide +kernel) rfl ?_
      refine go_callV h.1 (index := 79) (n := 0) (t := 17) (i := 0) (ci := 3) (nf := 5) (cz := (RX3, TX3, 5)) (as := []) (rest := []) (ctr_X3_forget (xZ X) (mset m4 4 0 2 x1)) (by decide +kernel) rfl rfl wd_v_X6_79 rfl (h.room (by first | decide | omega) (by decide)) h.cl (Nat.le_of_ble_eq_true rfl) puV_ok rfl (fun r46 m46 _ => ?_)
      show Go X (Em X puI) 49 [some (.inr (.inr (0, 0))), some (.inl x1), some (.inl (m4 4 0 2))] [] m46 _
      refine go_blk h.1 (is := [.iload_n 2]) (pc' := 50) (ls' := [some (.inr (.inr (0, 0))), some (.inl x1), some (.inl (m4 4 0 2))]) (st' := [.inl (m4 4 0 2)]) (m' := m46) (by decide +kernel) rfl ?_
      exact go_iret h.1 h.2.2.2.2 (by decide +kernel)
    · refine go_blk h.1 (is := [.bipush (-3)]) (pc' := 25) (ls' := [some (.inr (.inr (0, 0))), some (.inl x1), none]) (st' := [.inl (-3 : Int32)]) (m' := m4) (by decide +kernel) rfl ?_
      exact go_iret h.1 h.2.2.2.2 (by decide +kernel)
  · refine go_blk h.1 (is := [.bipush (-2)]) (pc' := 12) (ls' := [some (.inr (.inr (0, 0))), some (.inl x1), none]) (st' := [.inl (-2 : Int32)]) (m' := m4) (by decide +kernel) rfl ?_
    exact go_iret h.1 h.2.2.2.2 (by decide +kernel)
theorem ctr_X6_dear (Z : ZT) (x1 : Int32) (m : Mem) : Ctr Z yX6_dear prog_1_method_4_code 3 (some .int) 1 puI [.inr (.inr (0, 0)), .inl x1] m (f_X6_dear x1 m) :=
  ctr_of (P := P_X6) (by decide +kernel) rfl pt_X6 rfl rfl (fun X hC hZ hR h0 h1 hr => by subst hZ; exact g_X6_dear ⟨hC, hR, h0, h1, hr⟩ x1 m)

def f_X6_scales (x1 : Int32) (x2 : Int32) (m : Mem) : Option (Int32 × Mem) :=
  bnd (f_X5_has x1 m) (fun r5 m5 =>
    if r5 = 0 then
      some ((-1 : Int32), m5)
    else
      bnd (f_X6_isWithin x2 (0 : Int32) (99 : Int32) m5) (fun r17 m17 =>
        if r17 = 0 then
          some ((-2 : Int32), m17)
        else
          if inB x1 5 = true then
            if inB x1 5 = true then
              bnd (f_X3_forget (mset m17 6 (ix x1) 2 x2)) (fun _ m56 =>
                some ((m17 6 (ix x1) 2), m56))
            else none
          else none))
theorem g_X6_scales {X : XT} (h : MX X prog_1_method_5_code P_X6 1 (some .int)) (x1 : Int32) (x2 : Int32) (m : Mem) : Go X (Em X puI) 0 [some (.inr (.inr (0, 0))), some (.inl x1), some (.inl x2), none] [] m (f_X6_scales x1 x2 m) := by
  unfold f_X6_scales
  refine go_blk h.1 (is := [.aload_n 0, .getfield 21, .iload_n 1]) (pc' := 5) (ls' := [some (.inr (.inr (0, 0))), some (.inl x1), some (.inl x2), none]) (st' := [.inl x1, .inr (.inr (4, 0))]) (m' := m) (by decide +kernel) rfl ?_
  refine go_callV h.1 (index := 83) (n := 1) (t := 4) (i := 0) (ci := 5) (nf := 4) (cz := (RX5, TX5, 4)) (as := [.inl x1]) (rest := []) (ctr_X5_has (xZ X) x1 m) (by decide +kernel) rfl rfl wd_v_X6_83 rfl (h.room (by first | decide | omega) (by decide)) h.cl (Nat.le_of_ble_eq_true rfl) puI_ok rfl (fun r5 m5 _ => ?_)
  show Go X (Em X puI) 8 [some (.inr (.inr (0, 0))), some (.inl x1), some (.inl x2), none] [.inl r5] m5 _
  refine go_ifne h.1 (off := 5) 13 (by decide +kernel) (by decide) (fun c8 => ?_) (fun c8 => ?_)
  · refine go_blk h.1 (is := [.iload_n 2, .iconst 0, .bipush 99]) (pc' := 17) (ls' := [some (.inr (.inr (0, 0))), some (.inl x1), some (.inl x2), none]) (st' := [.inl (99 : Int32), .inl (0 : Int32), .inl x2]) (m' := m5) (by decide +kernel) rfl ?_
    refine go_callS h.1 (index := 111) (n := 3) (as := [.inl x2, .inl (0 : Int32), .inl (99 : Int32)]) (rest := []) (ctr_X6_isWithin (xZ X) x2 (0 : Int32) (99 : Int32) m5) (by decide +kernel) wd_s_X6_111 rfl (h.room (by first | decide | omega) (by decide)) h.cl (Nat.le_of_ble_eq_true rfl) puI_ok rfl (fun r17 m17 _ => ?_)
    show Go X (Em X puI) 20 [some (.inr (.inr (0, 0))), some (.inl x1), some (.inl x2), none] [.inl r17] m17 _
    refine go_ifne h.1 (off := 6) 26 (by decide +kernel) (by decide) (fun c20 => ?_) (fun c20 => ?_)
    · refine go_blk h.1 (is := [.aload_n 0, .getfield 21, .getfield 86, .iload_n 1]) (pc' := 34) (ls' := [some (.inr (.inr (0, 0))), some (.inl x1), some (.inl x2), none]) (st' := [.inl x1, .inr (.inr (5, 0))]) (m' := m17) (by decide +kernel) rfl ?_
      refine go_aald h.1 (kd := 1) (z := (6, (ix x1))) (by decide +kernel) rfl rfl (by decide) rfl (fun b34 => ?_)
      refine go_blk h.1 (is := [.getfield 98, .istore_n 3, .aload_n 0, .getfield 21, .getfield 86, .iload_n 1]) (pc' := 47) (ls' := [some (.inr (.inr (0, 0))), some (.inl x1), some (.inl x2), some (.inl (m17 6 (ix x1) 2))]) (st' := [.inl x1, .inr (.inr (5, 0))]) (m' := m17) (by decide +kernel) rfl ?_
      refine go_aald h.1 (kd := 1) (z := (6, (ix x1))) (by decide +kernel) rfl rfl (by decide) rfl (fun b47 => ?_)
      refine go_blk h.1 (is := [.iload_n 2, .putfield 98, .aload_n 0, .getfield 35]) (pc' := 56) (ls' := [some (.inr (.inr (0, 0))), some (.inl x1), some (.inl x2), some (.inl (m17 6 (ix x1) 2))]) (st' := [.inr (.inr (17, 0))]) (m' := (mset m17 6 (ix x1) 2 x2)) (by decide +kernel) rfl ?_
      refine go_callV h.1 (index := 79) (n := 0) (t := 17) (i := 0) (ci := 3) (nf := 5) (cz := (RX3, TX3, 5)) (as := []) (rest := []) (ctr_X3_forget (xZ X) (mset m17 6 (ix x1) 2 x2)) (by decide +kernel) rfl rfl wd_v_X6_79 rfl (h.room (by first | decide | omega) (by decide)) h.cl (Nat.le_of_ble_eq_true rfl) puV_ok rfl (fun r56 m56 _ => ?_)
      show Go X (Em X puI) 59 [some (.inr (.inr (0, 0))), some (.inl x1), some (.inl x2), some (.inl (m17 6 (ix x1) 2))] [] m56 _
      refine go_blk h.1 (is := [.iload_n 3]) (pc' := 60) (ls' := [some (.inr (.inr (0, 0))), some (.inl x1), some (.inl x2), some (.inl (m17 6 (ix x1) 2))]) (st' := [.inl (m17 6 (ix x1) 2)]) (m' := m56) (by decide +kernel) rfl ?_
      exact go_iret h.1 h.2.2.2.2 (by decide +kernel)
    · refine go_blk h.1 (is := [.bipush (-2)]) (pc' := 25) (ls' := [some (.inr (.inr (0, 0))), some (.inl x1), some (.inl x2), none]) (st' := [.inl (-2 : Int32)]) (m' := m17) (by decide +kernel) rfl ?_
      exact go_iret h.1 h.2.2.2.2 (by decide +kernel)
  · refine go_blk h.1 (is := [.iconst (-1)]) (pc' := 12) (ls' := [some (.inr (.inr (0, 0))), some (.inl x1), some (.inl x2), none]) (st' := [.inl (-1 : Int32)]) (m' := m5) (by decide +kernel) rfl ?_
    exact go_iret h.1 h.2.2.2.2 (by decide +kernel)
theorem ctr_X6_scales (Z : ZT) (x1 : Int32) (x2 : Int32) (m : Mem) : Ctr Z yX6_scales prog_1_method_5_code 4 (some .int) 1 puI [.inr (.inr (0, 0)), .inl x1, .inl x2] m (f_X6_scales x1 x2 m) :=
  ctr_of (P := P_X6) (by decide +kernel) rfl pt_X6 rfl rfl (fun X hC hZ hR h0 h1 hr => by subst hZ; exact g_X6_scales ⟨hC, hR, h0, h1, hr⟩ x1 x2 m)

def f_X6_hear (x1 : Int32) (m : Mem) : Option (Int32 × Mem) :=
  bnd (f_X6_isWithin x1 (0 : Int32) (63 : Int32) m) (fun r4 m4 =>
    if r4 = 0 then
      some ((-2 : Int32), m4)
    else
      if (m4 4 0 1) = 0 then
        some ((-3 : Int32), m4)
      else
        bnd (f_X3_forget (mset m4 4 0 3 x1)) (fun _ m46 =>
          some ((m4 4 0 3), m46)))
theorem g_X6_hear {X : XT} (h : MX X prog_1_method_6_code P_X6 1 (some .int)) (x1 : Int32) (m : Mem) : Go X (Em X puI) 0 [some (.inr (.inr (0, 0))), some (.inl x1), none] [] m (f_X6_hear x1 m) := by
  unfold f_X6_hear
  refine go_blk h.1 (is := [.iload_n 1, .iconst 0, .bipush 63]) (pc' := 4) (ls' := [some (.inr (.inr (0, 0))), some (.inl x1), none]) (st' := [.inl (63 : Int32), .inl (0 : Int32), .inl x1]) (m' := m) (by decide +kernel) rfl ?_
  refine go_callS h.1 (index := 111) (n := 3) (as := [.inl x1, .inl (0 : Int32), .inl (63 : Int32)]) (rest := []) (ctr_X6_isWithin (xZ X) x1 (0 : Int32) (63 : Int32) m) (by decide +kernel) wd_s_X6_111 rfl (h.room (by first | decide | omega) (by decide)) h.cl (Nat.le_of_ble_eq_true rfl) puI_ok rfl (fun r4 m4 _ => ?_)
  show Go X (Em X puI) 7 [some (.inr (.inr (0, 0))), some (.inl x1), none] [.inl r4] m4 _
  refine go_ifne h.1 (off := 6) 13 (by decide +kernel) (by decide) (fun c7 => ?_) (fun c7 => ?_)
  · refine go_blk h.1 (is := [.aload_n 0, .getfield 21, .getfield 82]) (pc' := 20) (ls' := [some (.inr (.inr (0, 0))), some (.inl x1), none]) (st' := [.inl (m4 4 0 1)]) (m' := m4) (by decide +kernel) rfl ?_
    refine go_ifne h.1 (off := 6) 26 (by decide +kernel) (by decide) (fun c20 => ?_) (fun c20 => ?_)
    · refine go_blk h.1 (is := [.aload_n 0, .getfield 21, .getfield 118, .istore_n 2, .aload_n 0, .getfield 21, .iload_n 1, .putfield 118, .aload_n 0, .getfield 35]) (pc' := 46) (ls' := [some (.inr (.inr (0, 0))), some (.inl x1), some (.inl (m4 4 0 3))]) (st' := [.inr (.inr (17, 0))]) (m' := (mset m4 4 0 3 x1)) (by decide +kernel) rfl ?_
      refine go_callV h.1 (index := 79) (n := 0) (t := 17) (i := 0) (ci := 3) (nf := 5) (cz := (RX3, TX3, 5)) (as := []) (rest := []) (ctr_X3_forget (xZ X) (mset m4 4 0 3 x1)) (by decide +kernel) rfl rfl wd_v_X6_79 rfl (h.room (by first | decide | omega) (by decide)) h.cl (Nat.le_of_ble_eq_true rfl) puV_ok rfl (fun r46 m46 _ => ?_)
      show Go X (Em X puI) 49 [some (.inr (.inr (0, 0))), some (.inl x1), some (.inl (m4 4 0 3))] [] m46 _
      refine go_blk h.1 (is := [.iload_n 2]) (pc' := 50) (ls' := [some (.inr (.inr (0, 0))), some (.inl x1), some (.inl (m4 4 0 3))]) (st' := [.inl (m4 4 0 3)]) (m' := m46) (by decide +kernel) rfl ?_
      exact go_iret h.1 h.2.2.2.2 (by decide +kernel)
    · refine go_blk h.1 (is := [.bipush (-3)]) (pc' := 25) (ls' := [some (.inr (.inr (0, 0))), some (.inl x1), none]) (st' := [.inl (-3 : Int32)]) (m' := m4) (by decide +kernel) rfl ?_
      exact go_iret h.1 h.2.2.2.2 (by decide +kernel)
  · refine go_blk h.1 (is := [.bipush (-2)]) (pc' := 12) (ls' := [some (.inr (.inr (0, 0))), some (.inl x1), none]) (st' := [.inl (-2 : Int32)]) (m' := m4) (by decide +kernel) rfl ?_
    exact go_iret h.1 h.2.2.2.2 (by decide +kernel)
theorem ctr_X6_hear (Z : ZT) (x1 : Int32) (m : Mem) : Ctr Z yX6_hear prog_1_method_6_code 3 (some .int) 1 puI [.inr (.inr (0, 0)), .inl x1] m (f_X6_hear x1 m) :=
  ctr_of (P := P_X6) (by decide +kernel) rfl pt_X6 rfl rfl (fun X hC hZ hR h0 h1 hr => by subst hZ; exact g_X6_hear ⟨hC, hR, h0, h1, hr⟩ x1 m)
end
section
/-! ===== printed by wip/p31/tr.py out of the listing ===== -/
def f_X6_refusalOf_b85 (x1 : Int32) (x3 : Int32) (x4 : Int32) (next : Int32 × Mem → Option (Int32 × Mem)) (exit : Mem → Option (Int32 × Mem)) (s : Int32 × Mem) : Option (Int32 × Mem) :=
  if x4 ≤ s.1 then
    exit (s.2)
  else
    if inB x1 4 = true then
      bnd (f_X4_at (ix x1) (x3 + ((2 : Int32) * s.1)) s.2) (fun r108 m108 =>
        bnd (f_X5_has r108 m108) (fun r111 m111 =>
          if r111 = 0 then
            some ((-1 : Int32), m111)
          else
            if inB x1 4 = true then
              bnd (f_X4_at (ix x1) ((x3 + ((2 : Int32) * s.1)) + (1 : Int32)) m111) (fun r133 m133 =>
                bnd (f_X6_isWithin r133 (0 : Int32) (3 : Int32) m133) (fun r138 m138 =>
                  if r138 = 0 then
                    some ((-2 : Int32), m138)
                  else
                    next ((s.1 + (1 : Int32)), m138)))
            else none))
    else none
theorem g_X6_refusalOf_b85 {X : XT} (h : MX X prog_1_method_39_code P_X6 2 (some .int)) (x1 : Int32) (x3 : Int32) (x4 : Int32) (next : Int32 × Mem → Option (Int32 × Mem)) (exit : Mem → Option (Int32 × Mem)) (hn : ∀ (y7 : Int32) (n : Mem) (o2 : Option AV) (o5 : Option AV) (o6 : Option AV), Go X (Em X puI) 85 [some (.inr (.inr (0, 0))), some (.inl x1), o2, some (.inl x3), some (.inl x4), o5, o6, some (.inl y7)] [] n (next (y7, n))) (hx : ∀ (n : Mem) (o0 : Option AV) (o1 : Option AV) (o2 : Option AV) (o3 : Option AV) (o4 : Option AV) (o5 : Option AV) (o6 : Option AV) (o7 : Option AV), Go X (Em X puI) 153 [o0, o1, o2, o3, o4, o5, o6, o7] [] n (exit (n))) (s : Int32 × Mem) (o2 : Option AV) (o5 : Option AV) (o6 : Option AV) : Go X (Em X puI) 85 [some (.inr (.inr (0, 0))), some (.inl x1), o2, some (.inl x3), some (.inl x4), o5, o6, some (.inl s.1)] [] s.2 (f_X6_refusalOf_b85 x1 x3 x4 next exit s) := by
  unfold f_X6_refusalOf_b85
  refine go_blk h.1 (is := [.iload 7, .iload 4]) (pc' := 89) (ls' := [some (.inr (.inr (0, 0))), some (.inl x1), o2, some (.inl x3), some (.inl x4), o5, o6, some (.inl s.1)]) (st' := [.inl x4, .inl s.1]) (m' := s.2) (by decide +kernel) rfl ?_
  refine go_icmpge h.1 (off := 64) 153 (by decide +kernel) (by decide) (fun c89 => ?_) (fun c89 => ?_)
  · exact hx s.2 (some (.inr (.inr (0, 0)))) (some (.inl x1)) (o2) (some (.inl x3)) (some (.inl x4)) (o5) (o6) (some (.inl s.1))
  · refine go_blk h.1 (is := [.aload_n 0, .getfield 21, .aload_n 0, .getfield 13, .iload_n 1]) (pc' := 101) (ls' := [some (.inr (.inr (0, 0))), some (.inl x1), o2, some (.inl x3), some (.inl x4), o5, o6, some (.inl s.1)]) (st' := [.inl x1, .inr (.inr (1, 0)), .inr (.inr (4, 0))]) (m' := s.2) (by decide +kernel) rfl ?_
    refine go_aald h.1 (kd := 0) (z := (2, (ix x1))) (by decide +kernel) rfl rfl (by decide) rfl (fun b101 => ?_)
    refine go_blk h.1 (is := [.iload_n 3, .iconst 2, .iload 7, .imul, .iadd]) (pc' := 108) (ls' := [some (.inr (.inr (0, 0))), some (.inl x1), o2, some (.inl x3), some (.inl x4), o5, o6, some (.inl s.1)]) (st' := [.inl (x3 + ((2 : Int32) * s.1)), .inr (.inr (2, (ix x1))), .inr (.inr (4, 0))]) (m' := s.2) (by decide +kernel) rfl ?_
    refine go_callV h.1 (index := 207) (n := 1) (t := 2) (i := (ix x1)) (ci := 4) (nf := 4) (cz := (RX4, TX4, 4)) (as := [.inl (x3 + ((2 : Int32) * s.1))]) (rest := [.inr (.inr (4, 0))]) (ctr_X4_at (xZ X) (ix x1) (x3 + ((2 : Int32) * s.1)) s.2) (by decide +kernel) rfl rfl wd_v_X6_207 rfl (h.room (by first | decide | omega) (by decide)) h.cl (Nat.le_of_ble_eq_true rfl) puI_ok rfl (fun r108 m108 _ => ?_)
    show Go X (Em X puI) 111 [some (.inr (.inr (0, 0))), some (.inl x1), o2, some (.inl x3), some (.inl x4), o5, o6, some (.inl s.1)] [.inl r108, .inr (.inr (4, 0))] m108 _
    refine go_callV h.1 (index := 83) (n := 1) (t := 4) (i := 0) (ci := 5) (nf := 4) (cz := (RX5, TX5, 4)) (as := [.inl r108]) (rest := []) (ctr_X5_has (xZ X) r108 m108) (by decide +kernel) rfl rfl wd_v_X6_83 rfl (h.room (by first | decide | omega) (by decide)) h.cl (Nat.le_of_ble_eq_true rfl) puI_ok rfl (fun r111 m111 _ => ?_)
    show Go X (Em X puI) 114 [some (.inr (.inr (0, 0))), some (.inl x1), o2, some (.inl x3), some (.inl x4), o5, o6, some (.inl s.1)] [.inl r111] m111 _
    refine go_ifne h.1 (off := 5) 119 (by decide +kernel) (by decide) (fun c114 => ?_) (fun c114 => ?_)
    · refine go_blk h.1 (is := [.aload_n 0, .getfield 13, .iload_n 1]) (pc' := 124) (ls' := [some (.inr (.inr (0, 0))), some (.inl x1), o2, some (.inl x3), some (.inl x4), o5, o6, some (.inl s.1)]) (st' := [.inl x1, .inr (.inr (1, 0))]) (m' := m111) (by decide +kernel) rfl ?_
      refine go_aald h.1 (kd := 0) (z := (2, (ix x1))) (by decide +kernel) rfl rfl (by decide) rfl (fun b124 => ?_)
      refine go_blk h.1 (is := [.iload_n 3, .iconst 2, .iload 7, .imul, .iadd, .iconst 1, .iadd]) (pc' := 133) (ls' := [some (.inr (.inr (0, 0))), some (.inl x1), o2, some (.inl x3), some (.inl x4), o5, o6, some (.inl s.1)]) (st' := [.inl ((x3 + ((2 : Int32) * s.1)) + (1 : Int32)), .inr (.inr (2, (ix x1)))]) (m' := m111) (by decide +kernel) rfl ?_
      refine go_callV h.1 (index := 207) (n := 1) (t := 2) (i := (ix x1)) (ci := 4) (nf := 4) (cz := (RX4, TX4, 4)) (as := [.inl ((x3 + ((2 : Int32) * s.1)) + (1 : Int32))]) (rest := []) (ctr_X4_at (xZ X) (ix x1) ((x3 + ((2 : Int32) * s.1)) + (1 : Int32)) m111) (by decide +kernel) rfl rfl wd_v_X6_207 rfl (h.room (by first | decide | omega) (by decide)) h.cl (Nat.le_of_ble_eq_true rfl) puI_ok rfl (fun r133 m133 _ => ?_)
      show Go X (Em X puI) 136 [some (.inr (.inr (0, 0))), some (.inl x1), o2, some (.inl x3), some (.inl x4), o5, o6, some (.inl s.1)] [.inl r133] m133 _
      refine go_blk h.1 (is := [.iconst 0, .iconst 3]) (pc' := 138) (ls' := [some (.inr (.inr (0, 0))), some (.inl x1), o2, some (.inl x3), some (.inl x4), o5, o6, some (.inl s.1)]) (st' := [.inl (3 : Int32), .inl (0 : Int32), .inl r133]) (m' := m133) (by decide +kernel) rfl ?_
      refine go_callS h.1 (index := 111) (n := 3) (as := [.inl r133, .inl (0 : Int32), .inl (3 : Int32)]) (rest := []) (ctr_X6_isWithin (xZ X) r133 (0 : Int32) (3 : Int32) m133) (by decide +kernel) wd_s_X6_111 rfl (h.room (by first | decide | omega) (by decide)) h.cl (Nat.le_of_ble_eq_true rfl) puI_ok rfl (fun r138 m138 _ => ?_)
      show Go X (Em X puI) 141 [some (.inr (.inr (0, 0))), some (.inl x1), o2, some (.inl x3), some (.inl x4), o5, o6, some (.inl s.1)] [.inl r138] m138 _
      refine go_ifne h.1 (off := 6) 147 (by decide +kernel) (by decide) (fun c141 => ?_) (fun c141 => ?_)
      · refine go_blk h.1 (is := [.iinc 7 1]) (pc' := 150) (ls' := [some (.inr (.inr (0, 0))), some (.inl x1), o2, some (.inl x3), some (.inl x4), o5, (clrL o6), some (.inl (s.1 + (1 : Int32)))]) (st' := []) (m' := m138) (by decide +kernel) rfl ?_
        refine go_goto h.1 (off := -65) 85 (by decide +kernel) (by decide) ?_
        exact hn (s.1 + (1 : Int32)) m138 (o2) (o5) ((clrL o6))
      · refine go_blk h.1 (is := [.bipush (-2)]) (pc' := 146) (ls' := [some (.inr (.inr (0, 0))), some (.inl x1), o2, some (.inl x3), some (.inl x4), o5, o6, some (.inl s.1)]) (st' := [.inl (-2 : Int32)]) (m' := m138) (by decide +kernel) rfl ?_
        exact go_iret h.1 h.2.2.2.2 (by decide +kernel)
    · refine go_blk h.1 (is := [.iconst (-1)]) (pc' := 118) (ls' := [some (.inr (.inr (0, 0))), some (.inl x1), o2, some (.inl x3), some (.inl x4), o5, o6, some (.inl s.1)]) (st' := [.inl (-1 : Int32)]) (m' := m111) (by decide +kernel) rfl ?_
      exact go_iret h.1 h.2.2.2.2 (by decide +kernel)

def f_X6_refusalOf (x1 : Int32) (x2 : Int32) (x3 : Int32) (x4 : Int32) (x5 : Int32) (m : Mem) : Option (Int32 × Mem) :=
  bnd (f_X6_isSheet x1 (mset m 0 0 6 (0 : Int32))) (fun r6 m6 =>
    if r6 = 0 then
      some ((-1 : Int32), m6)
    else
      bnd (f_X6_isLane x2 m6) (fun r15 m15 =>
        if r15 = 0 then
          some ((-2 : Int32), m15)
        else
          bnd (f_X6_isWithin x4 (0 : Int32) (20 : Int32) m15) (fun r26 m26 =>
            if r26 = 0 then
              some ((-2 : Int32), m26)
            else
              if x5 = 0 then
                some ((-2 : Int32), m26)
              else
                if inB x1 4 = true then
                  bnd (f_X4_faultAt (ix x1) x2 x3 ((2 : Int32) * x4) m26) (fun r52 m52 =>
                    if r52 = 0 then
                      if (m52 4 0 1) = 0 then
                        some ((-3 : Int32), m52)
                      else
                        lpk (f_X6_refusalOf_b85 x1 x3 x4) fuelN ((0 : Int32), m52) (fun t85 =>
                          some ((0 : Int32), t85))
                    else
                      bnd (f_X6_faulty r52 m52) (fun r65 m65 =>
                        some (r65, m65)))
                else none)))
theorem g_X6_refusalOf {X : XT} (h : MX X prog_1_method_39_code P_X6 2 (some .int)) (x1 : Int32) (x2 : Int32) (x3 : Int32) (x4 : Int32) (x5 : Int32) (m : Mem) : Go X (Em X puI) 0 [some (.inr (.inr (0, 0))), some (.inl x1), some (.inl x2), some (.inl x3), some (.inl x4), some (.inl x5), none, none] [] m (f_X6_refusalOf x1 x2 x3 x4 x5 m) := by
  unfold f_X6_refusalOf
  refine go_blk h.1 (is := [.aload_n 0, .iconst 0, .putfield 50, .iload_n 1]) (pc' := 6) (ls' := [some (.inr (.inr (0, 0))), some (.inl x1), some (.inl x2), some (.inl x3), some (.inl x4), some (.inl x5), none, none]) (st' := [.inl x1]) (m' := (mset m 0 0 6 (0 : Int32))) (by decide +kernel) rfl ?_
  refine go_callS h.1 (index := 53) (n := 1) (as := [.inl x1]) (rest := []) (ctr_X6_isSheet (xZ X) x1 (mset m 0 0 6 (0 : Int32))) (by decide +kernel) wd_s_X6_53 rfl (h.room (by first | decide | omega) (by decide)) h.cl (Nat.le_of_ble_eq_true rfl) puI_ok rfl (fun r6 m6 _ => ?_)
  show Go X (Em X puI) 9 [some (.inr (.inr (0, 0))), some (.inl x1), some (.inl x2), some (.inl x3), some (.inl x4), some (.inl x5), none, none] [.inl r6] m6 _
  refine go_ifne h.1 (off := 5) 14 (by decide +kernel) (by decide) (fun c9 => ?_) (fun c9 => ?_)
  · refine go_blk h.1 (is := [.iload_n 2]) (pc' := 15) (ls' := [some (.inr (.inr (0, 0))), some (.inl x1), some (.inl x2), some (.inl x3), some (.inl x4), some (.inl x5), none, none]) (st' := [.inl x2]) (m' := m6) (by decide +kernel) rfl ?_
    refine go_callS h.1 (index := 57) (n := 1) (as := [.inl x2]) (rest := []) (ctr_X6_isLane (xZ X) x2 m6) (by decide +kernel) wd_s_X6_57 rfl (h.room (by first | decide | omega) (by decide)) h.cl (Nat.le_of_ble_eq_true rfl) puI_ok rfl (fun r15 m15 _ => ?_)
    show Go X (Em X puI) 18 [some (.inr (.inr (0, 0))), some (.inl x1), some (.inl x2), some (.inl x3), some (.inl x4), some (.inl x5), none, none] [.inl r15] m15 _
    refine go_ifeq h.1 (off := 19) 37 (by decide +kernel) (by decide) (fun c18 => ?_) (fun c18 => ?_)
    · refine go_blk h.1 (is := [.bipush (-2)]) (pc' := 39) (ls' := [some (.inr (.inr (0, 0))), some (.inl x1), some (.inl x2), some (.inl x3), some (.inl x4), some (.inl x5), none, none]) (st' := [.inl (-2 : Int32)]) (m' := m15) (by decide +kernel) rfl ?_
      exact go_iret h.1 h.2.2.2.2 (by decide +kernel)
    · refine go_blk h.1 (is := [.iload 4, .iconst 0, .bipush 20]) (pc' := 26) (ls' := [some (.inr (.inr (0, 0))), some (.inl x1), some (.inl x2), some (.inl x3), some (.inl x4), some (.inl x5), none, none]) (st' := [.inl (20 : Int32), .inl (0 : Int32), .inl x4]) (m' := m15) (by decide +kernel) rfl ?_
      refine go_callS h.1 (index := 111) (n := 3) (as := [.inl x4, .inl (0 : Int32), .inl (20 : Int32)]) (rest := []) (ctr_X6_isWithin (xZ X) x4 (0 : Int32) (20 : Int32) m15) (by decide +kernel) wd_s_X6_111 rfl (h.room (by first | decide | omega) (by decide)) h.cl (Nat.le_of_ble_eq_true rfl) puI_ok rfl (fun r26 m26 _ => ?_)
      show Go X (Em X puI) 29 [some (.inr (.inr (0, 0))), some (.inl x1), some (.inl x2), some (.inl x3), some (.inl x4), some (.inl x5), none, none] [.inl r26] m26 _
      refine go_ifeq h.1 (off := 8) 37 (by decide +kernel) (by decide) (fun c29 => ?_) (fun c29 => ?_)
      · refine go_blk h.1 (is := [.bipush (-2)]) (pc' := 39) (ls' := [some (.inr (.inr (0, 0))), some (.inl x1), some (.inl x2), some (.inl x3), some (.inl x4), some (.inl x5), none, none]) (st' := [.inl (-2 : Int32)]) (m' := m26) (by decide +kernel) rfl ?_
        exact go_iret h.1 h.2.2.2.2 (by decide +kernel)
      · refine go_blk h.1 (is := [.iload 5]) (pc' := 34) (ls' := [some (.inr (.inr (0, 0))), some (.inl x1), some (.inl x2), some (.inl x3), some (.inl x4), some (.inl x5), none, none]) (st' := [.inl x5]) (m' := m26) (by decide +kernel) rfl ?_
        refine go_ifne h.1 (off := 6) 40 (by decide +kernel) (by decide) (fun c34 => ?_) (fun c34 => ?_)
        · refine go_blk h.1 (is := [.aload_n 0, .getfield 13, .iload_n 1]) (pc' := 45) (ls' := [some (.inr (.inr (0, 0))), some (.inl x1), some (.inl x2), some (.inl x3), some (.inl x4), some (.inl x5), none, none]) (st' := [.inl x1, .inr (.inr (1, 0))]) (m' := m26) (by decide +kernel) rfl ?_
          refine go_aald h.1 (kd := 0) (z := (2, (ix x1))) (by decide +kernel) rfl rfl (by decide) rfl (fun b45 => ?_)
          refine go_blk h.1 (is := [.iload_n 2, .iload_n 3, .iconst 2, .iload 4, .imul]) (pc' := 52) (ls' := [some (.inr (.inr (0, 0))), some (.inl x1), some (.inl x2), some (.inl x3), some (.inl x4), some (.inl x5), none, none]) (st' := [.inl ((2 : Int32) * x4), .inl x3, .inl x2, .inr (.inr (2, (ix x1)))]) (m' := m26) (by decide +kernel) rfl ?_
          refine go_callV h.1 (index := 60) (n := 3) (t := 2) (i := (ix x1)) (ci := 4) (nf := 4) (cz := (RX4, TX4, 4)) (as := [.inl x2, .inl x3, .inl ((2 : Int32) * x4)]) (rest := []) (ctr_X4_faultAt (xZ X) (ix x1) x2 x3 ((2 : Int32) * x4) m26) (by decide +kernel) rfl rfl wd_v_X6_60 rfl (h.room (by first | decide | omega) (by decide)) h.cl (Nat.le_of_ble_eq_true rfl) puI_ok rfl (fun r52 m52 _ => ?_)
          show Go X (Em X puI) 55 [some (.inr (.inr (0, 0))), some (.inl x1), some (.inl x2), some (.inl x3), some (.inl x4), some (.inl x5), none, none] [.inl r52] m52 _
          refine go_blk h.1 (is := [.istore 6, .iload 6]) (pc' := 59) (ls' := [some (.inr (.inr (0, 0))), some (.inl x1), some (.inl x2), some (.inl x3), some (.inl x4), some (.inl x5), some (.inl r52), none]) (st' := [.inl r52]) (m' := m52) (by decide +kernel) rfl ?_
          refine go_ifeq h.1 (off := 10) 69 (by decide +kernel) (by decide) (fun c59 => ?_) (fun c59 => ?_)
          · refine go_blk h.1 (is := [.aload_n 0, .getfield 21, .getfield 82]) (pc' := 76) (ls' := [some (.inr (.inr (0, 0))), some (.inl x1), some (.inl x2), some (.inl x3), some (.inl x4), some (.inl x5), some (.inl r52), none]) (st' := [.inl (m52 4 0 1)]) (m' := m52) (by decide +kernel) rfl ?_
            refine go_ifne h.1 (off := 6) 82 (by decide +kernel) (by decide) (fun c76 => ?_) (fun c76 => ?_)
            · refine go_blk h.1 (is := [.iconst 0, .istore 7]) (pc' := 85) (ls' := [some (.inr (.inr (0, 0))), some (.inl x1), some (.inl x2), some (.inl x3), some (.inl x4), some (.inl x5), some (.inl r52), some (.inl (0 : Int32))]) (st' := []) (m' := m52) (by decide +kernel) rfl ?_
              refine go_lp1 (hd := fun (y7 : Int32) (n : Mem) o => ∀ (o2 : Option AV) (o5 : Option AV) (o6 : Option AV), Go X (Em X puI) 85 [some (.inr (.inr (0, 0))), some (.inl x1), o2, some (.inl x3), some (.inl x4), o5, o6, some (.inl y7)] [] n o) (fun _ _ _ _ _ => go_none) (fun y7 n nx_ hn_ => g_X6_refusalOf_b85 h x1 x3 x4 nx_ _ hn_ (fun z_85 o0_85 o1_85 o2_85 o3_85 o4_85 o5_85 o6_85 o7_85 => ?_) (y7, n)) fuelN (0 : Int32) m52 (some (.inl x2)) (some (.inl x5)) (some (.inl r52))
              refine go_blk h.1 (is := [.iconst 0]) (pc' := 154) (ls' := [o0_85, o1_85, o2_85, o3_85, o4_85, o5_85, o6_85, o7_85]) (st' := [.inl (0 : Int32)]) (m' := z_85) (by decide +kernel) rfl ?_
              exact go_iret h.1 h.2.2.2.2 (by decide +kernel)
            · refine go_blk h.1 (is := [.bipush (-3)]) (pc' := 81) (ls' := [some (.inr (.inr (0, 0))), some (.inl x1), some (.inl x2), some (.inl x3), some (.inl x4), some (.inl x5), some (.inl r52), none]) (st' := [.inl (-3 : Int32)]) (m' := m52) (by decide +kernel) rfl ?_
              exact go_iret h.1 h.2.2.2.2 (by decide +kernel)
          · refine go_blk h.1 (is := [.aload_n 0, .iload 6]) (pc' := 65) (ls' := [some (.inr (.inr (0, 0))), some (.inl x1), some (.inl x2), some (.inl x3), some (.inl x4), some (.inl x5), some (.inl r52), none]) (st' := [.inl r52, .inr (.inr (0, 0))]) (m' := m52) (by decide +kernel) rfl ?_
            refine go_callV h.1 (index := 64) (n := 1) (t := 0) (i := 0) (ci := 6) (nf := 7) (cz := (RX6, TX6, 7)) (as := [.inl r52]) (rest := []) (ctr_X6_faulty (xZ X) r52 m52) (by decide +kernel) rfl rfl wd_v_X6_64 rfl (h.room (by first | decide | omega) (by decide)) h.cl (Nat.le_of_ble_eq_true rfl) puI_ok rfl (fun r65 m65 _ => ?_)
            show Go X (Em X puI) 68 [some (.inr (.inr (0, 0))), some (.inl x1), some (.inl x2), some (.inl x3), some (.inl x4), some (.inl x5), some (.inl r52), none] [.inl r65] m65 _
            exact go_iret h.1 h.2.2.2.2 (by decide +kernel)
        · refine go_blk h.1 (is := [.bipush (-2)]) (pc' := 39) (ls' := [some (.inr (.inr (0, 0))), some (.inl x1), some (.inl x2), some (.inl x3), some (.inl x4), some (.inl x5), none, none]) (st' := [.inl (-2 : Int32)]) (m' := m26) (by decide +kernel) rfl ?_
          exact go_iret h.1 h.2.2.2.2 (by decide +kernel)
  · refine go_blk h.1 (is := [.iconst (-1)]) (pc' := 13) (ls' := [some (.inr (.inr (0, 0))), some (.inl x1), some (.inl x2), some (.inl x3), some (.inl x4), some (.inl x5), none, none]) (st' := [.inl (-1 : Int32)]) (m' := m6) (by decide +kernel) rfl ?_
    exact go_iret h.1 h.2.2.2.2 (by decide +kernel)
theorem ctr_X6_refusalOf (Z : ZT) (x1 : Int32) (x2 : Int32) (x3 : Int32) (x4 : Int32) (x5 : Int32) (m : Mem) : Ctr Z yX6_refusalOf prog_1_method_39_code 8 (some .int) 2 puI [.inr (.inr (0, 0)), .inl x1, .inl x2, .inl x3, .inl x4, .inl x5] m (f_X6_refusalOf x1 x2 x3 x4 x5 m) :=
  ctr_of (P := P_X6) (by decide +kernel) rfl pt_X6 rfl rfl (fun X hC hZ hR h0 h1 hr => by subst hZ; exact g_X6_refusalOf ⟨hC, hR, h0, h1, hr⟩ x1 x2 x3 x4 x5 m)

def f_J7_fill_53178_t14_b5 (w : Nat) (x1 : Int32) (x3 : Int32) (next : Int32 × Mem → Option (Unit × Mem)) (exit : Mem → Option (Unit × Mem)) (s : Int32 × Mem) : Option (Unit × Mem) :=
  if x3 ≤ s.1 then
    exit (s.2)
  else
    if inB s.1 5 = true then
      next ((s.1 + (1 : Int32)), (mset s.2 14 w (ix s.1) x1))
    else none
theorem g_J7_fill_53178_t14_b5 {X : XT} (h : MX X prog_11_method_103_code P_J7 0 none) (w : Nat) (x1 : Int32) (x3 : Int32) (next : Int32 × Mem → Option (Unit × Mem)) (exit : Mem → Option (Unit × Mem)) (hn : ∀ (y2 : Int32) (n : Mem), Go X (Em X puV) 5 [some (.inr (.inr (14, w))), some (.inl x1), some (.inl y2), some (.inl x3)] [] n (next (y2, n))) (hx : ∀ (n : Mem) (o0 : Option AV) (o1 : Option AV) (o2 : Option AV) (o3 : Option AV), Go X (Em X puV) 20 [o0, o1, o2, o3] [] n (exit (n))) (s : Int32 × Mem) : Go X (Em X puV) 5 [some (.inr (.inr (14, w))), some (.inl x1), some (.inl s.1), some (.inl x3)] [] s.2 (f_J7_fill_53178_t14_b5 w x1 x3 next exit s) := by
  unfold f_J7_fill_53178_t14_b5
  refine go_blk h.1 (is := [.iload_n 2, .iload_n 3]) (pc' := 7) (ls' := [some (.inr (.inr (14, w))), some (.inl x1), some (.inl s.1), some (.inl x3)]) (st' := [.inl x3, .inl s.1]) (m' := s.2) (by decide +kernel) rfl ?_
  refine go_icmpge h.1 (off := 13) 20 (by decide +kernel) (by decide) (fun c7 => ?_) (fun c7 => ?_)
  · exact hx s.2 (some (.inr (.inr (14, w)))) (some (.inl x1)) (some (.inl s.1)) (some (.inl x3))
  · refine go_blk h.1 (is := [.aload_n 0, .iload_n 2, .iload_n 1]) (pc' := 13) (ls' := [some (.inr (.inr (14, w))), some (.inl x1), some (.inl s.1), some (.inl x3)]) (st' := [.inl x1, .inl s.1, .inr (.inr (14, w))]) (m' := s.2) (by decide +kernel) rfl ?_
    refine go_iast h.1 (by decide +kernel) rfl rfl (fun b13 => ?_)
    refine go_blk h.1 (is := [.iinc 2 1]) (pc' := 17) (ls' := [some (.inr (.inr (14, w))), some (.inl x1), some (.inl (s.1 + (1 : Int32))), some (.inl x3)]) (st' := []) (m' := (mset s.2 14 w (ix s.1) x1)) (by decide +kernel) rfl ?_
    refine go_goto h.1 (off := -12) 5 (by decide +kernel) (by decide) ?_
    exact hn (s.1 + (1 : Int32)) (mset s.2 14 w (ix s.1) x1)

def f_J7_fill_53178_t14 (w : Nat) (x1 : Int32) (m : Mem) : Option (Unit × Mem) :=
  lpk (f_J7_fill_53178_t14_b5 w x1 (5 : Int32)) fuelN ((0 : Int32), m) (fun t5 =>
    some ((), t5))
theorem g_J7_fill_53178_t14 {X : XT} (h : MX X prog_11_method_103_code P_J7 0 none) (w : Nat) (x1 : Int32) (m : Mem) : Go X (Em X puV) 0 [some (.inr (.inr (14, w))), some (.inl x1), none, none] [] m (f_J7_fill_53178_t14 w x1 m) := by
  unfold f_J7_fill_53178_t14
  refine go_blk h.1 (is := [.iconst 0, .istore_n 2, .aload_n 0]) (pc' := 3) (ls' := [some (.inr (.inr (14, w))), some (.inl x1), some (.inl (0 : Int32)), none]) (st' := [.inr (.inr (14, w))]) (m' := m) (by decide +kernel) rfl ?_
  refine go_alen h.1 (by decide +kernel) rfl rfl ?_
  show Go X (Em X puV) 4 [some (.inr (.inr (14, w))), some (.inl x1), some (.inl (0 : Int32)), none] [.inl (5 : Int32)] m _
  refine go_blk h.1 (is := [.istore_n 3]) (pc' := 5) (ls' := [some (.inr (.inr (14, w))), some (.inl x1), some (.inl (0 : Int32)), some (.inl (5 : Int32))]) (st' := []) (m' := m) (by decide +kernel) rfl ?_
  refine go_lp1 (hd := fun (y2 : Int32) (n : Mem) o => Go X (Em X puV) 5 [some (.inr (.inr (14, w))), some (.inl x1), some (.inl y2), some (.inl (5 : Int32))] [] n o) (fun _ _ => go_none) (fun y2 n nx_ hn_ => g_J7_fill_53178_t14_b5 h w x1 (5 : Int32) nx_ _ hn_ (fun z_5 o0_5 o1_5 o2_5 o3_5 => ?_) (y2, n)) fuelN (0 : Int32) m
  exact go_vret h.1 h.2.2.2.2 (by decide +kernel)
theorem ctr_J7_fill_53178_t14 (Z : ZT) (w : Nat) (x1 : Int32) (m : Mem) : Ctr Z yJ7_fill_53178 prog_11_method_103_code 4 none 0 puV [.inr (.inr (14, w)), .inl x1] m (f_J7_fill_53178_t14 w x1 m) :=
  ctr_of (P := P_J7) (by decide +kernel) rfl pt_J7 rfl rfl (fun X hC hZ hR h0 h1 hr => by subst hZ; exact g_J7_fill_53178_t14 ⟨hC, hR, h0, h1, hr⟩ w x1 m)

def f_X0_start_b41 (w : Nat) (next : Int32 × Mem → Option (Unit × Mem)) (exit : Mem → Option (Unit × Mem)) (s : Int32 × Mem) : Option (Unit × Mem) :=
  if (s.2 7 w 8) ≤ s.1 then
    exit (s.2)
  else
    if inB s.1 5 = true then
      if inB s.1 5 = true then
        if inB s.1 5 = true then
          if inB s.1 5 = true then
            if inB s.1 5 = true then
              if inB s.1 5 = true then
                if inB s.1 5 = true then
                  bnd (f_J7_fill_53178_t14 (5 * w + (ix s.1)) (0 : Int32) (mset (mset (mset (mset (mset s.2 8 w (ix s.1) (s.2 6 (ix s.1) 0)) 9 w (ix s.1) (s.2 6 (ix s.1) 1)) 10 w (ix s.1) (s.2 6 (ix s.1) 2)) 11 w (ix s.1) (s.2 6 (ix s.1) 3)) 12 w (ix s.1) (s.2 6 (ix s.1) 4))) (fun _ m113 =>
                    next ((s.1 + (1 : Int32)), m113))
                else none
              else none
            else none
          else none
        else none
      else none
    else none
theorem g_X0_start_b41 {X : XT} (h : MX X prog_2_method_2_code P_X0 1 none) (w : Nat) (next : Int32 × Mem → Option (Unit × Mem)) (exit : Mem → Option (Unit × Mem)) (hn : ∀ (y2 : Int32) (n : Mem) (o3 : Option AV), Go X (Em X puV) 41 [some (.inr (.inr (7, w))), some (.inr (.inr (4, 0))), some (.inl y2), o3] [] n (next (y2, n))) (hx : ∀ (n : Mem) (o0 : Option AV) (o1 : Option AV) (o2 : Option AV) (o3 : Option AV), Go X (Em X puV) 122 [o0, o1, o2, o3] [] n (exit (n))) (s : Int32 × Mem) (o3 : Option AV) : Go X (Em X puV) 41 [some (.inr (.inr (7, w))), some (.inr (.inr (4, 0))), some (.inl s.1), o3] [] s.2 (f_X0_start_b41 w next exit s) := by
  unfold f_X0_start_b41
  refine go_blk h.1 (is := [.iload_n 2, .aload_n 0, .getfield 44]) (pc' := 46) (ls' := [some (.inr (.inr (7, w))), some (.inr (.inr (4, 0))), some (.inl s.1), o3]) (st' := [.inl (s.2 7 w 8), .inl s.1]) (m' := s.2) (by decide +kernel) rfl ?_
  refine go_icmpge h.1 (off := 76) 122 (by decide +kernel) (by decide) (fun c46 => ?_) (fun c46 => ?_)
  · exact hx s.2 (some (.inr (.inr (7, w)))) (some (.inr (.inr (4, 0)))) (some (.inl s.1)) (o3)
  · refine go_blk h.1 (is := [.aload_n 1, .getfield 62, .iload_n 2]) (pc' := 54) (ls' := [some (.inr (.inr (7, w))), some (.inr (.inr (4, 0))), some (.inl s.1), o3]) (st' := [.inl s.1, .inr (.inr (5, 0))]) (m' := s.2) (by decide +kernel) rfl ?_
    refine go_aald h.1 (kd := 1) (z := (6, (ix s.1))) (by decide +kernel) rfl rfl (by decide) rfl (fun b54 => ?_)
    refine go_blk h.1 (is := [.astore_n 3, .aload_n 0, .getfield 9, .iload_n 2, .aload_n 3, .getfield 66]) (pc' := 65) (ls' := [some (.inr (.inr (7, w))), some (.inr (.inr (4, 0))), some (.inl s.1), some (.inr (.inr (6, (ix s.1))))]) (st' := [.inl (s.2 6 (ix s.1) 0), .inl s.1, .inr (.inr (8, w))]) (m' := s.2) (by decide +kernel) rfl ?_
    refine go_iast h.1 (by decide +kernel) rfl rfl (fun b65 => ?_)
    refine go_blk h.1 (is := [.aload_n 0, .getfield 15, .iload_n 2, .aload_n 3, .getfield 70]) (pc' := 75) (ls' := [some (.inr (.inr (7, w))), some (.inr (.inr (4, 0))), some (.inl s.1), some (.inr (.inr (6, (ix s.1))))]) (st' := [.inl (s.2 6 (ix s.1) 1), .inl s.1, .inr (.inr (9, w))]) (m' := (mset s.2 8 w (ix s.1) (s.2 6 (ix s.1) 0))) (by decide +kernel) rfl ?_
    refine go_iast h.1 (by decide +kernel) rfl rfl (fun b75 => ?_)
    refine go_blk h.1 (is := [.aload_n 0, .getfield 18, .iload_n 2, .aload_n 3, .getfield 72]) (pc' := 85) (ls' := [some (.inr (.inr (7, w))), some (.inr (.inr (4, 0))), some (.inl s.1), some (.inr (.inr (6, (ix s.1))))]) (st' := [.inl (s.2 6 (ix s.1) 2), .inl s.1, .inr (.inr (10, w))]) (m' := (mset (mset s.2 8 w (ix s.1) (s.2 6 (ix s.1) 0)) 9 w (ix s.1) (s.2 6 (ix s.1) 1))) (by decide +kernel) rfl ?_
    refine go_iast h.1 (by decide +kernel) rfl rfl (fun b85 => ?_)
    refine go_blk h.1 (is := [.aload_n 0, .getfield 21, .iload_n 2, .aload_n 3, .getfield 74]) (pc' := 95) (ls' := [some (.inr (.inr (7, w))), some (.inr (.inr (4, 0))), some (.inl s.1), some (.inr (.inr (6, (ix s.1))))]) (st' := [.inl (s.2 6 (ix s.1) 3), .inl s.1, .inr (.inr (11, w))]) (m' := (mset (mset (mset s.2 8 w (ix s.1) (s.2 6 (ix s.1) 0)) 9 w (ix s.1) (s.2 6 (ix s.1) 1)) 10 w (ix s.1) (s.2 6 (ix s.1) 2))) (by decide +kernel) rfl ?_
    refine go_iast h.1 (by decide +kernel) rfl rfl (fun b95 => ?_)
    refine go_blk h.1 (is := [.aload_n 0, .getfield 24, .iload_n 2, .aload_n 3, .getfield 76]) (pc' := 105) (ls' := [some (.inr (.inr (7, w))), some (.inr (.inr (4, 0))), some (.inl s.1), some (.inr (.inr (6, (ix s.1))))]) (st' := [.inl (s.2 6 (ix s.1) 4), .inl s.1, .inr (.inr (12, w))]) (m' := (mset (mset (mset (mset s.2 8 w (ix s.1) (s.2 6 (ix s.1) 0)) 9 w (ix s.1) (s.2 6 (ix s.1) 1)) 10 w (ix s.1) (s.2 6 (ix s.1) 2)) 11 w (ix s.1) (s.2 6 (ix s.1) 3))) (by decide +kernel) rfl ?_
    refine go_iast h.1 (by decide +kernel) rfl rfl (fun b105 => ?_)
    refine go_blk h.1 (is := [.aload_n 0, .getfield 29, .iload_n 2]) (pc' := 111) (ls' := [some (.inr (.inr (7, w))), some (.inr (.inr (4, 0))), some (.inl s.1), some (.inr (.inr (6, (ix s.1))))]) (st' := [.inl s.1, .inr (.inr (13, w))]) (m' := (mset (mset (mset (mset (mset s.2 8 w (ix s.1) (s.2 6 (ix s.1) 0)) 9 w (ix s.1) (s.2 6 (ix s.1) 1)) 10 w (ix s.1) (s.2 6 (ix s.1) 2)) 11 w (ix s.1) (s.2 6 (ix s.1) 3)) 12 w (ix s.1) (s.2 6 (ix s.1) 4))) (by decide +kernel) rfl ?_
    refine go_aald h.1 (kd := 2) (z := (14, (5 * w + (ix s.1)))) (by decide +kernel) rfl rfl (by decide) rfl (fun b111 => ?_)
    refine go_blk h.1 (is := [.iconst 0]) (pc' := 113) (ls' := [some (.inr (.inr (7, w))), some (.inr (.inr (4, 0))), some (.inl s.1), some (.inr (.inr (6, (ix s.1))))]) (st' := [.inl (0 : Int32), .inr (.inr (14, (5 * w + (ix s.1))))]) (m' := (mset (mset (mset (mset (mset s.2 8 w (ix s.1) (s.2 6 (ix s.1) 0)) 9 w (ix s.1) (s.2 6 (ix s.1) 1)) 10 w (ix s.1) (s.2 6 (ix s.1) 2)) 11 w (ix s.1) (s.2 6 (ix s.1) 3)) 12 w (ix s.1) (s.2 6 (ix s.1) 4))) (by decide +kernel) rfl ?_
    refine go_callS h.1 (index := 78) (n := 2) (as := [.inr (.inr (14, (5 * w + (ix s.1)))), .inl (0 : Int32)]) (rest := []) (ctr_J7_fill_53178_t14 (xZ X) (5 * w + (ix s.1)) (0 : Int32) (mset (mset (mset (mset (mset s.2 8 w (ix s.1) (s.2 6 (ix s.1) 0)) 9 w (ix s.1) (s.2 6 (ix s.1) 1)) 10 w (ix s.1) (s.2 6 (ix s.1) 2)) 11 w (ix s.1) (s.2 6 (ix s.1) 3)) 12 w (ix s.1) (s.2 6 (ix s.1) 4))) (by decide +kernel) wd_s_X0_78 rfl (h.room (by first | decide | omega) (by decide)) h.cl (Nat.le_of_ble_eq_true rfl) puV_ok rfl (fun r113 m113 _ => ?_)
    show Go X (Em X puV) 116 [some (.inr (.inr (7, w))), some (.inr (.inr (4, 0))), some (.inl s.1), some (.inr (.inr (6, (ix s.1))))] [] m113 _
    refine go_blk h.1 (is := [.iinc 2 1]) (pc' := 119) (ls' := [some (.inr (.inr (7, w))), some (.inr (.inr (4, 0))), some (.inl (s.1 + (1 : Int32))), some (.inr (.inr (6, (ix s.1))))]) (st' := []) (m' := m113) (by decide +kernel) rfl ?_
    refine go_goto h.1 (off := -78) 41 (by decide +kernel) (by decide) ?_
    exact hn (s.1 + (1 : Int32)) m113 (some (.inr (.inr (6, (ix s.1)))))

def f_X0_start (w : Nat) (m : Mem) : Option (Unit × Mem) :=
  lpk (f_X0_start_b41 w) fuelN ((0 : Int32), (mset (mset (mset (mset (mset (mset m 7 w 8 (m 4 0 1)) 7 w 9 (m 4 0 2)) 7 w 10 (m 4 0 3)) 7 w 11 (0 : Int32)) 7 w 12 (0 : Int32)) 7 w 13 (0 : Int32))) (fun t41 =>
    some ((), t41))
theorem g_X0_start {X : XT} (h : MX X prog_2_method_2_code P_X0 1 none) (w : Nat) (m : Mem) : Go X (Em X puV) 0 [some (.inr (.inr (7, w))), some (.inr (.inr (4, 0))), none, none] [] m (f_X0_start w m) := by
  unfold f_X0_start
  refine go_blk h.1 (is := [.aload_n 0, .aload_n 1, .getfield 38, .putfield 44, .aload_n 0, .aload_n 1, .getfield 45, .putfield 48, .aload_n 0, .aload_n 1, .getfield 49, .putfield 52, .aload_n 0, .iconst 0, .putfield 53, .aload_n 0, .iconst 0, .putfield 56, .aload_n 0, .iconst 0, .putfield 59, .iconst 0, .istore_n 2]) (pc' := 41) (ls' := [some (.inr (.inr (7, w))), some (.inr (.inr (4, 0))), some (.inl (0 : Int32)), none]) (st' := []) (m' := (mset (mset (mset (mset (mset (mset m 7 w 8 (m 4 0 1)) 7 w 9 (m 4 0 2)) 7 w 10 (m 4 0 3)) 7 w 11 (0 : Int32)) 7 w 12 (0 : Int32)) 7 w 13 (0 : Int32))) (by decide +kernel) rfl ?_
  refine go_lp1 (hd := fun (y2 : Int32) (n : Mem) o => ∀ (o3 : Option AV), Go X (Em X puV) 41 [some (.inr (.inr (7, w))), some (.inr (.inr (4, 0))), some (.inl y2), o3] [] n o) (fun _ _ _ => go_none) (fun y2 n nx_ hn_ => g_X0_start_b41 h w nx_ _ hn_ (fun z_41 o0_41 o1_41 o2_41 o3_41 => ?_) (y2, n)) fuelN (0 : Int32) (mset (mset (mset (mset (mset (mset m 7 w 8 (m 4 0 1)) 7 w 9 (m 4 0 2)) 7 w 10 (m 4 0 3)) 7 w 11 (0 : Int32)) 7 w 12 (0 : Int32)) 7 w 13 (0 : Int32)) (none)
  exact go_vret h.1 h.2.2.2.2 (by decide +kernel)
theorem ctr_X0_start (Z : ZT) (w : Nat) (m : Mem) : Ctr Z yX0_start prog_2_method_2_code 4 none 1 puV [.inr (.inr (7, w)), .inr (.inr (4, 0))] m (f_X0_start w m) :=
  ctr_of (P := P_X0) (by decide +kernel) rfl pt_X0 rfl rfl (fun X hC hZ hR h0 h1 hr => by subst hZ; exact g_X0_start ⟨hC, hR, h0, h1, hr⟩ w m)

def f_X0_isBelow (w : Nat) (x1 : Int32) (m : Mem) : Option (Int32 × Mem) :=
  if (((m 7 w 12) >>> (x1 &&& 31)) &&& (1 : Int32)) = 0 then
    some ((1 : Int32), m)
  else
    some ((0 : Int32), m)
theorem g_X0_isBelow {X : XT} (h : MX X prog_2_method_13_code P_X0 0 (some .boolean)) (w : Nat) (x1 : Int32) (m : Mem) : Go X (Em X puI) 0 [some (.inr (.inr (7, w))), some (.inl x1)] [] m (f_X0_isBelow w x1 m) := by
  unfold f_X0_isBelow
  refine go_blk h.1 (is := [.aload_n 0, .getfield 56, .iload_n 1, .ishr, .iconst 1, .iand]) (pc' := 8) (ls' := [some (.inr (.inr (7, w))), some (.inl x1)]) (st' := [.inl (((m 7 w 12) >>> (x1 &&& 31)) &&& (1 : Int32))]) (m' := m) (by decide +kernel) rfl ?_
  refine go_ifne h.1 (off := 7) 15 (by decide +kernel) (by decide) (fun c8 => ?_) (fun c8 => ?_)
  · refine go_blk h.1 (is := [.iconst 0]) (pc' := 16) (ls' := [some (.inr (.inr (7, w))), some (.inl x1)]) (st' := [.inl (0 : Int32)]) (m' := m) (by decide +kernel) rfl ?_
    exact go_zret h.1 h.2.2.2.2 (Or.inl rfl) (by decide +kernel)
  · refine go_blk h.1 (is := [.iconst 1]) (pc' := 12) (ls' := [some (.inr (.inr (7, w))), some (.inl x1)]) (st' := [.inl (1 : Int32)]) (m' := m) (by decide +kernel) rfl ?_
    refine go_goto h.1 (off := 4) 16 (by decide +kernel) (by decide) ?_
    exact go_zret h.1 h.2.2.2.2 (Or.inr rfl) (by decide +kernel)
theorem ctr_X0_isBelow (Z : ZT) (w : Nat) (x1 : Int32) (m : Mem) : Ctr Z yX0_isBelow prog_2_method_13_code 2 (some .boolean) 0 puI [.inr (.inr (7, w)), .inl x1] m (f_X0_isBelow w x1 m) :=
  ctr_of (P := P_X0) (by decide +kernel) rfl pt_X0 rfl rfl (fun X hC hZ hR h0 h1 hr => by subst hZ; exact g_X0_isBelow ⟨hC, hR, h0, h1, hr⟩ w x1 m)

def f_X0_tollOf_j31 (w : Nat) (s0 : Int32) (s1 : Int32) (x1 : Int32) (m : Mem) : Option (Int32 × Mem) :=
  if (((m 7 w 11) >>> (x1 &&& 31)) &&& (1 : Int32)) = (1 : Int32) then
    some (((2 : Int32) * (s1 + s0)), m)
  else
    some ((s1 + s0), m)
theorem g_X0_tollOf_j31 {X : XT} (h : MX X prog_2_method_12_code P_X0 1 (some .int)) (w : Nat) (s0 : Int32) (s1 : Int32) (x1 : Int32) (m : Mem) (o2 : Option AV) : Go X (Em X puI) 31 [some (.inr (.inr (7, w))), some (.inl x1), o2] [.inl s0, .inl s1] m (f_X0_tollOf_j31 w s0 s1 x1 m) := by
  unfold f_X0_tollOf_j31
  refine go_blk h.1 (is := [.iadd, .istore_n 2, .aload_n 0, .getfield 53, .iload_n 1, .ishr, .iconst 1, .iand, .iconst 1]) (pc' := 42) (ls' := [some (.inr (.inr (7, w))), some (.inl x1), some (.inl (s1 + s0))]) (st' := [.inl (1 : Int32), .inl (((m 7 w 11) >>> (x1 &&& 31)) &&& (1 : Int32))]) (m' := m) (by decide +kernel) rfl ?_
  refine go_icmpne h.1 (off := 9) 51 (by decide +kernel) (by decide) (fun c42 => ?_) (fun c42 => ?_)
  · refine go_blk h.1 (is := [.iload_n 2]) (pc' := 52) (ls' := [some (.inr (.inr (7, w))), some (.inl x1), some (.inl (s1 + s0))]) (st' := [.inl (s1 + s0)]) (m' := m) (by decide +kernel) rfl ?_
    exact go_iret h.1 h.2.2.2.2 (by decide +kernel)
  · refine go_blk h.1 (is := [.iconst 2, .iload_n 2, .imul]) (pc' := 48) (ls' := [some (.inr (.inr (7, w))), some (.inl x1), some (.inl (s1 + s0))]) (st' := [.inl ((2 : Int32) * (s1 + s0))]) (m' := m) (by decide +kernel) rfl ?_
    refine go_goto h.1 (off := 4) 52 (by decide +kernel) (by decide) ?_
    exact go_iret h.1 h.2.2.2.2 (by decide +kernel)

def f_X0_tollOf (w : Nat) (x1 : Int32) (m : Mem) : Option (Int32 × Mem) :=
  if inB x1 5 = true then
    if inB x1 5 = true then
      bnd (f_X6_shareOf (m 8 w (ix x1)) (m 9 w (ix x1)) m) (fun r12 m12 =>
        bnd (f_X0_isBelow w x1 m12) (fun r17 m17 =>
          if r17 = 0 then
            f_X0_tollOf_j31 w (0 : Int32) r12 x1 m17
          else
            f_X0_tollOf_j31 w (m17 7 w 9) r12 x1 m17))
    else none
  else none
theorem g_X0_tollOf {X : XT} (h : MX X prog_2_method_12_code P_X0 1 (some .int)) (w : Nat) (x1 : Int32) (m : Mem) : Go X (Em X puI) 0 [some (.inr (.inr (7, w))), some (.inl x1), none] [] m (f_X0_tollOf w x1 m) := by
  unfold f_X0_tollOf
  refine go_blk h.1 (is := [.aload_n 0, .getfield 9, .iload_n 1]) (pc' := 5) (ls' := [some (.inr (.inr (7, w))), some (.inl x1), none]) (st' := [.inl x1, .inr (.inr (8, w))]) (m' := m) (by decide +kernel) rfl ?_
  refine go_iald h.1 (by decide +kernel) rfl rfl (fun b5 => ?_)
  show Go X (Em X puI) 6 [some (.inr (.inr (7, w))), some (.inl x1), none] [.inl (m 8 w (ix x1))] m _
  refine go_blk h.1 (is := [.aload_n 0, .getfield 15, .iload_n 1]) (pc' := 11) (ls' := [some (.inr (.inr (7, w))), some (.inl x1), none]) (st' := [.inl x1, .inr (.inr (9, w)), .inl (m 8 w (ix x1))]) (m' := m) (by decide +kernel) rfl ?_
  refine go_iald h.1 (by decide +kernel) rfl rfl (fun b11 => ?_)
  show Go X (Em X puI) 12 [some (.inr (.inr (7, w))), some (.inl x1), none] [.inl (m 9 w (ix x1)), .inl (m 8 w (ix x1))] m _
  refine go_callN h.1 (index := 118) (n := 2) (as := [.inl (m 8 w (ix x1)), .inl (m 9 w (ix x1))]) (rest := []) (ctr_X6_shareOf (xZ X) (m 8 w (ix x1)) (m 9 w (ix x1)) m) (by decide +kernel) wd_n_X0_118 rfl (h.room (by first | decide | omega) (by decide)) h.cl (Nat.le_of_ble_eq_true rfl) puI_ok rfl (fun r12 m12 _ => ?_)
  show Go X (Em X puI) 15 [some (.inr (.inr (7, w))), some (.inl x1), none] [.inl r12] m12 _
  refine go_blk h.1 (is := [.aload_n 0, .iload_n 1]) (pc' := 17) (ls' := [some (.inr (.inr (7, w))), some (.inl x1), none]) (st' := [.inl x1, .inr (.inr (7, w)), .inl r12]) (m' := m12) (by decide +kernel) rfl ?_
  refine go_callV h.1 (index := 121) (n := 1) (t := 7) (i := w) (ci := 0) (nf := 14) (cz := (RX0, TX0, 14)) (as := [.inl x1]) (rest := [.inl r12]) (ctr_X0_isBelow (xZ X) w x1 m12) (by decide +kernel) rfl rfl wd_v_X0_121 rfl (h.room (by first | decide | omega) (by decide)) h.cl (Nat.le_of_ble_eq_true rfl) puI_ok rfl (fun r17 m17 _ => ?_)
  show Go X (Em X puI) 20 [some (.inr (.inr (7, w))), some (.inl x1), none] [.inl r17, .inl r12] m17 _
  refine go_ifeq h.1 (off := 10) 30 (by decide +kernel) (by decide) (fun c20 => ?_) (fun c20 => ?_)
  · refine go_blk h.1 (is := [.iconst 0]) (pc' := 31) (ls' := [some (.inr (.inr (7, w))), some (.inl x1), none]) (st' := [.inl (0 : Int32), .inl r12]) (m' := m17) (by decide +kernel) rfl ?_
    exact g_X0_tollOf_j31 h w (0 : Int32) r12 x1 m17 (none)
  · refine go_blk h.1 (is := [.aload_n 0, .getfield 48]) (pc' := 27) (ls' := [some (.inr (.inr (7, w))), some (.inl x1), none]) (st' := [.inl (m17 7 w 9), .inl r12]) (m' := m17) (by decide +kernel) rfl ?_
    refine go_goto h.1 (off := 4) 31 (by decide +kernel) (by decide) ?_
    exact g_X0_tollOf_j31 h w (m17 7 w 9) r12 x1 m17 (none)
theorem ctr_X0_tollOf (Z : ZT) (w : Nat) (x1 : Int32) (m : Mem) : Ctr Z yX0_tollOf prog_2_method_12_code 3 (some .int) 1 puI [.inr (.inr (7, w)), .inl x1] m (f_X0_tollOf w x1 m) :=
  ctr_of (P := P_X0) (by decide +kernel) rfl pt_X0 rfl rfl (fun X hC hZ hR h0 h1 hr => by subst hZ; exact g_X0_tollOf ⟨hC, hR, h0, h1, hr⟩ w x1 m)

def f_X0_hasNewSong (w : Nat) (x1 : Int32) (m : Mem) : Option (Int32 × Mem) :=
  if inB x1 5 = true then
    if (6 : Int32) ≤ (m 11 w (ix x1)) then
      some ((0 : Int32), m)
    else
      if inB x1 5 = true then
        if (((m 7 w 10) >>> ((m 11 w (ix x1)) &&& 31)) &&& (1 : Int32)) = 0 then
          some ((1 : Int32), m)
        else
          some ((0 : Int32), m)
      else none
  else none
theorem g_X0_hasNewSong {X : XT} (h : MX X prog_2_method_9_code P_X0 0 (some .boolean)) (w : Nat) (x1 : Int32) (m : Mem) : Go X (Em X puI) 0 [some (.inr (.inr (7, w))), some (.inl x1)] [] m (f_X0_hasNewSong w x1 m) := by
  unfold f_X0_hasNewSong
  refine go_blk h.1 (is := [.aload_n 0, .getfield 21, .iload_n 1]) (pc' := 5) (ls' := [some (.inr (.inr (7, w))), some (.inl x1)]) (st' := [.inl x1, .inr (.inr (11, w))]) (m' := m) (by decide +kernel) rfl ?_
  refine go_iald h.1 (by decide +kernel) rfl rfl (fun b5 => ?_)
  show Go X (Em X puI) 6 [some (.inr (.inr (7, w))), some (.inl x1)] [.inl (m 11 w (ix x1))] m _
  refine go_blk h.1 (is := [.bipush 6]) (pc' := 8) (ls' := [some (.inr (.inr (7, w))), some (.inl x1)]) (st' := [.inl (6 : Int32), .inl (m 11 w (ix x1))]) (m' := m) (by decide +kernel) rfl ?_
  refine go_icmpge h.1 (off := 23) 31 (by decide +kernel) (by decide) (fun c8 => ?_) (fun c8 => ?_)
  · refine go_blk h.1 (is := [.iconst 0]) (pc' := 32) (ls' := [some (.inr (.inr (7, w))), some (.inl x1)]) (st' := [.inl (0 : Int32)]) (m' := m) (by decide +kernel) rfl ?_
    exact go_zret h.1 h.2.2.2.2 (Or.inl rfl) (by decide +kernel)
  · refine go_blk h.1 (is := [.aload_n 0, .getfield 52, .aload_n 0, .getfield 21, .iload_n 1]) (pc' := 20) (ls' := [some (.inr (.inr (7, w))), some (.inl x1)]) (st' := [.inl x1, .inr (.inr (11, w)), .inl (m 7 w 10)]) (m' := m) (by decide +kernel) rfl ?_
    refine go_iald h.1 (by decide +kernel) rfl rfl (fun b20 => ?_)
    show Go X (Em X puI) 21 [some (.inr (.inr (7, w))), some (.inl x1)] [.inl (m 11 w (ix x1)), .inl (m 7 w 10)] m _
    refine go_blk h.1 (is := [.ishr, .iconst 1, .iand]) (pc' := 24) (ls' := [some (.inr (.inr (7, w))), some (.inl x1)]) (st' := [.inl (((m 7 w 10) >>> ((m 11 w (ix x1)) &&& 31)) &&& (1 : Int32))]) (m' := m) (by decide +kernel) rfl ?_
    refine go_ifne h.1 (off := 7) 31 (by decide +kernel) (by decide) (fun c24 => ?_) (fun c24 => ?_)
    · refine go_blk h.1 (is := [.iconst 0]) (pc' := 32) (ls' := [some (.inr (.inr (7, w))), some (.inl x1)]) (st' := [.inl (0 : Int32)]) (m' := m) (by decide +kernel) rfl ?_
      exact go_zret h.1 h.2.2.2.2 (Or.inl rfl) (by decide +kernel)
    · refine go_blk h.1 (is := [.iconst 1]) (pc' := 28) (ls' := [some (.inr (.inr (7, w))), some (.inl x1)]) (st' := [.inl (1 : Int32)]) (m' := m) (by decide +kernel) rfl ?_
      refine go_goto h.1 (off := 4) 32 (by decide +kernel) (by decide) ?_
      exact go_zret h.1 h.2.2.2.2 (Or.inr rfl) (by decide +kernel)
theorem ctr_X0_hasNewSong (Z : ZT) (w : Nat) (x1 : Int32) (m : Mem) : Ctr Z yX0_hasNewSong prog_2_method_9_code 2 (some .boolean) 0 puI [.inr (.inr (7, w)), .inl x1] m (f_X0_hasNewSong w x1 m) :=
  ctr_of (P := P_X0) (by decide +kernel) rfl pt_X0 rfl rfl (fun X hC hZ hR h0 h1 hr => by subst hZ; exact g_X0_hasNewSong ⟨hC, hR, h0, h1, hr⟩ w x1 m)

def f_X0_hasSecret (w : Nat) (x1 : Int32) (m : Mem) : Option (Int32 × Mem) :=
  if inB x1 5 = true then
    if (m 12 w (ix x1)) = x1 then
      some ((0 : Int32), m)
    else
      if inB x1 5 = true then
        if (m 7 w 8) ≤ (m 12 w (ix x1)) then
          some ((0 : Int32), m)
        else
          if inB x1 5 = true then
            if (((m 7 w 11) >>> ((m 12 w (ix x1)) &&& 31)) &&& (1 : Int32)) = 0 then
              some ((1 : Int32), m)
            else
              some ((0 : Int32), m)
          else none
      else none
  else none
theorem g_X0_hasSecret {X : XT} (h : MX X prog_2_method_10_code P_X0 0 (some .boolean)) (w : Nat) (x1 : Int32) (m : Mem) : Go X (Em X puI) 0 [some (.inr (.inr (7, w))), some (.inl x1)] [] m (f_X0_hasSecret w x1 m) := by
  unfold f_X0_hasSecret
  refine go_blk h.1 (is := [.aload_n 0, .getfield 24, .iload_n 1]) (pc' := 5) (ls' := [some (.inr (.inr (7, w))), some (.inl x1)]) (st' := [.inl x1, .inr (.inr (12, w))]) (m' := m) (by decide +kernel) rfl ?_
  refine go_iald h.1 (by decide +kernel) rfl rfl (fun b5 => ?_)
  show Go X (Em X puI) 6 [some (.inr (.inr (7, w))), some (.inl x1)] [.inl (m 12 w (ix x1))] m _
  refine go_blk h.1 (is := [.iload_n 1]) (pc' := 7) (ls' := [some (.inr (.inr (7, w))), some (.inl x1)]) (st' := [.inl x1, .inl (m 12 w (ix x1))]) (m' := m) (by decide +kernel) rfl ?_
  refine go_icmpeq h.1 (off := 36) 43 (by decide +kernel) (by decide) (fun c7 => ?_) (fun c7 => ?_)
  · refine go_blk h.1 (is := [.iconst 0]) (pc' := 44) (ls' := [some (.inr (.inr (7, w))), some (.inl x1)]) (st' := [.inl (0 : Int32)]) (m' := m) (by decide +kernel) rfl ?_
    exact go_zret h.1 h.2.2.2.2 (Or.inl rfl) (by decide +kernel)
  · refine go_blk h.1 (is := [.aload_n 0, .getfield 24, .iload_n 1]) (pc' := 15) (ls' := [some (.inr (.inr (7, w))), some (.inl x1)]) (st' := [.inl x1, .inr (.inr (12, w))]) (m' := m) (by decide +kernel) rfl ?_
    refine go_iald h.1 (by decide +kernel) rfl rfl (fun b15 => ?_)
    show Go X (Em X puI) 16 [some (.inr (.inr (7, w))), some (.inl x1)] [.inl (m 12 w (ix x1))] m _
    refine go_blk h.1 (is := [.aload_n 0, .getfield 44]) (pc' := 20) (ls' := [some (.inr (.inr (7, w))), some (.inl x1)]) (st' := [.inl (m 7 w 8), .inl (m 12 w (ix x1))]) (m' := m) (by decide +kernel) rfl ?_
    refine go_icmpge h.1 (off := 23) 43 (by decide +kernel) (by decide) (fun c20 => ?_) (fun c20 => ?_)
    · refine go_blk h.1 (is := [.iconst 0]) (pc' := 44) (ls' := [some (.inr (.inr (7, w))), some (.inl x1)]) (st' := [.inl (0 : Int32)]) (m' := m) (by decide +kernel) rfl ?_
      exact go_zret h.1 h.2.2.2.2 (Or.inl rfl) (by decide +kernel)
    · refine go_blk h.1 (is := [.aload_n 0, .getfield 53, .aload_n 0, .getfield 24, .iload_n 1]) (pc' := 32) (ls' := [some (.inr (.inr (7, w))), some (.inl x1)]) (st' := [.inl x1, .inr (.inr (12, w)), .inl (m 7 w 11)]) (m' := m) (by decide +kernel) rfl ?_
      refine go_iald h.1 (by decide +kernel) rfl rfl (fun b32 => ?_)
      show Go X (Em X puI) 33 [some (.inr (.inr (7, w))), some (.inl x1)] [.inl (m 12 w (ix x1)), .inl (m 7 w 11)] m _
      refine go_blk h.1 (is := [.ishr, .iconst 1, .iand]) (pc' := 36) (ls' := [some (.inr (.inr (7, w))), some (.inl x1)]) (st' := [.inl (((m 7 w 11) >>> ((m 12 w (ix x1)) &&& 31)) &&& (1 : Int32))]) (m' := m) (by decide +kernel) rfl ?_
      refine go_ifne h.1 (off := 7) 43 (by decide +kernel) (by decide) (fun c36 => ?_) (fun c36 => ?_)
      · refine go_blk h.1 (is := [.iconst 0]) (pc' := 44) (ls' := [some (.inr (.inr (7, w))), some (.inl x1)]) (st' := [.inl (0 : Int32)]) (m' := m) (by decide +kernel) rfl ?_
        exact go_zret h.1 h.2.2.2.2 (Or.inl rfl) (by decide +kernel)
      · refine go_blk h.1 (is := [.iconst 1]) (pc' := 40) (ls' := [some (.inr (.inr (7, w))), some (.inl x1)]) (st' := [.inl (1 : Int32)]) (m' := m) (by decide +kernel) rfl ?_
        refine go_goto h.1 (off := 4) 44 (by decide +kernel) (by decide) ?_
        exact go_zret h.1 h.2.2.2.2 (Or.inr rfl) (by decide +kernel)
theorem ctr_X0_hasSecret (Z : ZT) (w : Nat) (x1 : Int32) (m : Mem) : Ctr Z yX0_hasSecret prog_2_method_10_code 2 (some .boolean) 0 puI [.inr (.inr (7, w)), .inl x1] m (f_X0_hasSecret w x1 m) :=
  ctr_of (P := P_X0) (by decide +kernel) rfl pt_X0 rfl rfl (fun X hC hZ hR h0 h1 hr => by subst hZ; exact g_X0_hasSecret ⟨hC, hR, h0, h1, hr⟩ w x1 m)

def f_X0_lenderFor_j36 (w : Nat) (next : Int32 × Mem → Option (Int32 × Mem)) (exit : Mem → Option (Int32 × Mem)) (x1 : Int32) (x2 : Int32) (x3 : Int32) (m : Mem) : Option (Int32 × Mem) :=
  next ((x3 + (1 : Int32)), m)
theorem g_X0_lenderFor_j36 {X : XT} (h : MX X prog_2_method_11_code P_X0 0 (some .int)) (w : Nat) (next : Int32 × Mem → Option (Int32 × Mem)) (exit : Mem → Option (Int32 × Mem)) (x1 : Int32) (x2 : Int32) (x3 : Int32) (m : Mem) (hn : ∀ (y3 : Int32) (n : Mem), Go X (Em X puI) 2 [some (.inr (.inr (7, w))), some (.inl x1), some (.inl x2), some (.inl y3)] [] n (next (y3, n))) (hx : ∀ (n : Mem) (o0 : Option AV) (o1 : Option AV) (o2 : Option AV) (o3 : Option AV), Go X (Em X puI) 42 [o0, o1, o2, o3] [] n (exit (n))) : Go X (Em X puI) 36 [some (.inr (.inr (7, w))), some (.inl x1), some (.inl x2), some (.inl x3)] [] m (f_X0_lenderFor_j36 w next exit x1 x2 x3 m) := by
  unfold f_X0_lenderFor_j36
  refine go_blk h.1 (is := [.iinc 3 1]) (pc' := 39) (ls' := [some (.inr (.inr (7, w))), some (.inl x1), some (.inl x2), some (.inl (x3 + (1 : Int32)))]) (st' := []) (m' := m) (by decide +kernel) rfl ?_
  refine go_goto h.1 (off := -37) 2 (by decide +kernel) (by decide) ?_
  exact hn (x3 + (1 : Int32)) m

def f_X0_lenderFor_b2 (w : Nat) (x1 : Int32) (x2 : Int32) (next : Int32 × Mem → Option (Int32 × Mem)) (exit : Mem → Option (Int32 × Mem)) (s : Int32 × Mem) : Option (Int32 × Mem) :=
  if (s.2 7 w 8) ≤ s.1 then
    exit (s.2)
  else
    if s.1 = x1 then
      f_X0_lenderFor_j36 w next exit x1 x2 s.1 s.2
    else
      if inB s.1 5 = true then
        if (s.2 8 w (ix s.1)) = 0 then
          f_X0_lenderFor_j36 w next exit x1 x2 s.1 s.2
        else
          if inB s.1 5 = true then
            if (s.2 10 w (ix s.1)) < x2 then
              f_X0_lenderFor_j36 w next exit x1 x2 s.1 s.2
            else
              some (s.1, s.2)
          else none
      else none
theorem g_X0_lenderFor_b2 {X : XT} (h : MX X prog_2_method_11_code P_X0 0 (some .int)) (w : Nat) (x1 : Int32) (x2 : Int32) (next : Int32 × Mem → Option (Int32 × Mem)) (exit : Mem → Option (Int32 × Mem)) (hn : ∀ (y3 : Int32) (n : Mem), Go X (Em X puI) 2 [some (.inr (.inr (7, w))), some (.inl x1), some (.inl x2), some (.inl y3)] [] n (next (y3, n))) (hx : ∀ (n : Mem) (o0 : Option AV) (o1 : Option AV) (o2 : Option AV) (o3 : Option AV), Go X (Em X puI) 42 [o0, o1, o2, o3] [] n (exit (n))) (s : Int32 × Mem) : Go X (Em X puI) 2 [some (.inr (.inr (7, w))), some (.inl x1), some (.inl x2), some (.inl s.1)] [] s.2 (f_X0_lenderFor_b2 w x1 x2 next exit s) := by
  unfold f_X0_lenderFor_b2
  refine go_blk h.1 (is := [.iload_n 3, .aload_n 0, .getfield 44]) (pc' := 7) (ls' := [some (.inr (.inr (7, w))), some (.inl x1), some (.inl x2), some (.inl s.1)]) (st' := [.inl (s.2 7 w 8), .inl s.1]) (m' := s.2) (by decide +kernel) rfl ?_
  refine go_icmpge h.1 (off := 35) 42 (by decide +kernel) (by decide) (fun c7 => ?_) (fun c7 => ?_)
  · exact hx s.2 (some (.inr (.inr (7, w)))) (some (.inl x1)) (some (.inl x2)) (some (.inl s.1))
  · refine go_blk h.1 (is := [.iload_n 3, .iload_n 1]) (pc' := 12) (ls' := [some (.inr (.inr (7, w))), some (.inl x1), some (.inl x2), some (.inl s.1)]) (st' := [.inl x1, .inl s.1]) (m' := s.2) (by decide +kernel) rfl ?_
    refine go_icmpeq h.1 (off := 24) 36 (by decide +kernel) (by decide) (fun c12 => ?_) (fun c12 => ?_)
    · exact g_X0_lenderFor_j36 h w next exit x1 x2 s.1 s.2 hn hx
    · refine go_blk h.1 (is := [.aload_n 0, .getfield 9, .iload_n 3]) (pc' := 20) (ls' := [some (.inr (.inr (7, w))), some (.inl x1), some (.inl x2), some (.inl s.1)]) (st' := [.inl s.1, .inr (.inr (8, w))]) (m' := s.2) (by decide +kernel) rfl ?_
      refine go_iald h.1 (by decide +kernel) rfl rfl (fun b20 => ?_)
      show Go X (Em X puI) 21 [some (.inr (.inr (7, w))), some (.inl x1), some (.inl x2), some (.inl s.1)] [.inl (s.2 8 w (ix s.1))] s.2 _
      refine go_ifeq h.1 (off := 15) 36 (by decide +kernel) (by decide) (fun c21 => ?_) (fun c21 => ?_)
      · exact g_X0_lenderFor_j36 h w next exit x1 x2 s.1 s.2 hn hx
      · refine go_blk h.1 (is := [.aload_n 0, .getfield 18, .iload_n 3]) (pc' := 29) (ls' := [some (.inr (.inr (7, w))), some (.inl x1), some (.inl x2), some (.inl s.1)]) (st' := [.inl s.1, .inr (.inr (10, w))]) (m' := s.2) (by decide +kernel) rfl ?_
        refine go_iald h.1 (by decide +kernel) rfl rfl (fun b29 => ?_)
        show Go X (Em X puI) 30 [some (.inr (.inr (7, w))), some (.inl x1), some (.inl x2), some (.inl s.1)] [.inl (s.2 10 w (ix s.1))] s.2 _
        refine go_blk h.1 (is := [.iload_n 2]) (pc' := 31) (ls' := [some (.inr (.inr (7, w))), some (.inl x1), some (.inl x2), some (.inl s.1)]) (st' := [.inl x2, .inl (s.2 10 w (ix s.1))]) (m' := s.2) (by decide +kernel) rfl ?_
        refine go_icmplt h.1 (off := 5) 36 (by decide +kernel) (by decide) (fun c31 => ?_) (fun c31 => ?_)
        · exact g_X0_lenderFor_j36 h w next exit x1 x2 s.1 s.2 hn hx
        · refine go_blk h.1 (is := [.iload_n 3]) (pc' := 35) (ls' := [some (.inr (.inr (7, w))), some (.inl x1), some (.inl x2), some (.inl s.1)]) (st' := [.inl s.1]) (m' := s.2) (by decide +kernel) rfl ?_
          exact go_iret h.1 h.2.2.2.2 (by decide +kernel)

def f_X0_lenderFor (w : Nat) (x1 : Int32) (x2 : Int32) (m : Mem) : Option (Int32 × Mem) :=
  lpk (f_X0_lenderFor_b2 w x1 x2) fuelN ((0 : Int32), m) (fun t2 =>
    some ((-2 : Int32), t2))
theorem g_X0_lenderFor {X : XT} (h : MX X prog_2_method_11_code P_X0 0 (some .int)) (w : Nat) (x1 : Int32) (x2 : Int32) (m : Mem) : Go X (Em X puI) 0 [some (.inr (.inr (7, w))), some (.inl x1), some (.inl x2), none] [] m (f_X0_lenderFor w x1 x2 m) := by
  unfold f_X0_lenderFor
  refine go_blk h.1 (is := [.iconst 0, .istore_n 3]) (pc' := 2) (ls' := [some (.inr (.inr (7, w))), some (.inl x1), some (.inl x2), some (.inl (0 : Int32))]) (st' := []) (m' := m) (by decide +kernel) rfl ?_
  refine go_lp1 (hd := fun (y3 : Int32) (n : Mem) o => Go X (Em X puI) 2 [some (.inr (.inr (7, w))), some (.inl x1), some (.inl x2), some (.inl y3)] [] n o) (fun _ _ => go_none) (fun y3 n nx_ hn_ => g_X0_lenderFor_b2 h w x1 x2 nx_ _ hn_ (fun z_2 o0_2 o1_2 o2_2 o3_2 => ?_) (y3, n)) fuelN (0 : Int32) m
  refine go_blk h.1 (is := [.bipush (-2)]) (pc' := 44) (ls' := [o0_2, o1_2, o2_2, o3_2]) (st' := [.inl (-2 : Int32)]) (m' := z_2) (by decide +kernel) rfl ?_
  exact go_iret h.1 h.2.2.2.2 (by decide +kernel)
theorem ctr_X0_lenderFor (Z : ZT) (w : Nat) (x1 : Int32) (x2 : Int32) (m : Mem) : Ctr Z yX0_lenderFor prog_2_method_11_code 4 (some .int) 0 puI [.inr (.inr (7, w)), .inl x1, .inl x2] m (f_X0_lenderFor w x1 x2 m) :=
  ctr_of (P := P_X0) (by decide +kernel) rfl pt_X0 rfl rfl (fun X hC hZ hR h0 h1 hr => by subst hZ; exact g_X0_lenderFor ⟨hC, hR, h0, h1, hr⟩ w x1 x2 m)

def f_X0_payerOf (w : Nat) (x1 : Int32) (x2 : Int32) (m : Mem) : Option (Int32 × Mem) :=
  if x1 < 0 then
    some ((-2 : Int32), m)
  else
    if x1 < (m 7 w 8) then
      bnd (f_X0_tollOf w x1 m) (fun r17 m17 =>
        if x2 = (0 : Int32) then
          if inB x1 5 = true then
            if (m17 10 w (ix x1)) < r17 then
              some ((-2 : Int32), m17)
            else
              some (x1, m17)
          else none
        else
          if x2 = (1 : Int32) then
            bnd (f_X0_hasNewSong w x1 m17) (fun r71 m71 =>
              if r71 = 0 then
                some ((-2 : Int32), m71)
              else
                some ((-1 : Int32), m71))
          else
            if x2 = (2 : Int32) then
              bnd (f_X0_hasSecret w x1 m17) (fun r86 m86 =>
                if r86 = 0 then
                  some ((-2 : Int32), m86)
                else
                  some ((-1 : Int32), m86))
            else
              if x2 = (3 : Int32) then
                bnd (f_X0_lenderFor w x1 r17 m17) (fun r102 m102 =>
                  some (r102, m102))
              else
                some ((-2 : Int32), m17))
    else
      some ((-2 : Int32), m)
theorem g_X0_payerOf {X : XT} (h : MX X prog_2_method_6_code P_X0 2 (some .int)) (w : Nat) (x1 : Int32) (x2 : Int32) (m : Mem) : Go X (Em X puI) 0 [some (.inr (.inr (7, w))), some (.inl x1), some (.inl x2), none] [] m (f_X0_payerOf w x1 x2 m) := by
  unfold f_X0_payerOf
  refine go_blk h.1 (is := [.iload_n 1]) (pc' := 1) (ls' := [some (.inr (.inr (7, w))), some (.inl x1), some (.inl x2), none]) (st' := [.inl x1]) (m' := m) (by decide +kernel) rfl ?_
  refine go_iflt h.1 (off := 11) 12 (by decide +kernel) (by decide) (fun c1 => ?_) (fun c1 => ?_)
  · refine go_blk h.1 (is := [.bipush (-2)]) (pc' := 14) (ls' := [some (.inr (.inr (7, w))), some (.inl x1), some (.inl x2), none]) (st' := [.inl (-2 : Int32)]) (m' := m) (by decide +kernel) rfl ?_
    exact go_iret h.1 h.2.2.2.2 (by decide +kernel)
  · refine go_blk h.1 (is := [.iload_n 1, .aload_n 0, .getfield 44]) (pc' := 9) (ls' := [some (.inr (.inr (7, w))), some (.inl x1), some (.inl x2), none]) (st' := [.inl (m 7 w 8), .inl x1]) (m' := m) (by decide +kernel) rfl ?_
    refine go_icmplt h.1 (off := 6) 15 (by decide +kernel) (by decide) (fun c9 => ?_) (fun c9 => ?_)
    · refine go_blk h.1 (is := [.aload_n 0, .iload_n 1]) (pc' := 17) (ls' := [some (.inr (.inr (7, w))), some (.inl x1), some (.inl x2), none]) (st' := [.inl x1, .inr (.inr (7, w))]) (m' := m) (by decide +kernel) rfl ?_
      refine go_callV h.1 (index := 97) (n := 1) (t := 7) (i := w) (ci := 0) (nf := 14) (cz := (RX0, TX0, 14)) (as := [.inl x1]) (rest := []) (ctr_X0_tollOf (xZ X) w x1 m) (by decide +kernel) rfl rfl wd_v_X0_97 rfl (h.room (by first | decide | omega) (by decide)) h.cl (Nat.le_of_ble_eq_true rfl) puI_ok rfl (fun r17 m17 _ => ?_)
      show Go X (Em X puI) 20 [some (.inr (.inr (7, w))), some (.inl x1), some (.inl x2), none] [.inl r17] m17 _
      refine go_blk h.1 (is := [.istore_n 3, .iload_n 2]) (pc' := 22) (ls' := [some (.inr (.inr (7, w))), some (.inl x1), some (.inl x2), some (.inl r17)]) (st' := [.inl x2]) (m' := m17) (by decide +kernel) rfl ?_
      refine go_ite (fun w22_0 => ?_) (fun w22_0 => ?_)
      · refine go_tsIn h.1 (dflt := 84) (lo := 0) (hi := 3) (offs := #[30, 47, 62, 77]) (len := 30) (off := 30) (0 : Int32) 52 w22_0 (by decide +kernel) (by decide) rfl (by decide) ?_
        refine go_blk h.1 (is := [.aload_n 0, .getfield 18, .iload_n 1]) (pc' := 57) (ls' := [some (.inr (.inr (7, w))), some (.inl x1), some (.inl x2), some (.inl r17)]) (st' := [.inl x1, .inr (.inr (10, w))]) (m' := m17) (by decide +kernel) rfl ?_
        refine go_iald h.1 (by decide +kernel) rfl rfl (fun b57 => ?_)
        show Go X (Em X puI) 58 [some (.inr (.inr (7, w))), some (.inl x1), some (.inl x2), some (.inl r17)] [.inl (m17 10 w (ix x1))] m17 _
        refine go_blk h.1 (is := [.iload_n 3]) (pc' := 59) (ls' := [some (.inr (.inr (7, w))), some (.inl x1), some (.inl x2), some (.inl r17)]) (st' := [.inl r17, .inl (m17 10 w (ix x1))]) (m' := m17) (by decide +kernel) rfl ?_
        refine go_icmplt h.1 (off := 7) 66 (by decide +kernel) (by decide) (fun c59 => ?_) (fun c59 => ?_)
        · refine go_blk h.1 (is := [.bipush (-2)]) (pc' := 68) (ls' := [some (.inr (.inr (7, w))), some (.inl x1), some (.inl x2), some (.inl r17)]) (st' := [.inl (-2 : Int32)]) (m' := m17) (by decide +kernel) rfl ?_
          exact go_iret h.1 h.2.2.2.2 (by decide +kernel)
        · refine go_blk h.1 (is := [.iload_n 1]) (pc' := 63) (ls' := [some (.inr (.inr (7, w))), some (.inl x1), some (.inl x2), some (.inl r17)]) (st' := [.inl x1]) (m' := m17) (by decide +kernel) rfl ?_
          refine go_goto h.1 (off := 5) 68 (by decide +kernel) (by decide) ?_
          exact go_iret h.1 h.2.2.2.2 (by decide +kernel)
      · refine go_ite (fun w22_1 => ?_) (fun w22_1 => ?_)
        · refine go_tsIn h.1 (dflt := 84) (lo := 0) (hi := 3) (offs := #[30, 47, 62, 77]) (len := 30) (off := 47) (1 : Int32) 69 w22_1 (by decide +kernel) (by decide) rfl (by decide) ?_
          refine go_blk h.1 (is := [.aload_n 0, .iload_n 1]) (pc' := 71) (ls' := [some (.inr (.inr (7, w))), some (.inl x1), some (.inl x2), some (.inl r17)]) (st' := [.inl x1, .inr (.inr (7, w))]) (m' := m17) (by decide +kernel) rfl ?_
          refine go_callV h.1 (index := 108) (n := 1) (t := 7) (i := w) (ci := 0) (nf := 14) (cz := (RX0, TX0, 14)) (as := [.inl x1]) (rest := []) (ctr_X0_hasNewSong (xZ X) w x1 m17) (by decide +kernel) rfl rfl wd_v_X0_108 rfl (h.room (by first | decide | omega) (by decide)) h.cl (Nat.le_of_ble_eq_true rfl) puI_ok rfl (fun r71 m71 _ => ?_)
          show Go X (Em X puI) 74 [some (.inr (.inr (7, w))), some (.inl x1), some (.inl x2), some (.inl r17)] [.inl r71] m71 _
          refine go_ifeq h.1 (off := 7) 81 (by decide +kernel) (by decide) (fun c74 => ?_) (fun c74 => ?_)
          · refine go_blk h.1 (is := [.bipush (-2)]) (pc' := 83) (ls' := [some (.inr (.inr (7, w))), some (.inl x1), some (.inl x2), some (.inl r17)]) (st' := [.inl (-2 : Int32)]) (m' := m71) (by decide +kernel) rfl ?_
            exact go_iret h.1 h.2.2.2.2 (by decide +kernel)
          · refine go_blk h.1 (is := [.iconst (-1)]) (pc' := 78) (ls' := [some (.inr (.inr (7, w))), some (.inl x1), some (.inl x2), some (.inl r17)]) (st' := [.inl (-1 : Int32)]) (m' := m71) (by decide +kernel) rfl ?_
            refine go_goto h.1 (off := 5) 83 (by decide +kernel) (by decide) ?_
            exact go_iret h.1 h.2.2.2.2 (by decide +kernel)
        · refine go_ite (fun w22_2 => ?_) (fun w22_2 => ?_)
          · refine go_tsIn h.1 (dflt := 84) (lo := 0) (hi := 3) (offs := #[30, 47, 62, 77]) (len := 30) (off := 62) (2 : Int32) 84 w22_2 (by decide +kernel) (by decide) rfl (by decide) ?_
            refine go_blk h.1 (is := [.aload_n 0, .iload_n 1]) (pc' := 86) (ls' := [some (.inr (.inr (7, w))), some (.inl x1), some (.inl x2), some (.inl r17)]) (st' := [.inl x1, .inr (.inr (7, w))]) (m' := m17) (by decide +kernel) rfl ?_
            refine go_callV h.1 (index := 112) (n := 1) (t := 7) (i := w) (ci := 0) (nf := 14) (cz := (RX0, TX0, 14)) (as := [.inl x1]) (rest := []) (ctr_X0_hasSecret (xZ X) w x1 m17) (by decide +kernel) rfl rfl wd_v_X0_112 rfl (h.room (by first | decide | omega) (by decide)) h.cl (Nat.le_of_ble_eq_true rfl) puI_ok rfl (fun r86 m86 _ => ?_)
            show Go X (Em X puI) 89 [some (.inr (.inr (7, w))), some (.inl x1), some (.inl x2), some (.inl r17)] [.inl r86] m86 _
            refine go_ifeq h.1 (off := 7) 96 (by decide +kernel) (by decide) (fun c89 => ?_) (fun c89 => ?_)
            · refine go_blk h.1 (is := [.bipush (-2)]) (pc' := 98) (ls' := [some (.inr (.inr (7, w))), some (.inl x1), some (.inl x2), some (.inl r17)]) (st' := [.inl (-2 : Int32)]) (m' := m86) (by decide +kernel) rfl ?_
              exact go_iret h.1 h.2.2.2.2 (by decide +kernel)
            · refine go_blk h.1 (is := [.iconst (-1)]) (pc' := 93) (ls' := [some (.inr (.inr (7, w))), some (.inl x1), some (.inl x2), some (.inl r17)]) (st' := [.inl (-1 : Int32)]) (m' := m86) (by decide +kernel) rfl ?_
              refine go_goto h.1 (off := 5) 98 (by decide +kernel) (by decide) ?_
              exact go_iret h.1 h.2.2.2.2 (by decide +kernel)
          · refine go_ite (fun w22_3 => ?_) (fun w22_3 => ?_)
            · refine go_tsIn h.1 (dflt := 84) (lo := 0) (hi := 3) (offs := #[30, 47, 62, 77]) (len := 30) (off := 77) (3 : Int32) 99 w22_3 (by decide +kernel) (by decide) rfl (by decide) ?_
              refine go_blk h.1 (is := [.aload_n 0, .iload_n 1, .iload_n 3]) (pc' := 102) (ls' := [some (.inr (.inr (7, w))), some (.inl x1), some (.inl x2), some (.inl r17)]) (st' := [.inl r17, .inl x1, .inr (.inr (7, w))]) (m' := m17) (by decide +kernel) rfl ?_
              refine go_callV h.1 (index := 115) (n := 2) (t := 7) (i := w) (ci := 0) (nf := 14) (cz := (RX0, TX0, 14)) (as := [.inl x1, .inl r17]) (rest := []) (ctr_X0_lenderFor (xZ X) w x1 r17 m17) (by decide +kernel) rfl rfl wd_v_X0_115 rfl (h.room (by first | decide | omega) (by decide)) h.cl (Nat.le_of_ble_eq_true rfl) puI_ok rfl (fun r102 m102 _ => ?_)
              show Go X (Em X puI) 105 [some (.inr (.inr (7, w))), some (.inl x1), some (.inl x2), some (.inl r17)] [.inl r102] m102 _
              exact go_iret h.1 h.2.2.2.2 (by decide +kernel)
            · refine go_tsOut h.1 (dflt := 84) (lo := 0) (hi := 3) (offs := #[30, 47, 62, 77]) (len := 30) 106 (by decide +kernel) (sw_out (n := 4) (by decide) ((lt_s (lt_s (lt_s (lt_s lt_0 w22_0) w22_1) w22_2) w22_3) : ∀ j : Nat, j < 4 → ¬ x2 = Int32.ofInt (0 + (j : Int)))) (by decide) ?_
              refine go_blk h.1 (is := [.bipush (-2)]) (pc' := 108) (ls' := [some (.inr (.inr (7, w))), some (.inl x1), some (.inl x2), some (.inl r17)]) (st' := [.inl (-2 : Int32)]) (m' := m17) (by decide +kernel) rfl ?_
              exact go_iret h.1 h.2.2.2.2 (by decide +kernel)
    · refine go_blk h.1 (is := [.bipush (-2)]) (pc' := 14) (ls' := [some (.inr (.inr (7, w))), some (.inl x1), some (.inl x2), none]) (st' := [.inl (-2 : Int32)]) (m' := m) (by decide +kernel) rfl ?_
      exact go_iret h.1 h.2.2.2.2 (by decide +kernel)
theorem ctr_X0_payerOf (Z : ZT) (w : Nat) (x1 : Int32) (x2 : Int32) (m : Mem) : Ctr Z yX0_payerOf prog_2_method_6_code 4 (some .int) 2 puI [.inr (.inr (7, w)), .inl x1, .inl x2] m (f_X0_payerOf w x1 x2 m) :=
  ctr_of (P := P_X0) (by decide +kernel) rfl pt_X0 rfl rfl (fun X hC hZ hR h0 h1 hr => by subst hZ; exact g_X0_payerOf ⟨hC, hR, h0, h1, hr⟩ w x1 x2 m)

def f_X0_turnWord (w : Nat) (x1 : Int32) (x2 : Int32) (m : Mem) : Option (Unit × Mem) :=
  if x2 = (1 : Int32) then
    if inB x1 5 = true then
      some ((), (mset m 7 w 10 ((m 7 w 10) ^^^ ((1 : Int32) <<< ((m 11 w (ix x1)) &&& 31)))))
    else none
  else
    if inB x1 5 = true then
      some ((), (mset m 7 w 11 ((m 7 w 11) ^^^ ((1 : Int32) <<< ((m 12 w (ix x1)) &&& 31)))))
    else none
theorem g_X0_turnWord {X : XT} (h : MX X prog_2_method_8_code P_X0 0 none) (w : Nat) (x1 : Int32) (x2 : Int32) (m : Mem) : Go X (Em X puV) 0 [some (.inr (.inr (7, w))), some (.inl x1), some (.inl x2)] [] m (f_X0_turnWord w x1 x2 m) := by
  unfold f_X0_turnWord
  refine go_blk h.1 (is := [.iload_n 2, .iconst 1]) (pc' := 2) (ls' := [some (.inr (.inr (7, w))), some (.inl x1), some (.inl x2)]) (st' := [.inl (1 : Int32), .inl x2]) (m' := m) (by decide +kernel) rfl ?_
  refine go_icmpne h.1 (off := 23) 25 (by decide +kernel) (by decide) (fun c2 => ?_) (fun c2 => ?_)
  · refine go_blk h.1 (is := [.aload_n 0, .dup, .getfield 53, .iconst 1, .aload_n 0, .getfield 24, .iload_n 1]) (pc' := 36) (ls' := [some (.inr (.inr (7, w))), some (.inl x1), some (.inl x2)]) (st' := [.inl x1, .inr (.inr (12, w)), .inl (1 : Int32), .inl (m 7 w 11), .inr (.inr (7, w))]) (m' := m) (by decide +kernel) rfl ?_
    refine go_iald h.1 (by decide +kernel) rfl rfl (fun b36 => ?_)
    show Go X (Em X puV) 37 [some (.inr (.inr (7, w))), some (.inl x1), some (.inl x2)] [.inl (m 12 w (ix x1)), .inl (1 : Int32), .inl (m 7 w 11), .inr (.inr (7, w))] m _
    refine go_blk h.1 (is := [.ishl, .ixor, .putfield 53]) (pc' := 42) (ls' := [some (.inr (.inr (7, w))), some (.inl x1), some (.inl x2)]) (st' := []) (m' := (mset m 7 w 11 ((m 7 w 11) ^^^ ((1 : Int32) <<< ((m 12 w (ix x1)) &&& 31))))) (by decide +kernel) rfl ?_
    exact go_vret h.1 h.2.2.2.2 (by decide +kernel)
  · refine go_blk h.1 (is := [.aload_n 0, .dup, .getfield 52, .iconst 1, .aload_n 0, .getfield 21, .iload_n 1]) (pc' := 16) (ls' := [some (.inr (.inr (7, w))), some (.inl x1), some (.inl x2)]) (st' := [.inl x1, .inr (.inr (11, w)), .inl (1 : Int32), .inl (m 7 w 10), .inr (.inr (7, w))]) (m' := m) (by decide +kernel) rfl ?_
    refine go_iald h.1 (by decide +kernel) rfl rfl (fun b16 => ?_)
    show Go X (Em X puV) 17 [some (.inr (.inr (7, w))), some (.inl x1), some (.inl x2)] [.inl (m 11 w (ix x1)), .inl (1 : Int32), .inl (m 7 w 10), .inr (.inr (7, w))] m _
    refine go_blk h.1 (is := [.ishl, .ixor, .putfield 52]) (pc' := 22) (ls' := [some (.inr (.inr (7, w))), some (.inl x1), some (.inl x2)]) (st' := []) (m' := (mset m 7 w 10 ((m 7 w 10) ^^^ ((1 : Int32) <<< ((m 11 w (ix x1)) &&& 31))))) (by decide +kernel) rfl ?_
    refine go_goto h.1 (off := 20) 42 (by decide +kernel) (by decide) ?_
    exact go_vret h.1 h.2.2.2.2 (by decide +kernel)
theorem ctr_X0_turnWord (Z : ZT) (w : Nat) (x1 : Int32) (x2 : Int32) (m : Mem) : Ctr Z yX0_turnWord prog_2_method_8_code 3 none 0 puV [.inr (.inr (7, w)), .inl x1, .inl x2] m (f_X0_turnWord w x1 x2 m) :=
  ctr_of (P := P_X0) (by decide +kernel) rfl pt_X0 rfl rfl (fun X hC hZ hR h0 h1 hr => by subst hZ; exact g_X0_turnWord ⟨hC, hR, h0, h1, hr⟩ w x1 x2 m)

def f_X0_pay (w : Nat) (x1 : Int32) (x2 : Int32) (x3 : Int32) (m : Mem) : Option (Unit × Mem) :=
  if inB x2 5 = true then
    if inB x2 5 = true then
      if x2 = x1 then
        some ((), (mset (mset m 10 w (ix x2) ((m 10 w (ix x2)) - x3)) 7 w 13 ((m 7 w 13) + x3)))
      else
        if inB x1 5 = true then
          if inB x2 5 = true then
            if inB x2 5 = true then
              some ((), (mset (mset (mset m 10 w (ix x2) ((m 10 w (ix x2)) - x3)) 7 w 13 ((m 7 w 13) + x3)) 14 (5 * w + (ix x1)) (ix x2) ((m 14 (5 * w + (ix x1)) (ix x2)) + x3)))
            else none
          else none
        else none
    else none
  else none
theorem g_X0_pay {X : XT} (h : MX X prog_2_method_7_code P_X0 0 none) (w : Nat) (x1 : Int32) (x2 : Int32) (x3 : Int32) (m : Mem) : Go X (Em X puV) 0 [some (.inr (.inr (7, w))), some (.inl x1), some (.inl x2), some (.inl x3)] [] m (f_X0_pay w x1 x2 x3 m) := by
  unfold f_X0_pay
  refine go_blk h.1 (is := [.aload_n 0, .getfield 18, .iload_n 2, .dup2]) (pc' := 6) (ls' := [some (.inr (.inr (7, w))), some (.inl x1), some (.inl x2), some (.inl x3)]) (st' := [.inl x2, .inr (.inr (10, w)), .inl x2, .inr (.inr (10, w))]) (m' := m) (by decide +kernel) rfl ?_
  refine go_iald h.1 (by decide +kernel) rfl rfl (fun b6 => ?_)
  show Go X (Em X puV) 7 [some (.inr (.inr (7, w))), some (.inl x1), some (.inl x2), some (.inl x3)] [.inl (m 10 w (ix x2)), .inl x2, .inr (.inr (10, w))] m _
  refine go_blk h.1 (is := [.iload_n 3, .isub]) (pc' := 9) (ls' := [some (.inr (.inr (7, w))), some (.inl x1), some (.inl x2), some (.inl x3)]) (st' := [.inl ((m 10 w (ix x2)) - x3), .inl x2, .inr (.inr (10, w))]) (m' := m) (by decide +kernel) rfl ?_
  refine go_iast h.1 (by decide +kernel) rfl rfl (fun b9 => ?_)
  refine go_blk h.1 (is := [.aload_n 0, .dup, .getfield 59, .iload_n 3, .iadd, .putfield 59, .iload_n 2, .iload_n 1]) (pc' := 22) (ls' := [some (.inr (.inr (7, w))), some (.inl x1), some (.inl x2), some (.inl x3)]) (st' := [.inl x1, .inl x2]) (m' := (mset (mset m 10 w (ix x2) ((m 10 w (ix x2)) - x3)) 7 w 13 ((m 7 w 13) + x3))) (by decide +kernel) rfl ?_
  refine go_icmpeq h.1 (off := 15) 37 (by decide +kernel) (by decide) (fun c22 => ?_) (fun c22 => ?_)
  · exact go_vret h.1 h.2.2.2.2 (by decide +kernel)
  · refine go_blk h.1 (is := [.aload_n 0, .getfield 29, .iload_n 1]) (pc' := 30) (ls' := [some (.inr (.inr (7, w))), some (.inl x1), some (.inl x2), some (.inl x3)]) (st' := [.inl x1, .inr (.inr (13, w))]) (m' := (mset (mset m 10 w (ix x2) ((m 10 w (ix x2)) - x3)) 7 w 13 ((m 7 w 13) + x3))) (by decide +kernel) rfl ?_
    refine go_aald h.1 (kd := 2) (z := (14, (5 * w + (ix x1)))) (by decide +kernel) rfl rfl (by decide) rfl (fun b30 => ?_)
    refine go_blk h.1 (is := [.iload_n 2, .dup2]) (pc' := 33) (ls' := [some (.inr (.inr (7, w))), some (.inl x1), some (.inl x2), some (.inl x3)]) (st' := [.inl x2, .inr (.inr (14, (5 * w + (ix x1)))), .inl x2, .inr (.inr (14, (5 * w + (ix x1))))]) (m' := (mset (mset m 10 w (ix x2) ((m 10 w (ix x2)) - x3)) 7 w 13 ((m 7 w 13) + x3))) (by decide +kernel) rfl ?_
    refine go_iald h.1 (by decide +kernel) rfl rfl (fun b33 => ?_)
    show Go X (Em X puV) 34 [some (.inr (.inr (7, w))), some (.inl x1), some (.inl x2), some (.inl x3)] [.inl (m 14 (5 * w + (ix x1)) (ix x2)), .inl x2, .inr (.inr (14, (5 * w + (ix x1))))] (mset (mset m 10 w (ix x2) ((m 10 w (ix x2)) - x3)) 7 w 13 ((m 7 w 13) + x3)) _
    refine go_blk h.1 (is := [.iload_n 3, .iadd]) (pc' := 36) (ls' := [some (.inr (.inr (7, w))), some (.inl x1), some (.inl x2), some (.inl x3)]) (st' := [.inl ((m 14 (5 * w + (ix x1)) (ix x2)) + x3), .inl x2, .inr (.inr (14, (5 * w + (ix x1))))]) (m' := (mset (mset m 10 w (ix x2) ((m 10 w (ix x2)) - x3)) 7 w 13 ((m 7 w 13) + x3))) (by decide +kernel) rfl ?_
    refine go_iast h.1 (by decide +kernel) rfl rfl (fun b36 => ?_)
    exact go_vret h.1 h.2.2.2.2 (by decide +kernel)
theorem ctr_X0_pay (Z : ZT) (w : Nat) (x1 : Int32) (x2 : Int32) (x3 : Int32) (m : Mem) : Ctr Z yX0_pay prog_2_method_7_code 4 none 0 puV [.inr (.inr (7, w)), .inl x1, .inl x2, .inl x3] m (f_X0_pay w x1 x2 x3 m) :=
  ctr_of (P := P_X0) (by decide +kernel) rfl pt_X0 rfl rfl (fun X hC hZ hR h0 h1 hr => by subst hZ; exact g_X0_pay ⟨hC, hR, h0, h1, hr⟩ w x1 x2 x3 m)

def f_X0_pass_j41 (w : Nat) (x1 : Int32) (x3 : Int32) (m : Mem) : Option (Int32 × Mem) :=
  some (x3, (mset m 7 w 12 ((m 7 w 12) ^^^ ((1 : Int32) <<< (x1 &&& 31)))))
theorem g_X0_pass_j41 {X : XT} (h : MX X prog_2_method_4_code P_X0 3 (some .int)) (w : Nat) (x1 : Int32) (x3 : Int32) (m : Mem) (o2 : Option AV) : Go X (Em X puI) 41 [some (.inr (.inr (7, w))), some (.inl x1), o2, some (.inl x3)] [] m (f_X0_pass_j41 w x1 x3 m) := by
  unfold f_X0_pass_j41
  refine go_blk h.1 (is := [.aload_n 0, .dup, .getfield 56, .iconst 1, .iload_n 1, .ishl, .ixor, .putfield 56, .iload_n 3]) (pc' := 54) (ls' := [some (.inr (.inr (7, w))), some (.inl x1), o2, some (.inl x3)]) (st' := [.inl x3]) (m' := (mset m 7 w 12 ((m 7 w 12) ^^^ ((1 : Int32) <<< (x1 &&& 31))))) (by decide +kernel) rfl ?_
  exact go_iret h.1 h.2.2.2.2 (by decide +kernel)

def f_X0_pass (w : Nat) (x1 : Int32) (x2 : Int32) (m : Mem) : Option (Int32 × Mem) :=
  bnd (f_X0_payerOf w x1 x2 m) (fun r3 m3 =>
    if r3 = (-2 : Int32) then
      some ((-2 : Int32), m3)
    else
      if r3 = (-1 : Int32) then
        bnd (f_X0_turnWord w x1 x2 m3) (fun _ m38 =>
          f_X0_pass_j41 w x1 r3 m38)
      else
        bnd (f_X0_tollOf w x1 m3) (fun r26 m26 =>
          bnd (f_X0_pay w x1 r3 r26 m26) (fun _ m29 =>
            f_X0_pass_j41 w x1 r3 m29)))
theorem g_X0_pass {X : XT} (h : MX X prog_2_method_4_code P_X0 3 (some .int)) (w : Nat) (x1 : Int32) (x2 : Int32) (m : Mem) : Go X (Em X puI) 0 [some (.inr (.inr (7, w))), some (.inl x1), some (.inl x2), none] [] m (f_X0_pass w x1 x2 m) := by
  unfold f_X0_pass
  refine go_blk h.1 (is := [.aload_n 0, .iload_n 1, .iload_n 2]) (pc' := 3) (ls' := [some (.inr (.inr (7, w))), some (.inl x1), some (.inl x2), none]) (st' := [.inl x2, .inl x1, .inr (.inr (7, w))]) (m' := m) (by decide +kernel) rfl ?_
  refine go_callV h.1 (index := 94) (n := 2) (t := 7) (i := w) (ci := 0) (nf := 14) (cz := (RX0, TX0, 14)) (as := [.inl x1, .inl x2]) (rest := []) (ctr_X0_payerOf (xZ X) w x1 x2 m) (by decide +kernel) rfl rfl wd_v_X0_94 rfl (h.room (by first | decide | omega) (by decide)) h.cl (Nat.le_of_ble_eq_true rfl) puI_ok rfl (fun r3 m3 _ => ?_)
  show Go X (Em X puI) 6 [some (.inr (.inr (7, w))), some (.inl x1), some (.inl x2), none] [.inl r3] m3 _
  refine go_blk h.1 (is := [.istore_n 3, .iload_n 3, .bipush (-2)]) (pc' := 10) (ls' := [some (.inr (.inr (7, w))), some (.inl x1), some (.inl x2), some (.inl r3)]) (st' := [.inl (-2 : Int32), .inl r3]) (m' := m3) (by decide +kernel) rfl ?_
  refine go_icmpne h.1 (off := 6) 16 (by decide +kernel) (by decide) (fun c10 => ?_) (fun c10 => ?_)
  · refine go_blk h.1 (is := [.iload_n 3, .iconst (-1)]) (pc' := 18) (ls' := [some (.inr (.inr (7, w))), some (.inl x1), some (.inl x2), some (.inl r3)]) (st' := [.inl (-1 : Int32), .inl r3]) (m' := m3) (by decide +kernel) rfl ?_
    refine go_icmpeq h.1 (off := 17) 35 (by decide +kernel) (by decide) (fun c18 => ?_) (fun c18 => ?_)
    · refine go_blk h.1 (is := [.aload_n 0, .iload_n 1, .iload_n 2]) (pc' := 38) (ls' := [some (.inr (.inr (7, w))), some (.inl x1), some (.inl x2), some (.inl r3)]) (st' := [.inl x2, .inl x1, .inr (.inr (7, w))]) (m' := m3) (by decide +kernel) rfl ?_
      refine go_callV h.1 (index := 104) (n := 2) (t := 7) (i := w) (ci := 0) (nf := 14) (cz := (RX0, TX0, 14)) (as := [.inl x1, .inl x2]) (rest := []) (ctr_X0_turnWord (xZ X) w x1 x2 m3) (by decide +kernel) rfl rfl wd_v_X0_104 rfl (h.room (by first | decide | omega) (by decide)) h.cl (Nat.le_of_ble_eq_true rfl) puV_ok rfl (fun r38 m38 _ => ?_)
      show Go X (Em X puI) 41 [some (.inr (.inr (7, w))), some (.inl x1), some (.inl x2), some (.inl r3)] [] m38 _
      exact g_X0_pass_j41 h w x1 r3 m38 (some (.inl x2))
    · refine go_blk h.1 (is := [.aload_n 0, .iload_n 1, .iload_n 3, .aload_n 0, .iload_n 1]) (pc' := 26) (ls' := [some (.inr (.inr (7, w))), some (.inl x1), some (.inl x2), some (.inl r3)]) (st' := [.inl x1, .inr (.inr (7, w)), .inl r3, .inl x1, .inr (.inr (7, w))]) (m' := m3) (by decide +kernel) rfl ?_
      refine go_callV h.1 (index := 97) (n := 1) (t := 7) (i := w) (ci := 0) (nf := 14) (cz := (RX0, TX0, 14)) (as := [.inl x1]) (rest := [.inl r3, .inl x1, .inr (.inr (7, w))]) (ctr_X0_tollOf (xZ X) w x1 m3) (by decide +kernel) rfl rfl wd_v_X0_97 rfl (h.room (by first | decide | omega) (by decide)) h.cl (Nat.le_of_ble_eq_true rfl) puI_ok rfl (fun r26 m26 _ => ?_)
      show Go X (Em X puI) 29 [some (.inr (.inr (7, w))), some (.inl x1), some (.inl x2), some (.inl r3)] [.inl r26, .inl r3, .inl x1, .inr (.inr (7, w))] m26 _
      refine go_callV h.1 (index := 100) (n := 3) (t := 7) (i := w) (ci := 0) (nf := 14) (cz := (RX0, TX0, 14)) (as := [.inl x1, .inl r3, .inl r26]) (rest := []) (ctr_X0_pay (xZ X) w x1 r3 r26 m26) (by decide +kernel) rfl rfl wd_v_X0_100 rfl (h.room (by first | decide | omega) (by decide)) h.cl (Nat.le_of_ble_eq_true rfl) puV_ok rfl (fun r29 m29 _ => ?_)
      show Go X (Em X puI) 32 [some (.inr (.inr (7, w))), some (.inl x1), some (.inl x2), some (.inl r3)] [] m29 _
      refine go_goto h.1 (off := 9) 41 (by decide +kernel) (by decide) ?_
      exact g_X0_pass_j41 h w x1 r3 m29 (some (.inl x2))
  · refine go_blk h.1 (is := [.bipush (-2)]) (pc' := 15) (ls' := [some (.inr (.inr (7, w))), some (.inl x1), some (.inl x2), some (.inl r3)]) (st' := [.inl (-2 : Int32)]) (m' := m3) (by decide +kernel) rfl ?_
    exact go_iret h.1 h.2.2.2.2 (by decide +kernel)
theorem ctr_X0_pass (Z : ZT) (w : Nat) (x1 : Int32) (x2 : Int32) (m : Mem) : Ctr Z yX0_pass prog_2_method_4_code 4 (some .int) 3 puI [.inr (.inr (7, w)), .inl x1, .inl x2] m (f_X0_pass w x1 x2 m) :=
  ctr_of (P := P_X0) (by decide +kernel) rfl pt_X0 rfl rfl (fun X hC hZ hR h0 h1 hr => by subst hZ; exact g_X0_pass ⟨hC, hR, h0, h1, hr⟩ w x1 x2 m)

def f_X0_walk_b3 (w : Nat) (a1 : Nat) (x2 : Int32) (x3 : Int32) (next : Int32 × Mem → Option (Int32 × Mem)) (exit : Mem → Option (Int32 × Mem)) (s : Int32 × Mem) : Option (Int32 × Mem) :=
  if x3 ≤ s.1 then
    exit (s.2)
  else
    bnd (f_X4_at a1 (x2 + ((2 : Int32) * s.1)) s.2) (fun r17 m17 =>
      bnd (f_X4_at a1 ((x2 + ((2 : Int32) * s.1)) + (1 : Int32)) m17) (fun r29 m29 =>
        bnd (f_X0_pass w r17 r29 m29) (fun r32 m32 =>
          if r32 = (-2 : Int32) then
            some (s.1, m32)
          else
            next ((s.1 + (1 : Int32)), m32))))
theorem g_X0_walk_b3 {X : XT} (h : MX X prog_2_method_3_code P_X0 4 (some .int)) (w : Nat) (a1 : Nat) (x2 : Int32) (x3 : Int32) (next : Int32 × Mem → Option (Int32 × Mem)) (exit : Mem → Option (Int32 × Mem)) (hn : ∀ (y4 : Int32) (n : Mem), Go X (Em X puI) 3 [some (.inr (.inr (7, w))), some (.inr (.inr (2, a1))), some (.inl x2), some (.inl x3), some (.inl y4)] [] n (next (y4, n))) (hx : ∀ (n : Mem) (o0 : Option AV) (o1 : Option AV) (o2 : Option AV) (o3 : Option AV) (o4 : Option AV), Go X (Em X puI) 49 [o0, o1, o2, o3, o4] [] n (exit (n))) (s : Int32 × Mem) : Go X (Em X puI) 3 [some (.inr (.inr (7, w))), some (.inr (.inr (2, a1))), some (.inl x2), some (.inl x3), some (.inl s.1)] [] s.2 (f_X0_walk_b3 w a1 x2 x3 next exit s) := by
  unfold f_X0_walk_b3
  refine go_blk h.1 (is := [.iload 4, .iload_n 3]) (pc' := 6) (ls' := [some (.inr (.inr (7, w))), some (.inr (.inr (2, a1))), some (.inl x2), some (.inl x3), some (.inl s.1)]) (st' := [.inl x3, .inl s.1]) (m' := s.2) (by decide +kernel) rfl ?_
  refine go_icmpge h.1 (off := 43) 49 (by decide +kernel) (by decide) (fun c6 => ?_) (fun c6 => ?_)
  · exact hx s.2 (some (.inr (.inr (7, w)))) (some (.inr (.inr (2, a1)))) (some (.inl x2)) (some (.inl x3)) (some (.inl s.1))
  · refine go_blk h.1 (is := [.aload_n 0, .aload_n 1, .iload_n 2, .iconst 2, .iload 4, .imul, .iadd]) (pc' := 17) (ls' := [some (.inr (.inr (7, w))), some (.inr (.inr (2, a1))), some (.inl x2), some (.inl x3), some (.inl s.1)]) (st' := [.inl (x2 + ((2 : Int32) * s.1)), .inr (.inr (2, a1)), .inr (.inr (7, w))]) (m' := s.2) (by decide +kernel) rfl ?_
    refine go_callV h.1 (index := 84) (n := 1) (t := 2) (i := a1) (ci := 4) (nf := 4) (cz := (RX4, TX4, 4)) (as := [.inl (x2 + ((2 : Int32) * s.1))]) (rest := [.inr (.inr (7, w))]) (ctr_X4_at (xZ X) a1 (x2 + ((2 : Int32) * s.1)) s.2) (by decide +kernel) rfl rfl wd_v_X0_84 rfl (h.room (by first | decide | omega) (by decide)) h.cl (Nat.le_of_ble_eq_true rfl) puI_ok rfl (fun r17 m17 _ => ?_)
    show Go X (Em X puI) 20 [some (.inr (.inr (7, w))), some (.inr (.inr (2, a1))), some (.inl x2), some (.inl x3), some (.inl s.1)] [.inl r17, .inr (.inr (7, w))] m17 _
    refine go_blk h.1 (is := [.aload_n 1, .iload_n 2, .iconst 2, .iload 4, .imul, .iadd, .iconst 1, .iadd]) (pc' := 29) (ls' := [some (.inr (.inr (7, w))), some (.inr (.inr (2, a1))), some (.inl x2), some (.inl x3), some (.inl s.1)]) (st' := [.inl ((x2 + ((2 : Int32) * s.1)) + (1 : Int32)), .inr (.inr (2, a1)), .inl r17, .inr (.inr (7, w))]) (m' := m17) (by decide +kernel) rfl ?_
    refine go_callV h.1 (index := 84) (n := 1) (t := 2) (i := a1) (ci := 4) (nf := 4) (cz := (RX4, TX4, 4)) (as := [.inl ((x2 + ((2 : Int32) * s.1)) + (1 : Int32))]) (rest := [.inl r17, .inr (.inr (7, w))]) (ctr_X4_at (xZ X) a1 ((x2 + ((2 : Int32) * s.1)) + (1 : Int32)) m17) (by decide +kernel) rfl rfl wd_v_X0_84 rfl (h.room (by first | decide | omega) (by decide)) h.cl (Nat.le_of_ble_eq_true rfl) puI_ok rfl (fun r29 m29 _ => ?_)
    show Go X (Em X puI) 32 [some (.inr (.inr (7, w))), some (.inr (.inr (2, a1))), some (.inl x2), some (.inl x3), some (.inl s.1)] [.inl r29, .inl r17, .inr (.inr (7, w))] m29 _
    refine go_callV h.1 (index := 90) (n := 2) (t := 7) (i := w) (ci := 0) (nf := 14) (cz := (RX0, TX0, 14)) (as := [.inl r17, .inl r29]) (rest := []) (ctr_X0_pass (xZ X) w r17 r29 m29) (by decide +kernel) rfl rfl wd_v_X0_90 rfl (h.room (by first | decide | omega) (by decide)) h.cl (Nat.le_of_ble_eq_true rfl) puI_ok rfl (fun r32 m32 _ => ?_)
    show Go X (Em X puI) 35 [some (.inr (.inr (7, w))), some (.inr (.inr (2, a1))), some (.inl x2), some (.inl x3), some (.inl s.1)] [.inl r32] m32 _
    refine go_blk h.1 (is := [.bipush (-2)]) (pc' := 37) (ls' := [some (.inr (.inr (7, w))), some (.inr (.inr (2, a1))), some (.inl x2), some (.inl x3), some (.inl s.1)]) (st' := [.inl (-2 : Int32), .inl r32]) (m' := m32) (by decide +kernel) rfl ?_
    refine go_icmpne h.1 (off := 6) 43 (by decide +kernel) (by decide) (fun c37 => ?_) (fun c37 => ?_)
    · refine go_blk h.1 (is := [.iinc 4 1]) (pc' := 46) (ls' := [some (.inr (.inr (7, w))), some (.inr (.inr (2, a1))), some (.inl x2), some (.inl x3), some (.inl (s.1 + (1 : Int32)))]) (st' := []) (m' := m32) (by decide +kernel) rfl ?_
      refine go_goto h.1 (off := -43) 3 (by decide +kernel) (by decide) ?_
      exact hn (s.1 + (1 : Int32)) m32
    · refine go_blk h.1 (is := [.iload 4]) (pc' := 42) (ls' := [some (.inr (.inr (7, w))), some (.inr (.inr (2, a1))), some (.inl x2), some (.inl x3), some (.inl s.1)]) (st' := [.inl s.1]) (m' := m32) (by decide +kernel) rfl ?_
      exact go_iret h.1 h.2.2.2.2 (by decide +kernel)

def f_X0_walk (w : Nat) (a1 : Nat) (x2 : Int32) (x3 : Int32) (m : Mem) : Option (Int32 × Mem) :=
  lpk (f_X0_walk_b3 w a1 x2 x3) fuelN ((0 : Int32), m) (fun t3 =>
    some ((-9 : Int32), t3))
theorem g_X0_walk {X : XT} (h : MX X prog_2_method_3_code P_X0 4 (some .int)) (w : Nat) (a1 : Nat) (x2 : Int32) (x3 : Int32) (m : Mem) : Go X (Em X puI) 0 [some (.inr (.inr (7, w))), some (.inr (.inr (2, a1))), some (.inl x2), some (.inl x3), none] [] m (f_X0_walk w a1 x2 x3 m) := by
  unfold f_X0_walk
  refine go_blk h.1 (is := [.iconst 0, .istore 4]) (pc' := 3) (ls' := [some (.inr (.inr (7, w))), some (.inr (.inr (2, a1))), some (.inl x2), some (.inl x3), some (.inl (0 : Int32))]) (st' := []) (m' := m) (by decide +kernel) rfl ?_
  refine go_lp1 (hd := fun (y4 : Int32) (n : Mem) o => Go X (Em X puI) 3 [some (.inr (.inr (7, w))), some (.inr (.inr (2, a1))), some (.inl x2), some (.inl x3), some (.inl y4)] [] n o) (fun _ _ => go_none) (fun y4 n nx_ hn_ => g_X0_walk_b3 h w a1 x2 x3 nx_ _ hn_ (fun z_3 o0_3 o1_3 o2_3 o3_3 o4_3 => ?_) (y4, n)) fuelN (0 : Int32) m
  refine go_blk h.1 (is := [.bipush (-9)]) (pc' := 51) (ls' := [o0_3, o1_3, o2_3, o3_3, o4_3]) (st' := [.inl (-9 : Int32)]) (m' := z_3) (by decide +kernel) rfl ?_
  exact go_iret h.1 h.2.2.2.2 (by decide +kernel)
theorem ctr_X0_walk (Z : ZT) (w : Nat) (a1 : Nat) (x2 : Int32) (x3 : Int32) (m : Mem) : Ctr Z yX0_walk prog_2_method_3_code 5 (some .int) 4 puI [.inr (.inr (7, w)), .inr (.inr (2, a1)), .inl x2, .inl x3] m (f_X0_walk w a1 x2 x3 m) :=
  ctr_of (P := P_X0) (by decide +kernel) rfl pt_X0 rfl rfl (fun X hC hZ hR h0 h1 hr => by subst hZ; exact g_X0_walk ⟨hC, hR, h0, h1, hr⟩ w a1 x2 x3 m)

def f_X6_walkAsTold (x1 : Int32) (x2 : Int32) (x3 : Int32) (m : Mem) : Option (Int32 × Mem) :=
  bnd (f_X0_start 0 m) (fun _ m8 =>
    if inB x1 4 = true then
      bnd (f_X0_walk 0 (ix x1) x2 x3 m8) (fun r23 m23 =>
        some (r23, m23))
    else none)
theorem g_X6_walkAsTold {X : XT} (h : MX X prog_1_method_40_code P_X6 5 (some .int)) (x1 : Int32) (x2 : Int32) (x3 : Int32) (m : Mem) : Go X (Em X puI) 0 [some (.inr (.inr (0, 0))), some (.inl x1), some (.inl x2), some (.inl x3)] [] m (f_X6_walkAsTold x1 x2 x3 m) := by
  unfold f_X6_walkAsTold
  refine go_blk h.1 (is := [.aload_n 0, .getfield 28, .aload_n 0, .getfield 21]) (pc' := 8) (ls' := [some (.inr (.inr (0, 0))), some (.inl x1), some (.inl x2), some (.inl x3)]) (st' := [.inr (.inr (4, 0)), .inr (.inr (7, 0))]) (m' := m) (by decide +kernel) rfl ?_
  refine go_callV h.1 (index := 170) (n := 1) (t := 7) (i := 0) (ci := 0) (nf := 14) (cz := (RX0, TX0, 14)) (as := [.inr (.inr (4, 0))]) (rest := []) (ctr_X0_start (xZ X) 0 m) (by decide +kernel) rfl rfl wd_v_X6_170 rfl (h.room (by first | decide | omega) (by decide)) h.cl (Nat.le_of_ble_eq_true rfl) puV_ok rfl (fun r8 m8 _ => ?_)
  show Go X (Em X puI) 11 [some (.inr (.inr (0, 0))), some (.inl x1), some (.inl x2), some (.inl x3)] [] m8 _
  refine go_blk h.1 (is := [.aload_n 0, .getfield 28, .aload_n 0, .getfield 13, .iload_n 1]) (pc' := 20) (ls' := [some (.inr (.inr (0, 0))), some (.inl x1), some (.inl x2), some (.inl x3)]) (st' := [.inl x1, .inr (.inr (1, 0)), .inr (.inr (7, 0))]) (m' := m8) (by decide +kernel) rfl ?_
  refine go_aald h.1 (kd := 0) (z := (2, (ix x1))) (by decide +kernel) rfl rfl (by decide) rfl (fun b20 => ?_)
  refine go_blk h.1 (is := [.iload_n 2, .iload_n 3]) (pc' := 23) (ls' := [some (.inr (.inr (0, 0))), some (.inl x1), some (.inl x2), some (.inl x3)]) (st' := [.inl x3, .inl x2, .inr (.inr (2, (ix x1))), .inr (.inr (7, 0))]) (m' := m8) (by decide +kernel) rfl ?_
  refine go_callV h.1 (index := 174) (n := 3) (t := 7) (i := 0) (ci := 0) (nf := 14) (cz := (RX0, TX0, 14)) (as := [.inr (.inr (2, (ix x1))), .inl x2, .inl x3]) (rest := []) (ctr_X0_walk (xZ X) 0 (ix x1) x2 x3 m8) (by decide +kernel) rfl rfl wd_v_X6_174 rfl (h.room (by first | decide | omega) (by decide)) h.cl (Nat.le_of_ble_eq_true rfl) puI_ok rfl (fun r23 m23 _ => ?_)
  show Go X (Em X puI) 26 [some (.inr (.inr (0, 0))), some (.inl x1), some (.inl x2), some (.inl x3)] [.inl r23] m23 _
  exact go_iret h.1 h.2.2.2.2 (by decide +kernel)
theorem ctr_X6_walkAsTold (Z : ZT) (x1 : Int32) (x2 : Int32) (x3 : Int32) (m : Mem) : Ctr Z yX6_walkAsTold prog_1_method_40_code 4 (some .int) 5 puI [.inr (.inr (0, 0)), .inl x1, .inl x2, .inl x3] m (f_X6_walkAsTold x1 x2 x3 m) :=
  ctr_of (P := P_X6) (by decide +kernel) rfl pt_X6 rfl rfl (fun X hC hZ hR h0 h1 hr => by subst hZ; exact g_X6_walkAsTold ⟨hC, hR, h0, h1, hr⟩ x1 x2 x3 m)
end
section
/-! ===== printed by wip/p31/tr.py out of the listing ===== -/
def f_X6_passes_j27 (s0 : Int32) (x1 : Int32) (x2 : Int32) (x3 : Int32) (x4 : Int32) (x5 : Int32) (m : Mem) : Option (Int32 × Mem) :=
  bnd (f_X6_refusalOf x1 x2 x3 x4 s0 m) (fun r37 m37 =>
    if r37 = 0 then
      bnd (f_X6_walkAsTold x1 x3 x4 m37) (fun r55 m55 =>
        if x5 = (1 : Int32) then
          some (r55, m55)
        else
          if r55 = (-9 : Int32) then
            if x5 = (0 : Int32) then
              some ((m55 7 0 13), m55)
            else
              if x5 = (1 : Int32) then
                bnd (f_X5_has (x5 - (10 : Int32)) m55) (fun r161 m161 =>
                  if r161 = 0 then
                    some ((-9 : Int32), m161)
                  else
                    if inB (x5 - (10 : Int32)) 5 = true then
                      some ((m161 10 0 (ix (x5 - (10 : Int32)))), m161)
                    else none)
              else
                if x5 = (2 : Int32) then
                  some ((m55 7 0 10), m55)
                else
                  if x5 = (3 : Int32) then
                    some ((m55 7 0 11), m55)
                  else
                    if x5 = (4 : Int32) then
                      some ((m55 7 0 12), m55)
                    else
                      bnd (f_X5_has (x5 - (10 : Int32)) m55) (fun r161 m161 =>
                        if r161 = 0 then
                          some ((-9 : Int32), m161)
                        else
                          if inB (x5 - (10 : Int32)) 5 = true then
                            some ((m161 10 0 (ix (x5 - (10 : Int32)))), m161)
                          else none)
          else
            some (((-100 : Int32) - r55), m55))
    else
      some (r37, m37))
theorem g_X6_passes_j27 {X : XT} (h : MX X prog_1_method_7_code P_X6 6 (some .int)) (s0 : Int32) (x1 : Int32) (x2 : Int32) (x3 : Int32) (x4 : Int32) (x5 : Int32) (m : Mem) (o6 : Option AV) (o7 : Option AV) (o8 : Option AV) : Go X (Em X puI) 27 [some (.inr (.inr (0, 0))), some (.inl x1), some (.inl x2), some (.inl x3), some (.inl x4), some (.inl x5), o6, o7, o8] [.inl s0] m (f_X6_passes_j27 s0 x1 x2 x3 x4 x5 m) := by
  unfold f_X6_passes_j27
  refine go_blk h.1 (is := [.istore 6, .aload_n 0, .iload_n 1, .iload_n 2, .iload_n 3, .iload 4, .iload 6]) (pc' := 37) (ls' := [some (.inr (.inr (0, 0))), some (.inl x1), some (.inl x2), some (.inl x3), some (.inl x4), some (.inl x5), some (.inl s0), o7, o8]) (st' := [.inl s0, .inl x4, .inl x3, .inl x2, .inl x1, .inr (.inr (0, 0))]) (m' := m) (by decide +kernel) rfl ?_
  refine go_callV h.1 (index := 121) (n := 5) (t := 0) (i := 0) (ci := 6) (nf := 7) (cz := (RX6, TX6, 7)) (as := [.inl x1, .inl x2, .inl x3, .inl x4, .inl s0]) (rest := []) (ctr_X6_refusalOf (xZ X) x1 x2 x3 x4 s0 m) (by decide +kernel) rfl rfl wd_v_X6_121 rfl (h.room (by first | decide | omega) (by decide)) h.cl (Nat.le_of_ble_eq_true rfl) puI_ok rfl (fun r37 m37 _ => ?_)
  show Go X (Em X puI) 40 [some (.inr (.inr (0, 0))), some (.inl x1), some (.inl x2), some (.inl x3), some (.inl x4), some (.inl x5), some (.inl s0), o7, o8] [.inl r37] m37 _
  refine go_blk h.1 (is := [.istore 7, .iload 7]) (pc' := 44) (ls' := [some (.inr (.inr (0, 0))), some (.inl x1), some (.inl x2), some (.inl x3), some (.inl x4), some (.inl x5), some (.inl s0), some (.inl r37), o8]) (st' := [.inl r37]) (m' := m37) (by decide +kernel) rfl ?_
  refine go_ifeq h.1 (off := 6) 50 (by decide +kernel) (by decide) (fun c44 => ?_) (fun c44 => ?_)
  · refine go_blk h.1 (is := [.aload_n 0, .iload_n 1, .iload_n 3, .iload 4]) (pc' := 55) (ls' := [some (.inr (.inr (0, 0))), some (.inl x1), some (.inl x2), some (.inl x3), some (.inl x4), some (.inl x5), some (.inl s0), some (.inl r37), o8]) (st' := [.inl x4, .inl x3, .inl x1, .inr (.inr (0, 0))]) (m' := m37) (by decide +kernel) rfl ?_
    refine go_callV h.1 (index := 125) (n := 3) (t := 0) (i := 0) (ci := 6) (nf := 7) (cz := (RX6, TX6, 7)) (as := [.inl x1, .inl x3, .inl x4]) (rest := []) (ctr_X6_walkAsTold (xZ X) x1 x3 x4 m37) (by decide +kernel) rfl rfl wd_v_X6_125 rfl (h.room (by first | decide | omega) (by decide)) h.cl (Nat.le_of_ble_eq_true rfl) puI_ok rfl (fun r55 m55 _ => ?_)
    show Go X (Em X puI) 58 [some (.inr (.inr (0, 0))), some (.inl x1), some (.inl x2), some (.inl x3), some (.inl x4), some (.inl x5), some (.inl s0), some (.inl r37), o8] [.inl r55] m55 _
    refine go_blk h.1 (is := [.istore 8, .iload 5, .iconst 1]) (pc' := 63) (ls' := [some (.inr (.inr (0, 0))), some (.inl x1), some (.inl x2), some (.inl x3), some (.inl x4), some (.inl x5), some (.inl s0), some (.inl r37), some (.inl r55)]) (st' := [.inl (1 : Int32), .inl x5]) (m' := m55) (by decide +kernel) rfl ?_
    refine go_icmpne h.1 (off := 6) 69 (by decide +kernel) (by decide) (fun c63 => ?_) (fun c63 => ?_)
    · refine go_blk h.1 (is := [.iload 8, .bipush (-9)]) (pc' := 73) (ls' := [some (.inr (.inr (0, 0))), some (.inl x1), some (.inl x2), some (.inl x3), some (.inl x4), some (.inl x5), some (.inl s0), some (.inl r37), some (.inl r55)]) (st' := [.inl (-9 : Int32), .inl r55]) (m' := m55) (by decide +kernel) rfl ?_
      refine go_icmpeq h.1 (off := 9) 82 (by decide +kernel) (by decide) (fun c73 => ?_) (fun c73 => ?_)
      · refine go_blk h.1 (is := [.iload 5]) (pc' := 84) (ls' := [some (.inr (.inr (0, 0))), some (.inl x1), some (.inl x2), some (.inl x3), some (.inl x4), some (.inl x5), some (.inl s0), some (.inl r37), some (.inl r55)]) (st' := [.inl x5]) (m' := m55) (by decide +kernel) rfl ?_
        refine go_ite (fun w84_0 => ?_) (fun w84_0 => ?_)
        · refine go_tsIn h.1 (dflt := 68) (lo := 0) (hi := 4) (offs := #[36, 68, 44, 52, 60]) (len := 36) (off := 36) (0 : Int32) 120 w84_0 (by decide +kernel) (by decide) rfl (by decide) ?_
          refine go_blk h.1 (is := [.aload_n 0, .getfield 28, .getfield 128]) (pc' := 127) (ls' := [some (.inr (.inr (0, 0))), some (.inl x1), some (.inl x2), some (.inl x3), some (.inl x4), some (.inl x5), some (.inl s0), some (.inl r37), some (.inl r55)]) (st' := [.inl (m55 7 0 13)]) (m' := m55) (by decide +kernel) rfl ?_
          exact go_iret h.1 h.2.2.2.2 (by decide +kernel)
        · refine go_ite (fun w84_1 => ?_) (fun w84_1 => ?_)
          · refine go_tsIn h.1 (dflt := 68) (lo := 0) (hi := 4) (offs := #[36, 68, 44, 52, 60]) (len := 36) (off := 68) (1 : Int32) 152 w84_1 (by decide +kernel) (by decide) rfl (by decide) ?_
            refine go_blk h.1 (is := [.aload_n 0, .getfield 21, .iload 5, .bipush 10, .isub]) (pc' := 161) (ls' := [some (.inr (.inr (0, 0))), some (.inl x1), some (.inl x2), some (.inl x3), some (.inl x4), some (.inl x5), some (.inl s0), some (.inl r37), some (.inl r55)]) (st' := [.inl (x5 - (10 : Int32)), .inr (.inr (4, 0))]) (m' := m55) (by decide +kernel) rfl ?_
            refine go_callV h.1 (index := 83) (n := 1) (t := 4) (i := 0) (ci := 5) (nf := 4) (cz := (RX5, TX5, 4)) (as := [.inl (x5 - (10 : Int32))]) (rest := []) (ctr_X5_has (xZ X) (x5 - (10 : Int32)) m55) (by decide +kernel) rfl rfl wd_v_X6_83 rfl (h.room (by first | decide | omega) (by decide)) h.cl (Nat.le_of_ble_eq_true rfl) puI_ok rfl (fun r161 m161 _ => ?_)
            show Go X (Em X puI) 164 [some (.inr (.inr (0, 0))), some (.inl x1), some (.inl x2), some (.inl x3), some (.inl x4), some (.inl x5), some (.inl s0), some (.inl r37), some (.inl r55)] [.inl r161] m161 _
            refine go_ifeq h.1 (off := 19) 183 (by decide +kernel) (by decide) (fun c164 => ?_) (fun c164 => ?_)
            · refine go_blk h.1 (is := [.bipush (-9)]) (pc' := 185) (ls' := [some (.inr (.inr (0, 0))), some (.inl x1), some (.inl x2), some (.inl x3), some (.inl x4), some (.inl x5), some (.inl s0), some (.inl r37), some (.inl r55)]) (st' := [.inl (-9 : Int32)]) (m' := m161) (by decide +kernel) rfl ?_
              exact go_iret h.1 h.2.2.2.2 (by decide +kernel)
            · refine go_blk h.1 (is := [.aload_n 0, .getfield 28, .getfield 138, .iload 5, .bipush 10, .isub]) (pc' := 179) (ls' := [some (.inr (.inr (0, 0))), some (.inl x1), some (.inl x2), some (.inl x3), some (.inl x4), some (.inl x5), some (.inl s0), some (.inl r37), some (.inl r55)]) (st' := [.inl (x5 - (10 : Int32)), .inr (.inr (10, 0))]) (m' := m161) (by decide +kernel) rfl ?_
              refine go_iald h.1 (by decide +kernel) rfl rfl (fun b179 => ?_)
              show Go X (Em X puI) 180 [some (.inr (.inr (0, 0))), some (.inl x1), some (.inl x2), some (.inl x3), some (.inl x4), some (.inl x5), some (.inl s0), some (.inl r37), some (.inl r55)] [.inl (m161 10 0 (ix (x5 - (10 : Int32))))] m161 _
              refine go_goto h.1 (off := 5) 185 (by decide +kernel) (by decide) ?_
              exact go_iret h.1 h.2.2.2.2 (by decide +kernel)
          · refine go_ite (fun w84_2 => ?_) (fun w84_2 => ?_)
            · refine go_tsIn h.1 (dflt := 68) (lo := 0) (hi := 4) (offs := #[36, 68, 44, 52, 60]) (len := 36) (off := 44) (2 : Int32) 128 w84_2 (by decide +kernel) (by decide) rfl (by decide) ?_
              refine go_blk h.1 (is := [.aload_n 0, .getfield 28, .getfield 131]) (pc' := 135) (ls' := [some (.inr (.inr (0, 0))), some (.inl x1), some (.inl x2), some (.inl x3), some (.inl x4), some (.inl x5), some (.inl s0), some (.inl r37), some (.inl r55)]) (st' := [.inl (m55 7 0 10)]) (m' := m55) (by decide +kernel) rfl ?_
              exact go_iret h.1 h.2.2.2.2 (by decide +kernel)
            · refine go_ite (fun w84_3 => ?_) (fun w84_3 => ?_)
              · refine go_tsIn h.1 (dflt := 68) (lo := 0) (hi := 4) (offs := #[36, 68, 44, 52, 60]) (len := 36) (off := 52) (3 : Int32) 136 w84_3 (by decide +kernel) (by decide) rfl (by decide) ?_
                refine go_blk h.1 (is := [.aload_n 0, .getfield 28, .getfield 132]) (pc' := 143) (ls' := [some (.inr (.inr (0, 0))), some (.inl x1), some (.inl x2), some (.inl x3), some (.inl x4), some (.inl x5), some (.inl s0), some (.inl r37), some (.inl r55)]) (st' := [.inl (m55 7 0 11)]) (m' := m55) (by decide +kernel) rfl ?_
                exact go_iret h.1 h.2.2.2.2 (by decide +kernel)
              · refine go_ite (fun w84_4 => ?_) (fun w84_4 => ?_)
                · refine go_tsIn h.1 (dflt := 68) (lo := 0) (hi := 4) (offs := #[36, 68, 44, 52, 60]) (len := 36) (off := 60) (4 : Int32) 144 w84_4 (by decide +kernel) (by decide) rfl (by decide) ?_
                  refine go_blk h.1 (is := [.aload_n 0, .getfield 28, .getfield 135]) (pc' := 151) (ls' := [some (.inr (.inr (0, 0))), some (.inl x1), some (.inl x2), some (.inl x3), some (.inl x4), some (.inl x5), some (.inl s0), some (.inl r37), some (.inl r55)]) (st' := [.inl (m55 7 0 12)]) (m' := m55) (by decide +kernel) rfl ?_
                  exact go_iret h.1 h.2.2.2.2 (by decide +kernel)
                · refine go_tsOut h.1 (dflt := 68) (lo := 0) (hi := 4) (offs := #[36, 68, 44, 52, 60]) (len := 36) 152 (by decide +kernel) (sw_out (n := 5) (by decide) ((lt_s (lt_s (lt_s (lt_s (lt_s lt_0 w84_0) w84_1) w84_2) w84_3) w84_4) : ∀ j : Nat, j < 5 → ¬ x5 = Int32.ofInt (0 + (j : Int)))) (by decide) ?_
                  refine go_blk h.1 (is := [.aload_n 0, .getfield 21, .iload 5, .bipush 10, .isub]) (pc' := 161) (ls' := [some (.inr (.inr (0, 0))), some (.inl x1), some (.inl x2), some (.inl x3), some (.inl x4), some (.inl x5), some (.inl s0), some (.inl r37), some (.inl r55)]) (st' := [.inl (x5 - (10 : Int32)), .inr (.inr (4, 0))]) (m' := m55) (by decide +kernel) rfl ?_
                  refine go_callV h.1 (index := 83) (n := 1) (t := 4) (i := 0) (ci := 5) (nf := 4) (cz := (RX5, TX5, 4)) (as := [.inl (x5 - (10 : Int32))]) (rest := []) (ctr_X5_has (xZ X) (x5 - (10 : Int32)) m55) (by decide +kernel) rfl rfl wd_v_X6_83 rfl (h.room (by first | decide | omega) (by decide)) h.cl (Nat.le_of_ble_eq_true rfl) puI_ok rfl (fun r161 m161 _ => ?_)
                  show Go X (Em X puI) 164 [some (.inr (.inr (0, 0))), some (.inl x1), some (.inl x2), some (.inl x3), some (.inl x4), some (.inl x5), some (.inl s0), some (.inl r37), some (.inl r55)] [.inl r161] m161 _
                  refine go_ifeq h.1 (off := 19) 183 (by decide +kernel) (by decide) (fun c164 => ?_) (fun c164 => ?_)
                  · refine go_blk h.1 (is := [.bipush (-9)]) (pc' := 185) (ls' := [some (.inr (.inr (0, 0))), some (.inl x1), some (.inl x2), some (.inl x3), some (.inl x4), some (.inl x5), some (.inl s0), some (.inl r37), some (.inl r55)]) (st' := [.inl (-9 : Int32)]) (m' := m161) (by decide +kernel) rfl ?_
                    exact go_iret h.1 h.2.2.2.2 (by decide +kernel)
                  · refine go_blk h.1 (is := [.aload_n 0, .getfield 28, .getfield 138, .iload 5, .bipush 10, .isub]) (pc' := 179) (ls' := [some (.inr (.inr (0, 0))), some (.inl x1), some (.inl x2), some (.inl x3), some (.inl x4), some (.inl x5), some (.inl s0), some (.inl r37), some (.inl r55)]) (st' := [.inl (x5 - (10 : Int32)), .inr (.inr (10, 0))]) (m' := m161) (by decide +kernel) rfl ?_
                    refine go_iald h.1 (by decide +kernel) rfl rfl (fun b179 => ?_)
                    show Go X (Em X puI) 180 [some (.inr (.inr (0, 0))), some (.inl x1), some (.inl x2), some (.inl x3), some (.inl x4), some (.inl x5), some (.inl s0), some (.inl r37), some (.inl r55)] [.inl (m161 10 0 (ix (x5 - (10 : Int32))))] m161 _
                    refine go_goto h.1 (off := 5) 185 (by decide +kernel) (by decide) ?_
                    exact go_iret h.1 h.2.2.2.2 (by decide +kernel)
      · refine go_blk h.1 (is := [.bipush (-100), .iload 8, .isub]) (pc' := 81) (ls' := [some (.inr (.inr (0, 0))), some (.inl x1), some (.inl x2), some (.inl x3), some (.inl x4), some (.inl x5), some (.inl s0), some (.inl r37), some (.inl r55)]) (st' := [.inl ((-100 : Int32) - r55)]) (m' := m55) (by decide +kernel) rfl ?_
        exact go_iret h.1 h.2.2.2.2 (by decide +kernel)
    · refine go_blk h.1 (is := [.iload 8]) (pc' := 68) (ls' := [some (.inr (.inr (0, 0))), some (.inl x1), some (.inl x2), some (.inl x3), some (.inl x4), some (.inl x5), some (.inl s0), some (.inl r37), some (.inl r55)]) (st' := [.inl r55]) (m' := m55) (by decide +kernel) rfl ?_
      exact go_iret h.1 h.2.2.2.2 (by decide +kernel)
  · refine go_blk h.1 (is := [.iload 7]) (pc' := 49) (ls' := [some (.inr (.inr (0, 0))), some (.inl x1), some (.inl x2), some (.inl x3), some (.inl x4), some (.inl x5), some (.inl s0), some (.inl r37), o8]) (st' := [.inl r37]) (m' := m37) (by decide +kernel) rfl ?_
    exact go_iret h.1 h.2.2.2.2 (by decide +kernel)

def f_X6_passes_j22 (x1 : Int32) (x2 : Int32) (x3 : Int32) (x4 : Int32) (x5 : Int32) (m : Mem) : Option (Int32 × Mem) :=
  f_X6_passes_j27 (1 : Int32) x1 x2 x3 x4 x5 m
theorem g_X6_passes_j22 {X : XT} (h : MX X prog_1_method_7_code P_X6 6 (some .int)) (x1 : Int32) (x2 : Int32) (x3 : Int32) (x4 : Int32) (x5 : Int32) (m : Mem) (o6 : Option AV) (o7 : Option AV) (o8 : Option AV) : Go X (Em X puI) 22 [some (.inr (.inr (0, 0))), some (.inl x1), some (.inl x2), some (.inl x3), some (.inl x4), some (.inl x5), o6, o7, o8] [] m (f_X6_passes_j22 x1 x2 x3 x4 x5 m) := by
  unfold f_X6_passes_j22
  refine go_blk h.1 (is := [.iconst 1]) (pc' := 23) (ls' := [some (.inr (.inr (0, 0))), some (.inl x1), some (.inl x2), some (.inl x3), some (.inl x4), some (.inl x5), o6, o7, o8]) (st' := [.inl (1 : Int32)]) (m' := m) (by decide +kernel) rfl ?_
  refine go_goto h.1 (off := 4) 27 (by decide +kernel) (by decide) ?_
  exact g_X6_passes_j27 h (1 : Int32) x1 x2 x3 x4 x5 m (o6) (o7) (o8)

def f_X6_passes (x1 : Int32) (x2 : Int32) (x3 : Int32) (x4 : Int32) (x5 : Int32) (m : Mem) : Option (Int32 × Mem) :=
  bnd (f_X6_isWithin x5 (0 : Int32) (4 : Int32) m) (fun r4 m4 =>
    if r4 = 0 then
      bnd (f_X6_isWithin x5 (10 : Int32) (14 : Int32) m4) (fun r16 m16 =>
        if r16 = 0 then
          f_X6_passes_j27 (0 : Int32) x1 x2 x3 x4 x5 m16
        else
          f_X6_passes_j22 x1 x2 x3 x4 x5 m16)
    else
      f_X6_passes_j22 x1 x2 x3 x4 x5 m4)
theorem g_X6_passes {X : XT} (h : MX X prog_1_method_7_code P_X6 6 (some .int)) (x1 : Int32) (x2 : Int32) (x3 : Int32) (x4 : Int32) (x5 : Int32) (m : Mem) : Go X (Em X puI) 0 [some (.inr (.inr (0, 0))), some (.inl x1), some (.inl x2), some (.inl x3), some (.inl x4), some (.inl x5), none, none, none] [] m (f_X6_passes x1 x2 x3 x4 x5 m) := by
  unfold f_X6_passes
  refine go_blk h.1 (is := [.iload 5, .iconst 0, .iconst 4]) (pc' := 4) (ls' := [some (.inr (.inr (0, 0))), some (.inl x1), some (.inl x2), some (.inl x3), some (.inl x4), some (.inl x5), none, none, none]) (st' := [.inl (4 : Int32), .inl (0 : Int32), .inl x5]) (m' := m) (by decide +kernel) rfl ?_
  refine go_callS h.1 (index := 111) (n := 3) (as := [.inl x5, .inl (0 : Int32), .inl (4 : Int32)]) (rest := []) (ctr_X6_isWithin (xZ X) x5 (0 : Int32) (4 : Int32) m) (by decide +kernel) wd_s_X6_111 rfl (h.room (by first | decide | omega) (by decide)) h.cl (Nat.le_of_ble_eq_true rfl) puI_ok rfl (fun r4 m4 _ => ?_)
  show Go X (Em X puI) 7 [some (.inr (.inr (0, 0))), some (.inl x1), some (.inl x2), some (.inl x3), some (.inl x4), some (.inl x5), none, none, none] [.inl r4] m4 _
  refine go_ifne h.1 (off := 15) 22 (by decide +kernel) (by decide) (fun c7 => ?_) (fun c7 => ?_)
  · exact g_X6_passes_j22 h x1 x2 x3 x4 x5 m4 (none) (none) (none)
  · refine go_blk h.1 (is := [.iload 5, .bipush 10, .bipush 14]) (pc' := 16) (ls' := [some (.inr (.inr (0, 0))), some (.inl x1), some (.inl x2), some (.inl x3), some (.inl x4), some (.inl x5), none, none, none]) (st' := [.inl (14 : Int32), .inl (10 : Int32), .inl x5]) (m' := m4) (by decide +kernel) rfl ?_
    refine go_callS h.1 (index := 111) (n := 3) (as := [.inl x5, .inl (10 : Int32), .inl (14 : Int32)]) (rest := []) (ctr_X6_isWithin (xZ X) x5 (10 : Int32) (14 : Int32) m4) (by decide +kernel) wd_s_X6_111 rfl (h.room (by first | decide | omega) (by decide)) h.cl (Nat.le_of_ble_eq_true rfl) puI_ok rfl (fun r16 m16 _ => ?_)
    show Go X (Em X puI) 19 [some (.inr (.inr (0, 0))), some (.inl x1), some (.inl x2), some (.inl x3), some (.inl x4), some (.inl x5), none, none, none] [.inl r16] m16 _
    refine go_ifeq h.1 (off := 7) 26 (by decide +kernel) (by decide) (fun c19 => ?_) (fun c19 => ?_)
    · refine go_blk h.1 (is := [.iconst 0]) (pc' := 27) (ls' := [some (.inr (.inr (0, 0))), some (.inl x1), some (.inl x2), some (.inl x3), some (.inl x4), some (.inl x5), none, none, none]) (st' := [.inl (0 : Int32)]) (m' := m16) (by decide +kernel) rfl ?_
      exact g_X6_passes_j27 h (0 : Int32) x1 x2 x3 x4 x5 m16 (none) (none) (none)
    · exact g_X6_passes_j22 h x1 x2 x3 x4 x5 m16 (none) (none) (none)
theorem ctr_X6_passes (Z : ZT) (x1 : Int32) (x2 : Int32) (x3 : Int32) (x4 : Int32) (x5 : Int32) (m : Mem) : Ctr Z yX6_passes prog_1_method_7_code 9 (some .int) 6 puI [.inr (.inr (0, 0)), .inl x1, .inl x2, .inl x3, .inl x4, .inl x5] m (f_X6_passes x1 x2 x3 x4 x5 m) :=
  ctr_of (P := P_X6) (by decide +kernel) rfl pt_X6 rfl rfl (fun X hC hZ hR h0 h1 hr => by subst hZ; exact g_X6_passes ⟨hC, hR, h0, h1, hr⟩ x1 x2 x3 x4 x5 m)

def f_X6_unknownFish (m : Mem) : Option (Int32 × Mem) :=
  some ((-1 : Int32), (mset m 0 0 6 (0 : Int32)))
theorem g_X6_unknownFish {X : XT} (h : MX X prog_1_method_37_code P_X6 0 (some .int)) (m : Mem) : Go X (Em X puI) 0 [some (.inr (.inr (0, 0)))] [] m (f_X6_unknownFish m) := by
  unfold f_X6_unknownFish
  refine go_blk h.1 (is := [.aload_n 0, .iconst 0, .putfield 50, .iconst (-1)]) (pc' := 6) (ls' := [some (.inr (.inr (0, 0)))]) (st' := [.inl (-1 : Int32)]) (m' := (mset m 0 0 6 (0 : Int32))) (by decide +kernel) rfl ?_
  exact go_iret h.1 h.2.2.2.2 (by decide +kernel)
theorem ctr_X6_unknownFish (Z : ZT) (m : Mem) : Ctr Z yX6_unknownFish prog_1_method_37_code 1 (some .int) 0 puI [.inr (.inr (0, 0))] m (f_X6_unknownFish m) :=
  ctr_of (P := P_X6) (by decide +kernel) rfl pt_X6 rfl rfl (fun X hC hZ hR h0 h1 hr => by subst hZ; exact g_X6_unknownFish ⟨hC, hR, h0, h1, hr⟩ m)

def f_X6_refusalWithFish (x1 : Int32) (x2 : Int32) (x3 : Int32) (x4 : Int32) (x5 : Int32) (m : Mem) : Option (Int32 × Mem) :=
  bnd (f_X5_has x1 m) (fun r5 m5 =>
    if r5 = 0 then
      bnd (f_X6_unknownFish m5) (fun r26 m26 =>
        some (r26, m26))
    else
      bnd (f_X6_refusalOf x2 x3 x4 x5 (1 : Int32) m5) (fun r19 m19 =>
        some (r19, m19)))
theorem g_X6_refusalWithFish {X : XT} (h : MX X prog_1_method_38_code P_X6 3 (some .int)) (x1 : Int32) (x2 : Int32) (x3 : Int32) (x4 : Int32) (x5 : Int32) (m : Mem) : Go X (Em X puI) 0 [some (.inr (.inr (0, 0))), some (.inl x1), some (.inl x2), some (.inl x3), some (.inl x4), some (.inl x5)] [] m (f_X6_refusalWithFish x1 x2 x3 x4 x5 m) := by
  unfold f_X6_refusalWithFish
  refine go_blk h.1 (is := [.aload_n 0, .getfield 21, .iload_n 1]) (pc' := 5) (ls' := [some (.inr (.inr (0, 0))), some (.inl x1), some (.inl x2), some (.inl x3), some (.inl x4), some (.inl x5)]) (st' := [.inl x1, .inr (.inr (4, 0))]) (m' := m) (by decide +kernel) rfl ?_
  refine go_callV h.1 (index := 83) (n := 1) (t := 4) (i := 0) (ci := 5) (nf := 4) (cz := (RX5, TX5, 4)) (as := [.inl x1]) (rest := []) (ctr_X5_has (xZ X) x1 m) (by decide +kernel) rfl rfl wd_v_X6_83 rfl (h.room (by first | decide | omega) (by decide)) h.cl (Nat.le_of_ble_eq_true rfl) puI_ok rfl (fun r5 m5 _ => ?_)
  show Go X (Em X puI) 8 [some (.inr (.inr (0, 0))), some (.inl x1), some (.inl x2), some (.inl x3), some (.inl x4), some (.inl x5)] [.inl r5] m5 _
  refine go_ifeq h.1 (off := 17) 25 (by decide +kernel) (by decide) (fun c8 => ?_) (fun c8 => ?_)
  · refine go_blk h.1 (is := [.aload_n 0]) (pc' := 26) (ls' := [some (.inr (.inr (0, 0))), some (.inl x1), some (.inl x2), some (.inl x3), some (.inl x4), some (.inl x5)]) (st' := [.inr (.inr (0, 0))]) (m' := m5) (by decide +kernel) rfl ?_
    refine go_callV h.1 (index := 145) (n := 0) (t := 0) (i := 0) (ci := 6) (nf := 7) (cz := (RX6, TX6, 7)) (as := []) (rest := []) (ctr_X6_unknownFish (xZ X) m5) (by decide +kernel) rfl rfl wd_v_X6_145 rfl (h.room (by first | decide | omega) (by decide)) h.cl (Nat.le_of_ble_eq_true rfl) puI_ok rfl (fun r26 m26 _ => ?_)
    show Go X (Em X puI) 29 [some (.inr (.inr (0, 0))), some (.inl x1), some (.inl x2), some (.inl x3), some (.inl x4), some (.inl x5)] [.inl r26] m26 _
    exact go_iret h.1 h.2.2.2.2 (by decide +kernel)
  · refine go_blk h.1 (is := [.aload_n 0, .iload_n 2, .iload_n 3, .iload 4, .iload 5, .iconst 1]) (pc' := 19) (ls' := [some (.inr (.inr (0, 0))), some (.inl x1), some (.inl x2), some (.inl x3), some (.inl x4), some (.inl x5)]) (st' := [.inl (1 : Int32), .inl x5, .inl x4, .inl x3, .inl x2, .inr (.inr (0, 0))]) (m' := m5) (by decide +kernel) rfl ?_
    refine go_callV h.1 (index := 121) (n := 5) (t := 0) (i := 0) (ci := 6) (nf := 7) (cz := (RX6, TX6, 7)) (as := [.inl x2, .inl x3, .inl x4, .inl x5, .inl (1 : Int32)]) (rest := []) (ctr_X6_refusalOf (xZ X) x2 x3 x4 x5 (1 : Int32) m5) (by decide +kernel) rfl rfl wd_v_X6_121 rfl (h.room (by first | decide | omega) (by decide)) h.cl (Nat.le_of_ble_eq_true rfl) puI_ok rfl (fun r19 m19 _ => ?_)
    show Go X (Em X puI) 22 [some (.inr (.inr (0, 0))), some (.inl x1), some (.inl x2), some (.inl x3), some (.inl x4), some (.inl x5)] [.inl r19] m19 _
    refine go_goto h.1 (off := 7) 29 (by decide +kernel) (by decide) ?_
    exact go_iret h.1 h.2.2.2.2 (by decide +kernel)
theorem ctr_X6_refusalWithFish (Z : ZT) (x1 : Int32) (x2 : Int32) (x3 : Int32) (x4 : Int32) (x5 : Int32) (m : Mem) : Ctr Z yX6_refusalWithFish prog_1_method_38_code 6 (some .int) 3 puI [.inr (.inr (0, 0)), .inl x1, .inl x2, .inl x3, .inl x4, .inl x5] m (f_X6_refusalWithFish x1 x2 x3 x4 x5 m) :=
  ctr_of (P := P_X6) (by decide +kernel) rfl pt_X6 rfl rfl (fun X hC hZ hR h0 h1 hr => by subst hZ; exact g_X6_refusalWithFish ⟨hC, hR, h0, h1, hr⟩ x1 x2 x3 x4 x5 m)

def f_X6_owes_j30 (s0 : Int32) (x1 : Int32) (x2 : Int32) (x3 : Int32) (x5 : Int32) (x6 : Int32) (m : Mem) : Option (Int32 × Mem) :=
  if s0 = 0 then
    bnd (f_X6_walkAsTold x3 x5 x6 m) (fun r46 m46 =>
      if r46 = (-9 : Int32) then
        if inB x1 5 = true then
          if inB x2 5 = true then
            some ((m46 14 (5 * 0 + (ix x1)) (ix x2)), m46)
          else none
        else none
      else
        some (((-100 : Int32) - r46), m46))
  else
    some (s0, m)
theorem g_X6_owes_j30 {X : XT} (h : MX X prog_1_method_8_code P_X6 6 (some .int)) (s0 : Int32) (x1 : Int32) (x2 : Int32) (x3 : Int32) (x5 : Int32) (x6 : Int32) (m : Mem) (o4 : Option AV) (o7 : Option AV) (o8 : Option AV) : Go X (Em X puI) 30 [some (.inr (.inr (0, 0))), some (.inl x1), some (.inl x2), some (.inl x3), o4, some (.inl x5), some (.inl x6), o7, o8] [.inl s0] m (f_X6_owes_j30 s0 x1 x2 x3 x5 x6 m) := by
  unfold f_X6_owes_j30
  refine go_blk h.1 (is := [.istore 7, .iload 7]) (pc' := 34) (ls' := [some (.inr (.inr (0, 0))), some (.inl x1), some (.inl x2), some (.inl x3), o4, some (.inl x5), some (.inl x6), some (.inl s0), o8]) (st' := [.inl s0]) (m' := m) (by decide +kernel) rfl ?_
  refine go_ifeq h.1 (off := 6) 40 (by decide +kernel) (by decide) (fun c34 => ?_) (fun c34 => ?_)
  · refine go_blk h.1 (is := [.aload_n 0, .iload_n 3, .iload 5, .iload 6]) (pc' := 46) (ls' := [some (.inr (.inr (0, 0))), some (.inl x1), some (.inl x2), some (.inl x3), o4, some (.inl x5), some (.inl x6), some (.inl s0), o8]) (st' := [.inl x6, .inl x5, .inl x3, .inr (.inr (0, 0))]) (m' := m) (by decide +kernel) rfl ?_
    refine go_callV h.1 (index := 125) (n := 3) (t := 0) (i := 0) (ci := 6) (nf := 7) (cz := (RX6, TX6, 7)) (as := [.inl x3, .inl x5, .inl x6]) (rest := []) (ctr_X6_walkAsTold (xZ X) x3 x5 x6 m) (by decide +kernel) rfl rfl wd_v_X6_125 rfl (h.room (by first | decide | omega) (by decide)) h.cl (Nat.le_of_ble_eq_true rfl) puI_ok rfl (fun r46 m46 _ => ?_)
    show Go X (Em X puI) 49 [some (.inr (.inr (0, 0))), some (.inl x1), some (.inl x2), some (.inl x3), o4, some (.inl x5), some (.inl x6), some (.inl s0), o8] [.inl r46] m46 _
    refine go_blk h.1 (is := [.istore 8, .iload 8, .bipush (-9)]) (pc' := 55) (ls' := [some (.inr (.inr (0, 0))), some (.inl x1), some (.inl x2), some (.inl x3), o4, some (.inl x5), some (.inl x6), some (.inl s0), some (.inl r46)]) (st' := [.inl (-9 : Int32), .inl r46]) (m' := m46) (by decide +kernel) rfl ?_
    refine go_icmpeq h.1 (off := 11) 66 (by decide +kernel) (by decide) (fun c55 => ?_) (fun c55 => ?_)
    · refine go_blk h.1 (is := [.aload_n 0, .getfield 28, .getfield 149, .iload_n 1]) (pc' := 74) (ls' := [some (.inr (.inr (0, 0))), some (.inl x1), some (.inl x2), some (.inl x3), o4, some (.inl x5), some (.inl x6), some (.inl s0), some (.inl r46)]) (st' := [.inl x1, .inr (.inr (13, 0))]) (m' := m46) (by decide +kernel) rfl ?_
      refine go_aald h.1 (kd := 2) (z := (14, (5 * 0 + (ix x1)))) (by decide +kernel) rfl rfl (by decide) rfl (fun b74 => ?_)
      refine go_blk h.1 (is := [.iload_n 2]) (pc' := 76) (ls' := [some (.inr (.inr (0, 0))), some (.inl x1), some (.inl x2), some (.inl x3), o4, some (.inl x5), some (.inl x6), some (.inl s0), some (.inl r46)]) (st' := [.inl x2, .inr (.inr (14, (5 * 0 + (ix x1))))]) (m' := m46) (by decide +kernel) rfl ?_
      refine go_iald h.1 (by decide +kernel) rfl rfl (fun b76 => ?_)
      show Go X (Em X puI) 77 [some (.inr (.inr (0, 0))), some (.inl x1), some (.inl x2), some (.inl x3), o4, some (.inl x5), some (.inl x6), some (.inl s0), some (.inl r46)] [.inl (m46 14 (5 * 0 + (ix x1)) (ix x2))] m46 _
      exact go_iret h.1 h.2.2.2.2 (by decide +kernel)
    · refine go_blk h.1 (is := [.bipush (-100), .iload 8, .isub]) (pc' := 63) (ls' := [some (.inr (.inr (0, 0))), some (.inl x1), some (.inl x2), some (.inl x3), o4, some (.inl x5), some (.inl x6), some (.inl s0), some (.inl r46)]) (st' := [.inl ((-100 : Int32) - r46)]) (m' := m46) (by decide +kernel) rfl ?_
      refine go_goto h.1 (off := 14) 77 (by decide +kernel) (by decide) ?_
      exact go_iret h.1 h.2.2.2.2 (by decide +kernel)
  · refine go_blk h.1 (is := [.iload 7]) (pc' := 39) (ls' := [some (.inr (.inr (0, 0))), some (.inl x1), some (.inl x2), some (.inl x3), o4, some (.inl x5), some (.inl x6), some (.inl s0), o8]) (st' := [.inl s0]) (m' := m) (by decide +kernel) rfl ?_
    exact go_iret h.1 h.2.2.2.2 (by decide +kernel)

def f_X6_owes (x1 : Int32) (x2 : Int32) (x3 : Int32) (x4 : Int32) (x5 : Int32) (x6 : Int32) (m : Mem) : Option (Int32 × Mem) :=
  bnd (f_X5_has x2 m) (fun r5 m5 =>
    if r5 = 0 then
      bnd (f_X6_unknownFish m5) (fun r27 m27 =>
        f_X6_owes_j30 r27 x1 x2 x3 x5 x6 m27)
    else
      bnd (f_X6_refusalWithFish x1 x3 x4 x5 x6 m5) (fun r20 m20 =>
        f_X6_owes_j30 r20 x1 x2 x3 x5 x6 m20))
theorem g_X6_owes {X : XT} (h : MX X prog_1_method_8_code P_X6 6 (some .int)) (x1 : Int32) (x2 : Int32) (x3 : Int32) (x4 : Int32) (x5 : Int32) (x6 : Int32) (m : Mem) : Go X (Em X puI) 0 [some (.inr (.inr (0, 0))), some (.inl x1), some (.inl x2), some (.inl x3), some (.inl x4), some (.inl x5), some (.inl x6), none, none] [] m (f_X6_owes x1 x2 x3 x4 x5 x6 m) := by
  unfold f_X6_owes
  refine go_blk h.1 (is := [.aload_n 0, .getfield 21, .iload_n 2]) (pc' := 5) (ls' := [some (.inr (.inr (0, 0))), some (.inl x1), some (.inl x2), some (.inl x3), some (.inl x4), some (.inl x5), some (.inl x6), none, none]) (st' := [.inl x2, .inr (.inr (4, 0))]) (m' := m) (by decide +kernel) rfl ?_
  refine go_callV h.1 (index := 83) (n := 1) (t := 4) (i := 0) (ci := 5) (nf := 4) (cz := (RX5, TX5, 4)) (as := [.inl x2]) (rest := []) (ctr_X5_has (xZ X) x2 m) (by decide +kernel) rfl rfl wd_v_X6_83 rfl (h.room (by first | decide | omega) (by decide)) h.cl (Nat.le_of_ble_eq_true rfl) puI_ok rfl (fun r5 m5 _ => ?_)
  show Go X (Em X puI) 8 [some (.inr (.inr (0, 0))), some (.inl x1), some (.inl x2), some (.inl x3), some (.inl x4), some (.inl x5), some (.inl x6), none, none] [.inl r5] m5 _
  refine go_ifeq h.1 (off := 18) 26 (by decide +kernel) (by decide) (fun c8 => ?_) (fun c8 => ?_)
  · refine go_blk h.1 (is := [.aload_n 0]) (pc' := 27) (ls' := [some (.inr (.inr (0, 0))), some (.inl x1), some (.inl x2), some (.inl x3), some (.inl x4), some (.inl x5), some (.inl x6), none, none]) (st' := [.inr (.inr (0, 0))]) (m' := m5) (by decide +kernel) rfl ?_
    refine go_callV h.1 (index := 145) (n := 0) (t := 0) (i := 0) (ci := 6) (nf := 7) (cz := (RX6, TX6, 7)) (as := []) (rest := []) (ctr_X6_unknownFish (xZ X) m5) (by decide +kernel) rfl rfl wd_v_X6_145 rfl (h.room (by first | decide | omega) (by decide)) h.cl (Nat.le_of_ble_eq_true rfl) puI_ok rfl (fun r27 m27 _ => ?_)
    show Go X (Em X puI) 30 [some (.inr (.inr (0, 0))), some (.inl x1), some (.inl x2), some (.inl x3), some (.inl x4), some (.inl x5), some (.inl x6), none, none] [.inl r27] m27 _
    exact g_X6_owes_j30 h r27 x1 x2 x3 x5 x6 m27 (some (.inl x4)) (none) (none)
  · refine go_blk h.1 (is := [.aload_n 0, .iload_n 1, .iload_n 3, .iload 4, .iload 5, .iload 6]) (pc' := 20) (ls' := [some (.inr (.inr (0, 0))), some (.inl x1), some (.inl x2), some (.inl x3), some (.inl x4), some (.inl x5), some (.inl x6), none, none]) (st' := [.inl x6, .inl x5, .inl x4, .inl x3, .inl x1, .inr (.inr (0, 0))]) (m' := m5) (by decide +kernel) rfl ?_
    refine go_callV h.1 (index := 141) (n := 5) (t := 0) (i := 0) (ci := 6) (nf := 7) (cz := (RX6, TX6, 7)) (as := [.inl x1, .inl x3, .inl x4, .inl x5, .inl x6]) (rest := []) (ctr_X6_refusalWithFish (xZ X) x1 x3 x4 x5 x6 m5) (by decide +kernel) rfl rfl wd_v_X6_141 rfl (h.room (by first | decide | omega) (by decide)) h.cl (Nat.le_of_ble_eq_true rfl) puI_ok rfl (fun r20 m20 _ => ?_)
    show Go X (Em X puI) 23 [some (.inr (.inr (0, 0))), some (.inl x1), some (.inl x2), some (.inl x3), some (.inl x4), some (.inl x5), some (.inl x6), none, none] [.inl r20] m20 _
    refine go_goto h.1 (off := 7) 30 (by decide +kernel) (by decide) ?_
    exact g_X6_owes_j30 h r20 x1 x2 x3 x5 x6 m20 (some (.inl x4)) (none) (none)
theorem ctr_X6_owes (Z : ZT) (x1 : Int32) (x2 : Int32) (x3 : Int32) (x4 : Int32) (x5 : Int32) (x6 : Int32) (m : Mem) : Ctr Z yX6_owes prog_1_method_8_code 9 (some .int) 6 puI [.inr (.inr (0, 0)), .inl x1, .inl x2, .inl x3, .inl x4, .inl x5, .inl x6] m (f_X6_owes x1 x2 x3 x4 x5 x6 m) :=
  ctr_of (P := P_X6) (by decide +kernel) rfl pt_X6 rfl rfl (fun X hC hZ hR h0 h1 hr => by subst hZ; exact g_X6_owes ⟨hC, hR, h0, h1, hr⟩ x1 x2 x3 x4 x5 x6 m)

def f_X6_toll (x1 : Int32) (x2 : Int32) (x3 : Int32) (x4 : Int32) (x5 : Int32) (m : Mem) : Option (Int32 × Mem) :=
  bnd (f_X6_refusalWithFish x1 x2 x3 x4 x5 m) (fun r8 m8 =>
    if r8 = 0 then
      bnd (f_X6_walkAsTold x2 x4 x5 m8) (fun r27 m27 =>
        if r27 = (-9 : Int32) then
          bnd (f_X0_tollOf 0 x1 m27) (fun r52 m52 =>
            some (r52, m52))
        else
          some (((-100 : Int32) - r27), m27))
    else
      some (r8, m8))
theorem g_X6_toll {X : XT} (h : MX X prog_1_method_9_code P_X6 6 (some .int)) (x1 : Int32) (x2 : Int32) (x3 : Int32) (x4 : Int32) (x5 : Int32) (m : Mem) : Go X (Em X puI) 0 [some (.inr (.inr (0, 0))), some (.inl x1), some (.inl x2), some (.inl x3), some (.inl x4), some (.inl x5), none, none] [] m (f_X6_toll x1 x2 x3 x4 x5 m) := by
  unfold f_X6_toll
  refine go_blk h.1 (is := [.aload_n 0, .iload_n 1, .iload_n 2, .iload_n 3, .iload 4, .iload 5]) (pc' := 8) (ls' := [some (.inr (.inr (0, 0))), some (.inl x1), some (.inl x2), some (.inl x3), some (.inl x4), some (.inl x5), none, none]) (st' := [.inl x5, .inl x4, .inl x3, .inl x2, .inl x1, .inr (.inr (0, 0))]) (m' := m) (by decide +kernel) rfl ?_
  refine go_callV h.1 (index := 141) (n := 5) (t := 0) (i := 0) (ci := 6) (nf := 7) (cz := (RX6, TX6, 7)) (as := [.inl x1, .inl x2, .inl x3, .inl x4, .inl x5]) (rest := []) (ctr_X6_refusalWithFish (xZ X) x1 x2 x3 x4 x5 m) (by decide +kernel) rfl rfl wd_v_X6_141 rfl (h.room (by first | decide | omega) (by decide)) h.cl (Nat.le_of_ble_eq_true rfl) puI_ok rfl (fun r8 m8 _ => ?_)
  show Go X (Em X puI) 11 [some (.inr (.inr (0, 0))), some (.inl x1), some (.inl x2), some (.inl x3), some (.inl x4), some (.inl x5), none, none] [.inl r8] m8 _
  refine go_blk h.1 (is := [.istore 6, .iload 6]) (pc' := 15) (ls' := [some (.inr (.inr (0, 0))), some (.inl x1), some (.inl x2), some (.inl x3), some (.inl x4), some (.inl x5), some (.inl r8), none]) (st' := [.inl r8]) (m' := m8) (by decide +kernel) rfl ?_
  refine go_ifeq h.1 (off := 6) 21 (by decide +kernel) (by decide) (fun c15 => ?_) (fun c15 => ?_)
  · refine go_blk h.1 (is := [.aload_n 0, .iload_n 2, .iload 4, .iload 5]) (pc' := 27) (ls' := [some (.inr (.inr (0, 0))), some (.inl x1), some (.inl x2), some (.inl x3), some (.inl x4), some (.inl x5), some (.inl r8), none]) (st' := [.inl x5, .inl x4, .inl x2, .inr (.inr (0, 0))]) (m' := m8) (by decide +kernel) rfl ?_
    refine go_callV h.1 (index := 125) (n := 3) (t := 0) (i := 0) (ci := 6) (nf := 7) (cz := (RX6, TX6, 7)) (as := [.inl x2, .inl x4, .inl x5]) (rest := []) (ctr_X6_walkAsTold (xZ X) x2 x4 x5 m8) (by decide +kernel) rfl rfl wd_v_X6_125 rfl (h.room (by first | decide | omega) (by decide)) h.cl (Nat.le_of_ble_eq_true rfl) puI_ok rfl (fun r27 m27 _ => ?_)
    show Go X (Em X puI) 30 [some (.inr (.inr (0, 0))), some (.inl x1), some (.inl x2), some (.inl x3), some (.inl x4), some (.inl x5), some (.inl r8), none] [.inl r27] m27 _
    refine go_blk h.1 (is := [.istore 7, .iload 7, .bipush (-9)]) (pc' := 36) (ls' := [some (.inr (.inr (0, 0))), some (.inl x1), some (.inl x2), some (.inl x3), some (.inl x4), some (.inl x5), some (.inl r8), some (.inl r27)]) (st' := [.inl (-9 : Int32), .inl r27]) (m' := m27) (by decide +kernel) rfl ?_
    refine go_icmpeq h.1 (off := 11) 47 (by decide +kernel) (by decide) (fun c36 => ?_) (fun c36 => ?_)
    · refine go_blk h.1 (is := [.aload_n 0, .getfield 28, .iload_n 1]) (pc' := 52) (ls' := [some (.inr (.inr (0, 0))), some (.inl x1), some (.inl x2), some (.inl x3), some (.inl x4), some (.inl x5), some (.inl r8), some (.inl r27)]) (st' := [.inl x1, .inr (.inr (7, 0))]) (m' := m27) (by decide +kernel) rfl ?_
      refine go_callV h.1 (index := 153) (n := 1) (t := 7) (i := 0) (ci := 0) (nf := 14) (cz := (RX0, TX0, 14)) (as := [.inl x1]) (rest := []) (ctr_X0_tollOf (xZ X) 0 x1 m27) (by decide +kernel) rfl rfl wd_v_X6_153 rfl (h.room (by first | decide | omega) (by decide)) h.cl (Nat.le_of_ble_eq_true rfl) puI_ok rfl (fun r52 m52 _ => ?_)
      show Go X (Em X puI) 55 [some (.inr (.inr (0, 0))), some (.inl x1), some (.inl x2), some (.inl x3), some (.inl x4), some (.inl x5), some (.inl r8), some (.inl r27)] [.inl r52] m52 _
      exact go_iret h.1 h.2.2.2.2 (by decide +kernel)
    · refine go_blk h.1 (is := [.bipush (-100), .iload 7, .isub]) (pc' := 44) (ls' := [some (.inr (.inr (0, 0))), some (.inl x1), some (.inl x2), some (.inl x3), some (.inl x4), some (.inl x5), some (.inl r8), some (.inl r27)]) (st' := [.inl ((-100 : Int32) - r27)]) (m' := m27) (by decide +kernel) rfl ?_
      refine go_goto h.1 (off := 11) 55 (by decide +kernel) (by decide) ?_
      exact go_iret h.1 h.2.2.2.2 (by decide +kernel)
  · refine go_blk h.1 (is := [.iload 6]) (pc' := 20) (ls' := [some (.inr (.inr (0, 0))), some (.inl x1), some (.inl x2), some (.inl x3), some (.inl x4), some (.inl x5), some (.inl r8), none]) (st' := [.inl r8]) (m' := m8) (by decide +kernel) rfl ?_
    exact go_iret h.1 h.2.2.2.2 (by decide +kernel)
theorem ctr_X6_toll (Z : ZT) (x1 : Int32) (x2 : Int32) (x3 : Int32) (x4 : Int32) (x5 : Int32) (m : Mem) : Ctr Z yX6_toll prog_1_method_9_code 8 (some .int) 6 puI [.inr (.inr (0, 0)), .inl x1, .inl x2, .inl x3, .inl x4, .inl x5] m (f_X6_toll x1 x2 x3 x4 x5 m) :=
  ctr_of (P := P_X6) (by decide +kernel) rfl pt_X6 rfl rfl (fun X hC hZ hR h0 h1 hr => by subst hZ; exact g_X6_toll ⟨hC, hR, h0, h1, hr⟩ x1 x2 x3 x4 x5 m)

def f_X6_wants_b24 (x1 : Int32) (x2 : Int32) (x4 : Int32) (x5 : Int32) (next : Int32 × Mem → Option (Int32 × Mem)) (exit : Mem → Option (Int32 × Mem)) (s : Int32 × Mem) : Option (Int32 × Mem) :=
  if (99 : Int32) < s.1 then
    exit (s.2)
  else
    bnd (f_X0_start 0 s.2) (fun _ m39 =>
      if inB x1 5 = true then
        if inB x1 5 = true then
          if inB x2 4 = true then
            bnd (f_X0_walk 0 (ix x2) x4 x5 (mset m39 10 0 (ix x1) ((m39 10 0 (ix x1)) + s.1))) (fun r70 m70 =>
              if r70 = (-9 : Int32) then
                some (s.1, m70)
              else
                next ((s.1 + (1 : Int32)), m70))
          else none
        else none
      else none)
theorem g_X6_wants_b24 {X : XT} (h : MX X prog_1_method_12_code P_X6 5 (some .int)) (x1 : Int32) (x2 : Int32) (x4 : Int32) (x5 : Int32) (next : Int32 × Mem → Option (Int32 × Mem)) (exit : Mem → Option (Int32 × Mem)) (hn : ∀ (y7 : Int32) (n : Mem) (o3 : Option AV) (o6 : Option AV), Go X (Em X puI) 24 [some (.inr (.inr (0, 0))), some (.inl x1), some (.inl x2), o3, some (.inl x4), some (.inl x5), o6, some (.inl y7)] [] n (next (y7, n))) (hx : ∀ (n : Mem) (o0 : Option AV) (o1 : Option AV) (o2 : Option AV) (o3 : Option AV) (o4 : Option AV) (o5 : Option AV) (o6 : Option AV) (o7 : Option AV), Go X (Em X puI) 87 [o0, o1, o2, o3, o4, o5, o6, o7] [] n (exit (n))) (s : Int32 × Mem) (o3 : Option AV) (o6 : Option AV) : Go X (Em X puI) 24 [some (.inr (.inr (0, 0))), some (.inl x1), some (.inl x2), o3, some (.inl x4), some (.inl x5), o6, some (.inl s.1)] [] s.2 (f_X6_wants_b24 x1 x2 x4 x5 next exit s) := by
  unfold f_X6_wants_b24
  refine go_blk h.1 (is := [.iload 7, .bipush 99]) (pc' := 28) (ls' := [some (.inr (.inr (0, 0))), some (.inl x1), some (.inl x2), o3, some (.inl x4), some (.inl x5), o6, some (.inl s.1)]) (st' := [.inl (99 : Int32), .inl s.1]) (m' := s.2) (by decide +kernel) rfl ?_
  refine go_icmpgt h.1 (off := 59) 87 (by decide +kernel) (by decide) (fun c28 => ?_) (fun c28 => ?_)
  · exact hx s.2 (some (.inr (.inr (0, 0)))) (some (.inl x1)) (some (.inl x2)) (o3) (some (.inl x4)) (some (.inl x5)) (o6) (some (.inl s.1))
  · refine go_blk h.1 (is := [.aload_n 0, .getfield 28, .aload_n 0, .getfield 21]) (pc' := 39) (ls' := [some (.inr (.inr (0, 0))), some (.inl x1), some (.inl x2), o3, some (.inl x4), some (.inl x5), o6, some (.inl s.1)]) (st' := [.inr (.inr (4, 0)), .inr (.inr (7, 0))]) (m' := s.2) (by decide +kernel) rfl ?_
    refine go_callV h.1 (index := 170) (n := 1) (t := 7) (i := 0) (ci := 0) (nf := 14) (cz := (RX0, TX0, 14)) (as := [.inr (.inr (4, 0))]) (rest := []) (ctr_X0_start (xZ X) 0 s.2) (by decide +kernel) rfl rfl wd_v_X6_170 rfl (h.room (by first | decide | omega) (by decide)) h.cl (Nat.le_of_ble_eq_true rfl) puV_ok rfl (fun r39 m39 _ => ?_)
    show Go X (Em X puI) 42 [some (.inr (.inr (0, 0))), some (.inl x1), some (.inl x2), o3, some (.inl x4), some (.inl x5), o6, some (.inl s.1)] [] m39 _
    refine go_blk h.1 (is := [.aload_n 0, .getfield 28, .getfield 138, .iload_n 1, .dup2]) (pc' := 51) (ls' := [some (.inr (.inr (0, 0))), some (.inl x1), some (.inl x2), o3, some (.inl x4), some (.inl x5), o6, some (.inl s.1)]) (st' := [.inl x1, .inr (.inr (10, 0)), .inl x1, .inr (.inr (10, 0))]) (m' := m39) (by decide +kernel) rfl ?_
    refine go_iald h.1 (by decide +kernel) rfl rfl (fun b51 => ?_)
    show Go X (Em X puI) 52 [some (.inr (.inr (0, 0))), some (.inl x1), some (.inl x2), o3, some (.inl x4), some (.inl x5), o6, some (.inl s.1)] [.inl (m39 10 0 (ix x1)), .inl x1, .inr (.inr (10, 0))] m39 _
    refine go_blk h.1 (is := [.iload 7, .iadd]) (pc' := 55) (ls' := [some (.inr (.inr (0, 0))), some (.inl x1), some (.inl x2), o3, some (.inl x4), some (.inl x5), o6, some (.inl s.1)]) (st' := [.inl ((m39 10 0 (ix x1)) + s.1), .inl x1, .inr (.inr (10, 0))]) (m' := m39) (by decide +kernel) rfl ?_
    refine go_iast h.1 (by decide +kernel) rfl rfl (fun b55 => ?_)
    refine go_blk h.1 (is := [.aload_n 0, .getfield 28, .aload_n 0, .getfield 13, .iload_n 2]) (pc' := 65) (ls' := [some (.inr (.inr (0, 0))), some (.inl x1), some (.inl x2), o3, some (.inl x4), some (.inl x5), o6, some (.inl s.1)]) (st' := [.inl x2, .inr (.inr (1, 0)), .inr (.inr (7, 0))]) (m' := (mset m39 10 0 (ix x1) ((m39 10 0 (ix x1)) + s.1))) (by decide +kernel) rfl ?_
    refine go_aald h.1 (kd := 0) (z := (2, (ix x2))) (by decide +kernel) rfl rfl (by decide) rfl (fun b65 => ?_)
    refine go_blk h.1 (is := [.iload 4, .iload 5]) (pc' := 70) (ls' := [some (.inr (.inr (0, 0))), some (.inl x1), some (.inl x2), o3, some (.inl x4), some (.inl x5), o6, some (.inl s.1)]) (st' := [.inl x5, .inl x4, .inr (.inr (2, (ix x2))), .inr (.inr (7, 0))]) (m' := (mset m39 10 0 (ix x1) ((m39 10 0 (ix x1)) + s.1))) (by decide +kernel) rfl ?_
    refine go_callV h.1 (index := 174) (n := 3) (t := 7) (i := 0) (ci := 0) (nf := 14) (cz := (RX0, TX0, 14)) (as := [.inr (.inr (2, (ix x2))), .inl x4, .inl x5]) (rest := []) (ctr_X0_walk (xZ X) 0 (ix x2) x4 x5 (mset m39 10 0 (ix x1) ((m39 10 0 (ix x1)) + s.1))) (by decide +kernel) rfl rfl wd_v_X6_174 rfl (h.room (by first | decide | omega) (by decide)) h.cl (Nat.le_of_ble_eq_true rfl) puI_ok rfl (fun r70 m70 _ => ?_)
    show Go X (Em X puI) 73 [some (.inr (.inr (0, 0))), some (.inl x1), some (.inl x2), o3, some (.inl x4), some (.inl x5), o6, some (.inl s.1)] [.inl r70] m70 _
    refine go_blk h.1 (is := [.bipush (-9)]) (pc' := 75) (ls' := [some (.inr (.inr (0, 0))), some (.inl x1), some (.inl x2), o3, some (.inl x4), some (.inl x5), o6, some (.inl s.1)]) (st' := [.inl (-9 : Int32), .inl r70]) (m' := m70) (by decide +kernel) rfl ?_
    refine go_icmpne h.1 (off := 6) 81 (by decide +kernel) (by decide) (fun c75 => ?_) (fun c75 => ?_)
    · refine go_blk h.1 (is := [.iinc 7 1]) (pc' := 84) (ls' := [some (.inr (.inr (0, 0))), some (.inl x1), some (.inl x2), o3, some (.inl x4), some (.inl x5), (clrL o6), some (.inl (s.1 + (1 : Int32)))]) (st' := []) (m' := m70) (by decide +kernel) rfl ?_
      refine go_goto h.1 (off := -60) 24 (by decide +kernel) (by decide) ?_
      exact hn (s.1 + (1 : Int32)) m70 (o3) ((clrL o6))
    · refine go_blk h.1 (is := [.iload 7]) (pc' := 80) (ls' := [some (.inr (.inr (0, 0))), some (.inl x1), some (.inl x2), o3, some (.inl x4), some (.inl x5), o6, some (.inl s.1)]) (st' := [.inl s.1]) (m' := m70) (by decide +kernel) rfl ?_
      exact go_iret h.1 h.2.2.2.2 (by decide +kernel)

def f_X6_wants (x1 : Int32) (x2 : Int32) (x3 : Int32) (x4 : Int32) (x5 : Int32) (m : Mem) : Option (Int32 × Mem) :=
  bnd (f_X6_refusalWithFish x1 x2 x3 x4 x5 m) (fun r8 m8 =>
    if r8 = 0 then
      lpk (f_X6_wants_b24 x1 x2 x4 x5) fuelN ((0 : Int32), m8) (fun t24 =>
        some ((-9 : Int32), t24))
    else
      some (r8, m8))
theorem g_X6_wants {X : XT} (h : MX X prog_1_method_12_code P_X6 5 (some .int)) (x1 : Int32) (x2 : Int32) (x3 : Int32) (x4 : Int32) (x5 : Int32) (m : Mem) : Go X (Em X puI) 0 [some (.inr (.inr (0, 0))), some (.inl x1), some (.inl x2), some (.inl x3), some (.inl x4), some (.inl x5), none, none] [] m (f_X6_wants x1 x2 x3 x4 x5 m) := by
  unfold f_X6_wants
  refine go_blk h.1 (is := [.aload_n 0, .iload_n 1, .iload_n 2, .iload_n 3, .iload 4, .iload 5]) (pc' := 8) (ls' := [some (.inr (.inr (0, 0))), some (.inl x1), some (.inl x2), some (.inl x3), some (.inl x4), some (.inl x5), none, none]) (st' := [.inl x5, .inl x4, .inl x3, .inl x2, .inl x1, .inr (.inr (0, 0))]) (m' := m) (by decide +kernel) rfl ?_
  refine go_callV h.1 (index := 141) (n := 5) (t := 0) (i := 0) (ci := 6) (nf := 7) (cz := (RX6, TX6, 7)) (as := [.inl x1, .inl x2, .inl x3, .inl x4, .inl x5]) (rest := []) (ctr_X6_refusalWithFish (xZ X) x1 x2 x3 x4 x5 m) (by decide +kernel) rfl rfl wd_v_X6_141 rfl (h.room (by first | decide | omega) (by decide)) h.cl (Nat.le_of_ble_eq_true rfl) puI_ok rfl (fun r8 m8 _ => ?_)
  show Go X (Em X puI) 11 [some (.inr (.inr (0, 0))), some (.inl x1), some (.inl x2), some (.inl x3), some (.inl x4), some (.inl x5), none, none] [.inl r8] m8 _
  refine go_blk h.1 (is := [.istore 6, .iload 6]) (pc' := 15) (ls' := [some (.inr (.inr (0, 0))), some (.inl x1), some (.inl x2), some (.inl x3), some (.inl x4), some (.inl x5), some (.inl r8), none]) (st' := [.inl r8]) (m' := m8) (by decide +kernel) rfl ?_
  refine go_ifeq h.1 (off := 6) 21 (by decide +kernel) (by decide) (fun c15 => ?_) (fun c15 => ?_)
  · refine go_blk h.1 (is := [.iconst 0, .istore 7]) (pc' := 24) (ls' := [some (.inr (.inr (0, 0))), some (.inl x1), some (.inl x2), some (.inl x3), some (.inl x4), some (.inl x5), some (.inl r8), some (.inl (0 : Int32))]) (st' := []) (m' := m8) (by decide +kernel) rfl ?_
    refine go_lp1 (hd := fun (y7 : Int32) (n : Mem) o => ∀ (o3 : Option AV) (o6 : Option AV), Go X (Em X puI) 24 [some (.inr (.inr (0, 0))), some (.inl x1), some (.inl x2), o3, some (.inl x4), some (.inl x5), o6, some (.inl y7)] [] n o) (fun _ _ _ _ => go_none) (fun y7 n nx_ hn_ => g_X6_wants_b24 h x1 x2 x4 x5 nx_ _ hn_ (fun z_24 o0_24 o1_24 o2_24 o3_24 o4_24 o5_24 o6_24 o7_24 => ?_) (y7, n)) fuelN (0 : Int32) m8 (some (.inl x3)) (some (.inl r8))
    refine go_blk h.1 (is := [.bipush (-9)]) (pc' := 89) (ls' := [o0_24, o1_24, o2_24, o3_24, o4_24, o5_24, o6_24, o7_24]) (st' := [.inl (-9 : Int32)]) (m' := z_24) (by decide +kernel) rfl ?_
    exact go_iret h.1 h.2.2.2.2 (by decide +kernel)
  · refine go_blk h.1 (is := [.iload 6]) (pc' := 20) (ls' := [some (.inr (.inr (0, 0))), some (.inl x1), some (.inl x2), some (.inl x3), some (.inl x4), some (.inl x5), some (.inl r8), none]) (st' := [.inl r8]) (m' := m8) (by decide +kernel) rfl ?_
    exact go_iret h.1 h.2.2.2.2 (by decide +kernel)
theorem ctr_X6_wants (Z : ZT) (x1 : Int32) (x2 : Int32) (x3 : Int32) (x4 : Int32) (x5 : Int32) (m : Mem) : Ctr Z yX6_wants prog_1_method_12_code 8 (some .int) 5 puI [.inr (.inr (0, 0)), .inl x1, .inl x2, .inl x3, .inl x4, .inl x5] m (f_X6_wants x1 x2 x3 x4 x5 m) :=
  ctr_of (P := P_X6) (by decide +kernel) rfl pt_X6 rfl rfl (fun X hC hZ hR h0 h1 hr => by subst hZ; exact g_X6_wants ⟨hC, hR, h0, h1, hr⟩ x1 x2 x3 x4 x5 m)

def f_J7_fill_53178_t3_b5 (w : Nat) (x1 : Int32) (x3 : Int32) (next : Int32 × Mem → Option (Unit × Mem)) (exit : Mem → Option (Unit × Mem)) (s : Int32 × Mem) : Option (Unit × Mem) :=
  if x3 ≤ s.1 then
    exit (s.2)
  else
    if inB s.1 60 = true then
      next ((s.1 + (1 : Int32)), (mset s.2 3 w (ix s.1) x1))
    else none
theorem g_J7_fill_53178_t3_b5 {X : XT} (h : MX X prog_11_method_103_code P_J7 0 none) (w : Nat) (x1 : Int32) (x3 : Int32) (next : Int32 × Mem → Option (Unit × Mem)) (exit : Mem → Option (Unit × Mem)) (hn : ∀ (y2 : Int32) (n : Mem), Go X (Em X puV) 5 [some (.inr (.inr (3, w))), some (.inl x1), some (.inl y2), some (.inl x3)] [] n (next (y2, n))) (hx : ∀ (n : Mem) (o0 : Option AV) (o1 : Option AV) (o2 : Option AV) (o3 : Option AV), Go X (Em X puV) 20 [o0, o1, o2, o3] [] n (exit (n))) (s : Int32 × Mem) : Go X (Em X puV) 5 [some (.inr (.inr (3, w))), some (.inl x1), some (.inl s.1), some (.inl x3)] [] s.2 (f_J7_fill_53178_t3_b5 w x1 x3 next exit s) := by
  unfold f_J7_fill_53178_t3_b5
  refine go_blk h.1 (is := [.iload_n 2, .iload_n 3]) (pc' := 7) (ls' := [some (.inr (.inr (3, w))), some (.inl x1), some (.inl s.1), some (.inl x3)]) (st' := [.inl x3, .inl s.1]) (m' := s.2) (by decide +kernel) rfl ?_
  refine go_icmpge h.1 (off := 13) 20 (by decide +kernel) (by decide) (fun c7 => ?_) (fun c7 => ?_)
  · exact hx s.2 (some (.inr (.inr (3, w)))) (some (.inl x1)) (some (.inl s.1)) (some (.inl x3))
  · refine go_blk h.1 (is := [.aload_n 0, .iload_n 2, .iload_n 1]) (pc' := 13) (ls' := [some (.inr (.inr (3, w))), some (.inl x1), some (.inl s.1), some (.inl x3)]) (st' := [.inl x1, .inl s.1, .inr (.inr (3, w))]) (m' := s.2) (by decide +kernel) rfl ?_
    refine go_iast h.1 (by decide +kernel) rfl rfl (fun b13 => ?_)
    refine go_blk h.1 (is := [.iinc 2 1]) (pc' := 17) (ls' := [some (.inr (.inr (3, w))), some (.inl x1), some (.inl (s.1 + (1 : Int32))), some (.inl x3)]) (st' := []) (m' := (mset s.2 3 w (ix s.1) x1)) (by decide +kernel) rfl ?_
    refine go_goto h.1 (off := -12) 5 (by decide +kernel) (by decide) ?_
    exact hn (s.1 + (1 : Int32)) (mset s.2 3 w (ix s.1) x1)

def f_J7_fill_53178_t3 (w : Nat) (x1 : Int32) (m : Mem) : Option (Unit × Mem) :=
  lpk (f_J7_fill_53178_t3_b5 w x1 (60 : Int32)) fuelN ((0 : Int32), m) (fun t5 =>
    some ((), t5))
theorem g_J7_fill_53178_t3 {X : XT} (h : MX X prog_11_method_103_code P_J7 0 none) (w : Nat) (x1 : Int32) (m : Mem) : Go X (Em X puV) 0 [some (.inr (.inr (3, w))), some (.inl x1), none, none] [] m (f_J7_fill_53178_t3 w x1 m) := by
  unfold f_J7_fill_53178_t3
  refine go_blk h.1 (is := [.iconst 0, .istore_n 2, .aload_n 0]) (pc' := 3) (ls' := [some (.inr (.inr (3, w))), some (.inl x1), some (.inl (0 : Int32)), none]) (st' := [.inr (.inr (3, w))]) (m' := m) (by decide +kernel) rfl ?_
  refine go_alen h.1 (by decide +kernel) rfl rfl ?_
  show Go X (Em X puV) 4 [some (.inr (.inr (3, w))), some (.inl x1), some (.inl (0 : Int32)), none] [.inl (60 : Int32)] m _
  refine go_blk h.1 (is := [.istore_n 3]) (pc' := 5) (ls' := [some (.inr (.inr (3, w))), some (.inl x1), some (.inl (0 : Int32)), some (.inl (60 : Int32))]) (st' := []) (m' := m) (by decide +kernel) rfl ?_
  refine go_lp1 (hd := fun (y2 : Int32) (n : Mem) o => Go X (Em X puV) 5 [some (.inr (.inr (3, w))), some (.inl x1), some (.inl y2), some (.inl (60 : Int32))] [] n o) (fun _ _ => go_none) (fun y2 n nx_ hn_ => g_J7_fill_53178_t3_b5 h w x1 (60 : Int32) nx_ _ hn_ (fun z_5 o0_5 o1_5 o2_5 o3_5 => ?_) (y2, n)) fuelN (0 : Int32) m
  exact go_vret h.1 h.2.2.2.2 (by decide +kernel)
theorem ctr_J7_fill_53178_t3 (Z : ZT) (w : Nat) (x1 : Int32) (m : Mem) : Ctr Z yJ7_fill_53178 prog_11_method_103_code 4 none 0 puV [.inr (.inr (3, w)), .inl x1] m (f_J7_fill_53178_t3 w x1 m) :=
  ctr_of (P := P_J7) (by decide +kernel) rfl pt_J7 rfl rfl (fun X hC hZ hR h0 h1 hr => by subst hZ; exact g_J7_fill_53178_t3 ⟨hC, hR, h0, h1, hr⟩ w x1 m)

def f_X4_begin (w : Nat) (x1 : Int32) (x2 : Int32) (m : Mem) : Option (Unit × Mem) :=
  bnd (f_J7_fill_53178_t3 w (0 : Int32) m) (fun _ m5 =>
    some ((), (mset (mset (mset m5 2 w 1 (1 : Int32)) 2 w 2 x1) 2 w 3 (if (60 : Int32) < (if x2 < (0 : Int32) then (0 : Int32) else x2) then (60 : Int32) else (if x2 < (0 : Int32) then (0 : Int32) else x2)))))
theorem g_X4_begin {X : XT} (h : MX X prog_6_method_2_code P_X4 1 none) (w : Nat) (x1 : Int32) (x2 : Int32) (m : Mem) : Go X (Em X puV) 0 [some (.inr (.inr (2, w))), some (.inl x1), some (.inl x2)] [] m (f_X4_begin w x1 x2 m) := by
  unfold f_X4_begin
  refine go_blk h.1 (is := [.aload_n 0, .getfield 9, .iconst 0]) (pc' := 5) (ls' := [some (.inr (.inr (2, w))), some (.inl x1), some (.inl x2)]) (st' := [.inl (0 : Int32), .inr (.inr (3, w))]) (m' := m) (by decide +kernel) rfl ?_
  refine go_callS h.1 (index := 26) (n := 2) (as := [.inr (.inr (3, w)), .inl (0 : Int32)]) (rest := []) (ctr_J7_fill_53178_t3 (xZ X) w (0 : Int32) m) (by decide +kernel) wd_s_X4_26 rfl (h.room (by first | decide | omega) (by decide)) h.cl (Nat.le_of_ble_eq_true rfl) puV_ok rfl (fun r5 m5 _ => ?_)
  show Go X (Em X puV) 8 [some (.inr (.inr (2, w))), some (.inl x1), some (.inl x2)] [] m5 _
  refine go_blk h.1 (is := [.aload_n 0, .iconst 1, .putfield 15, .aload_n 0, .iload_n 1, .putfield 19, .aload_n 0, .iload_n 2, .iconst 0]) (pc' := 21) (ls' := [some (.inr (.inr (2, w))), some (.inl x1), some (.inl x2)]) (st' := [.inl (0 : Int32), .inl x2, .inr (.inr (2, w))]) (m' := (mset (mset m5 2 w 1 (1 : Int32)) 2 w 2 x1)) (by decide +kernel) rfl ?_
  refine go_max h (index := 32) (by first | decide | omega) (by decide +kernel) wd_ml_X4_32 wd_st_max wd_in_Math wd_co_max (Nat.le_of_ble_eq_true rfl) ?_
  show Go X (Em X puV) 24 [some (.inr (.inr (2, w))), some (.inl x1), some (.inl x2)] [.inl (if x2 < (0 : Int32) then (0 : Int32) else x2), .inr (.inr (2, w))] (mset (mset m5 2 w 1 (1 : Int32)) 2 w 2 x1) _
  refine go_blk h.1 (is := [.bipush 60]) (pc' := 26) (ls' := [some (.inr (.inr (2, w))), some (.inl x1), some (.inl x2)]) (st' := [.inl (60 : Int32), .inl (if x2 < (0 : Int32) then (0 : Int32) else x2), .inr (.inr (2, w))]) (m' := (mset (mset m5 2 w 1 (1 : Int32)) 2 w 2 x1)) (by decide +kernel) rfl ?_
  refine go_min h (index := 38) (by first | decide | omega) (by decide +kernel) wd_ml_X4_38 wd_st_min wd_in_Math wd_co_min (Nat.le_of_ble_eq_true rfl) ?_
  show Go X (Em X puV) 29 [some (.inr (.inr (2, w))), some (.inl x1), some (.inl x2)] [.inl (if (60 : Int32) < (if x2 < (0 : Int32) then (0 : Int32) else x2) then (60 : Int32) else (if x2 < (0 : Int32) then (0 : Int32) else x2)), .inr (.inr (2, w))] (mset (mset m5 2 w 1 (1 : Int32)) 2 w 2 x1) _
  refine go_blk h.1 (is := [.putfield 23]) (pc' := 32) (ls' := [some (.inr (.inr (2, w))), some (.inl x1), some (.inl x2)]) (st' := []) (m' := (mset (mset (mset m5 2 w 1 (1 : Int32)) 2 w 2 x1) 2 w 3 (if (60 : Int32) < (if x2 < (0 : Int32) then (0 : Int32) else x2) then (60 : Int32) else (if x2 < (0 : Int32) then (0 : Int32) else x2)))) (by decide +kernel) rfl ?_
  exact go_vret h.1 h.2.2.2.2 (by decide +kernel)
theorem ctr_X4_begin (Z : ZT) (w : Nat) (x1 : Int32) (x2 : Int32) (m : Mem) : Ctr Z yX4_begin prog_6_method_2_code 3 none 1 puV [.inr (.inr (2, w)), .inl x1, .inl x2] m (f_X4_begin w x1 x2 m) :=
  ctr_of (P := P_X4) (by decide +kernel) rfl pt_X4 rfl rfl (fun X hC hZ hR h0 h1 hr => by subst hZ; exact g_X4_begin ⟨hC, hR, h0, h1, hr⟩ w x1 x2 m)

def f_X6_sheet (x1 : Int32) (x2 : Int32) (x3 : Int32) (m : Mem) : Option (Int32 × Mem) :=
  bnd (f_X6_isSheet x1 (mset m 0 0 6 (0 : Int32))) (fun r6 m6 =>
    if r6 = 0 then
      some ((-1 : Int32), m6)
    else
      bnd (f_X6_isLane x2 m6) (fun r15 m15 =>
        if r15 = 0 then
          some ((-2 : Int32), m15)
        else
          if x3 ≤ (60 : Int32) then
            if 0 ≤ x3 then
              if inB x1 4 = true then
                bnd (f_X4_begin (ix x1) x2 x3 m15) (fun _ m48 =>
                  some ((1 : Int32), m48))
              else none
            else
              bnd (f_X6_faulty (4 : Int32) m15) (fun r36 m36 =>
                some (r36, m36))
          else
            some ((-2 : Int32), m15)))
theorem g_X6_sheet {X : XT} (h : MX X prog_1_method_19_code P_X6 2 (some .int)) (x1 : Int32) (x2 : Int32) (x3 : Int32) (m : Mem) : Go X (Em X puI) 0 [some (.inr (.inr (0, 0))), some (.inl x1), some (.inl x2), some (.inl x3)] [] m (f_X6_sheet x1 x2 x3 m) := by
  unfold f_X6_sheet
  refine go_blk h.1 (is := [.aload_n 0, .iconst 0, .putfield 50, .iload_n 1]) (pc' := 6) (ls' := [some (.inr (.inr (0, 0))), some (.inl x1), some (.inl x2), some (.inl x3)]) (st' := [.inl x1]) (m' := (mset m 0 0 6 (0 : Int32))) (by decide +kernel) rfl ?_
  refine go_callS h.1 (index := 53) (n := 1) (as := [.inl x1]) (rest := []) (ctr_X6_isSheet (xZ X) x1 (mset m 0 0 6 (0 : Int32))) (by decide +kernel) wd_s_X6_53 rfl (h.room (by first | decide | omega) (by decide)) h.cl (Nat.le_of_ble_eq_true rfl) puI_ok rfl (fun r6 m6 _ => ?_)
  show Go X (Em X puI) 9 [some (.inr (.inr (0, 0))), some (.inl x1), some (.inl x2), some (.inl x3)] [.inl r6] m6 _
  refine go_ifne h.1 (off := 5) 14 (by decide +kernel) (by decide) (fun c9 => ?_) (fun c9 => ?_)
  · refine go_blk h.1 (is := [.iload_n 2]) (pc' := 15) (ls' := [some (.inr (.inr (0, 0))), some (.inl x1), some (.inl x2), some (.inl x3)]) (st' := [.inl x2]) (m' := m6) (by decide +kernel) rfl ?_
    refine go_callS h.1 (index := 57) (n := 1) (as := [.inl x2]) (rest := []) (ctr_X6_isLane (xZ X) x2 m6) (by decide +kernel) wd_s_X6_57 rfl (h.room (by first | decide | omega) (by decide)) h.cl (Nat.le_of_ble_eq_true rfl) puI_ok rfl (fun r15 m15 _ => ?_)
    show Go X (Em X puI) 18 [some (.inr (.inr (0, 0))), some (.inl x1), some (.inl x2), some (.inl x3)] [.inl r15] m15 _
    refine go_ifeq h.1 (off := 9) 27 (by decide +kernel) (by decide) (fun c18 => ?_) (fun c18 => ?_)
    · refine go_blk h.1 (is := [.bipush (-2)]) (pc' := 29) (ls' := [some (.inr (.inr (0, 0))), some (.inl x1), some (.inl x2), some (.inl x3)]) (st' := [.inl (-2 : Int32)]) (m' := m15) (by decide +kernel) rfl ?_
      exact go_iret h.1 h.2.2.2.2 (by decide +kernel)
    · refine go_blk h.1 (is := [.iload_n 3, .bipush 60]) (pc' := 24) (ls' := [some (.inr (.inr (0, 0))), some (.inl x1), some (.inl x2), some (.inl x3)]) (st' := [.inl (60 : Int32), .inl x3]) (m' := m15) (by decide +kernel) rfl ?_
      refine go_icmple h.1 (off := 6) 30 (by decide +kernel) (by decide) (fun c24 => ?_) (fun c24 => ?_)
      · refine go_blk h.1 (is := [.iload_n 3]) (pc' := 31) (ls' := [some (.inr (.inr (0, 0))), some (.inl x1), some (.inl x2), some (.inl x3)]) (st' := [.inl x3]) (m' := m15) (by decide +kernel) rfl ?_
        refine go_ifge h.1 (off := 9) 40 (by decide +kernel) (by decide) (fun c31 => ?_) (fun c31 => ?_)
        · refine go_blk h.1 (is := [.aload_n 0, .getfield 13, .iload_n 1]) (pc' := 45) (ls' := [some (.inr (.inr (0, 0))), some (.inl x1), some (.inl x2), some (.inl x3)]) (st' := [.inl x1, .inr (.inr (1, 0))]) (m' := m15) (by decide +kernel) rfl ?_
          refine go_aald h.1 (kd := 0) (z := (2, (ix x1))) (by decide +kernel) rfl rfl (by decide) rfl (fun b45 => ?_)
          refine go_blk h.1 (is := [.iload_n 2, .iload_n 3]) (pc' := 48) (ls' := [some (.inr (.inr (0, 0))), some (.inl x1), some (.inl x2), some (.inl x3)]) (st' := [.inl x3, .inl x2, .inr (.inr (2, (ix x1)))]) (m' := m15) (by decide +kernel) rfl ?_
          refine go_callV h.1 (index := 192) (n := 2) (t := 2) (i := (ix x1)) (ci := 4) (nf := 4) (cz := (RX4, TX4, 4)) (as := [.inl x2, .inl x3]) (rest := []) (ctr_X4_begin (xZ X) (ix x1) x2 x3 m15) (by decide +kernel) rfl rfl wd_v_X6_192 rfl (h.room (by first | decide | omega) (by decide)) h.cl (Nat.le_of_ble_eq_true rfl) puV_ok rfl (fun r48 m48 _ => ?_)
          show Go X (Em X puI) 51 [some (.inr (.inr (0, 0))), some (.inl x1), some (.inl x2), some (.inl x3)] [] m48 _
          refine go_blk h.1 (is := [.iconst 1]) (pc' := 52) (ls' := [some (.inr (.inr (0, 0))), some (.inl x1), some (.inl x2), some (.inl x3)]) (st' := [.inl (1 : Int32)]) (m' := m48) (by decide +kernel) rfl ?_
          exact go_iret h.1 h.2.2.2.2 (by decide +kernel)
        · refine go_blk h.1 (is := [.aload_n 0, .iconst 4]) (pc' := 36) (ls' := [some (.inr (.inr (0, 0))), some (.inl x1), some (.inl x2), some (.inl x3)]) (st' := [.inl (4 : Int32), .inr (.inr (0, 0))]) (m' := m15) (by decide +kernel) rfl ?_
          refine go_callV h.1 (index := 64) (n := 1) (t := 0) (i := 0) (ci := 6) (nf := 7) (cz := (RX6, TX6, 7)) (as := [.inl (4 : Int32)]) (rest := []) (ctr_X6_faulty (xZ X) (4 : Int32) m15) (by decide +kernel) rfl rfl wd_v_X6_64 rfl (h.room (by first | decide | omega) (by decide)) h.cl (Nat.le_of_ble_eq_true rfl) puI_ok rfl (fun r36 m36 _ => ?_)
          show Go X (Em X puI) 39 [some (.inr (.inr (0, 0))), some (.inl x1), some (.inl x2), some (.inl x3)] [.inl r36] m36 _
          exact go_iret h.1 h.2.2.2.2 (by decide +kernel)
      · refine go_blk h.1 (is := [.bipush (-2)]) (pc' := 29) (ls' := [some (.inr (.inr (0, 0))), some (.inl x1), some (.inl x2), some (.inl x3)]) (st' := [.inl (-2 : Int32)]) (m' := m15) (by decide +kernel) rfl ?_
        exact go_iret h.1 h.2.2.2.2 (by decide +kernel)
  · refine go_blk h.1 (is := [.iconst (-1)]) (pc' := 13) (ls' := [some (.inr (.inr (0, 0))), some (.inl x1), some (.inl x2), some (.inl x3)]) (st' := [.inl (-1 : Int32)]) (m' := m6) (by decide +kernel) rfl ?_
    exact go_iret h.1 h.2.2.2.2 (by decide +kernel)
theorem ctr_X6_sheet (Z : ZT) (x1 : Int32) (x2 : Int32) (x3 : Int32) (m : Mem) : Ctr Z yX6_sheet prog_1_method_19_code 4 (some .int) 2 puI [.inr (.inr (0, 0)), .inl x1, .inl x2, .inl x3] m (f_X6_sheet x1 x2 x3 m) :=
  ctr_of (P := P_X6) (by decide +kernel) rfl pt_X6 rfl rfl (fun X hC hZ hR h0 h1 hr => by subst hZ; exact g_X6_sheet ⟨hC, hR, h0, h1, hr⟩ x1 x2 x3 m)

def f_X4_cut (w : Nat) (x1 : Int32) (m : Mem) : Option (Int32 × Mem) :=
  if (m 2 w 2) = (0 : Int32) then
    some (x1.toInt8.toInt32, m)
  else
    if (m 2 w 2) = (1 : Int32) then
      some (x1.toInt16.toInt32, m)
    else
      some (x1, m)
theorem g_X4_cut {X : XT} (h : MX X prog_6_method_7_code P_X4 0 (some .int)) (w : Nat) (x1 : Int32) (m : Mem) : Go X (Em X puI) 0 [some (.inr (.inr (2, w))), some (.inl x1)] [] m (f_X4_cut w x1 m) := by
  unfold f_X4_cut
  refine go_blk h.1 (is := [.aload_n 0, .getfield 19]) (pc' := 4) (ls' := [some (.inr (.inr (2, w))), some (.inl x1)]) (st' := [.inl (m 2 w 2)]) (m' := m) (by decide +kernel) rfl ?_
  refine go_ite (fun w4_0 => ?_) (fun w4_0 => ?_)
  · refine go_lsIn h.1 (dflt := 34) (ps := #[(0, 28), (1, 31)]) (len := 28) (off := 28) (0 : Int32) 32 w4_0 (by decide +kernel) (by decide) rfl (by decide) ?_
    refine go_blk h.1 (is := [.iload_n 1, .i2b]) (pc' := 34) (ls' := [some (.inr (.inr (2, w))), some (.inl x1)]) (st' := [.inl x1.toInt8.toInt32]) (m' := m) (by decide +kernel) rfl ?_
    exact go_iret h.1 h.2.2.2.2 (by decide +kernel)
  · refine go_ite (fun w4_1 => ?_) (fun w4_1 => ?_)
    · refine go_lsIn h.1 (dflt := 34) (ps := #[(0, 28), (1, 31)]) (len := 28) (off := 31) (1 : Int32) 35 w4_1 (by decide +kernel) (by decide) rfl (by decide) ?_
      refine go_blk h.1 (is := [.iload_n 1, .i2s]) (pc' := 37) (ls' := [some (.inr (.inr (2, w))), some (.inl x1)]) (st' := [.inl x1.toInt16.toInt32]) (m' := m) (by decide +kernel) rfl ?_
      exact go_iret h.1 h.2.2.2.2 (by decide +kernel)
    · refine go_ls h.1 (dflt := 34) (ps := #[(0, 28), (1, 31)]) (len := 28) 38 (off := 34) (by decide +kernel) (by decide) (by simp only [Op.lookupswitch.offset]; rw [if_neg (fun q => toInt_ne w4_0 q.symm)]; rw [if_neg (fun q => toInt_ne w4_1 q.symm)]) (by decide) ?_
      refine go_blk h.1 (is := [.iload_n 1]) (pc' := 39) (ls' := [some (.inr (.inr (2, w))), some (.inl x1)]) (st' := [.inl x1]) (m' := m) (by decide +kernel) rfl ?_
      exact go_iret h.1 h.2.2.2.2 (by decide +kernel)
theorem ctr_X4_cut (Z : ZT) (w : Nat) (x1 : Int32) (m : Mem) : Ctr Z yX4_cut prog_6_method_7_code 2 (some .int) 0 puI [.inr (.inr (2, w)), .inl x1] m (f_X4_cut w x1 m) :=
  ctr_of (P := P_X4) (by decide +kernel) rfl pt_X4 rfl rfl (fun X hC hZ hR h0 h1 hr => by subst hZ; exact g_X4_cut ⟨hC, hR, h0, h1, hr⟩ w x1 m)

def f_X4_set (w : Nat) (x1 : Int32) (x2 : Int32) (m : Mem) : Option (Unit × Mem) :=
  bnd (f_X4_holds w x1 (1 : Int32) m) (fun r3 m3 =>
    if r3 = 0 then
      some ((), m3)
    else
      bnd (f_X4_cut w x2 m3) (fun r16 m16 =>
        if inB x1 60 = true then
          some ((), (mset m16 3 w (ix x1) r16))
        else none))
theorem g_X4_set {X : XT} (h : MX X prog_6_method_6_code P_X4 1 none) (w : Nat) (x1 : Int32) (x2 : Int32) (m : Mem) : Go X (Em X puV) 0 [some (.inr (.inr (2, w))), some (.inl x1), some (.inl x2)] [] m (f_X4_set w x1 x2 m) := by
  unfold f_X4_set
  refine go_blk h.1 (is := [.aload_n 0, .iload_n 1, .iconst 1]) (pc' := 3) (ls' := [some (.inr (.inr (2, w))), some (.inl x1), some (.inl x2)]) (st' := [.inl (1 : Int32), .inl x1, .inr (.inr (2, w))]) (m' := m) (by decide +kernel) rfl ?_
  refine go_callV h.1 (index := 41) (n := 2) (t := 2) (i := w) (ci := 4) (nf := 4) (cz := (RX4, TX4, 4)) (as := [.inl x1, .inl (1 : Int32)]) (rest := []) (ctr_X4_holds (xZ X) w x1 (1 : Int32) m) (by decide +kernel) rfl rfl wd_v_X4_41 rfl (h.room (by first | decide | omega) (by decide)) h.cl (Nat.le_of_ble_eq_true rfl) puI_ok rfl (fun r3 m3 _ => ?_)
  show Go X (Em X puV) 6 [some (.inr (.inr (2, w))), some (.inl x1), some (.inl x2)] [.inl r3] m3 _
  refine go_ifeq h.1 (off := 14) 20 (by decide +kernel) (by decide) (fun c6 => ?_) (fun c6 => ?_)
  · exact go_vret h.1 h.2.2.2.2 (by decide +kernel)
  · refine go_blk h.1 (is := [.aload_n 0, .getfield 9, .iload_n 1, .aload_n 0, .iload_n 2]) (pc' := 16) (ls' := [some (.inr (.inr (2, w))), some (.inl x1), some (.inl x2)]) (st' := [.inl x2, .inr (.inr (2, w)), .inl x1, .inr (.inr (3, w))]) (m' := m3) (by decide +kernel) rfl ?_
    refine go_callV h.1 (index := 45) (n := 1) (t := 2) (i := w) (ci := 4) (nf := 4) (cz := (RX4, TX4, 4)) (as := [.inl x2]) (rest := [.inl x1, .inr (.inr (3, w))]) (ctr_X4_cut (xZ X) w x2 m3) (by decide +kernel) rfl rfl wd_v_X4_45 rfl (h.room (by first | decide | omega) (by decide)) h.cl (Nat.le_of_ble_eq_true rfl) puI_ok rfl (fun r16 m16 _ => ?_)
    show Go X (Em X puV) 19 [some (.inr (.inr (2, w))), some (.inl x1), some (.inl x2)] [.inl r16, .inl x1, .inr (.inr (3, w))] m16 _
    refine go_iast h.1 (by decide +kernel) rfl rfl (fun b19 => ?_)
    exact go_vret h.1 h.2.2.2.2 (by decide +kernel)
theorem ctr_X4_set (Z : ZT) (w : Nat) (x1 : Int32) (x2 : Int32) (m : Mem) : Ctr Z yX4_set prog_6_method_6_code 3 none 1 puV [.inr (.inr (2, w)), .inl x1, .inl x2] m (f_X4_set w x1 x2 m) :=
  ctr_of (P := P_X4) (by decide +kernel) rfl pt_X4 rfl rfl (fun X hC hZ hR h0 h1 hr => by subst hZ; exact g_X4_set ⟨hC, hR, h0, h1, hr⟩ w x1 x2 m)

def f_X6_put (x1 : Int32) (x2 : Int32) (x3 : Int32) (m : Mem) : Option (Int32 × Mem) :=
  bnd (f_X6_isSheet x1 (mset m 0 0 6 (0 : Int32))) (fun r6 m6 =>
    if r6 = 0 then
      some ((-1 : Int32), m6)
    else
      if inB x1 4 = true then
        if (m6 2 (ix x1) 1) = 0 then
          bnd (f_X6_faulty (1 : Int32) m6) (fun r28 m28 =>
            some (r28, m28))
        else
          if inB x1 4 = true then
            bnd (f_X4_holds (ix x1) x2 (1 : Int32) m6) (fun r40 m40 =>
              if r40 = 0 then
                bnd (f_X6_faulty (3 : Int32) m40) (fun r48 m48 =>
                  some (r48, m48))
              else
                if inB x1 4 = true then
                  bnd (f_X4_set (ix x1) x2 x3 m40) (fun _ m60 =>
                    some ((1 : Int32), m60))
                else none)
          else none
      else none)
theorem g_X6_put {X : XT} (h : MX X prog_1_method_21_code P_X6 2 (some .int)) (x1 : Int32) (x2 : Int32) (x3 : Int32) (m : Mem) : Go X (Em X puI) 0 [some (.inr (.inr (0, 0))), some (.inl x1), some (.inl x2), some (.inl x3)] [] m (f_X6_put x1 x2 x3 m) := by
  unfold f_X6_put
  refine go_blk h.1 (is := [.aload_n 0, .iconst 0, .putfield 50, .iload_n 1]) (pc' := 6) (ls' := [some (.inr (.inr (0, 0))), some (.inl x1), some (.inl x2), some (.inl x3)]) (st' := [.inl x1]) (m' := (mset m 0 0 6 (0 : Int32))) (by decide +kernel) rfl ?_
  refine go_callS h.1 (index := 53) (n := 1) (as := [.inl x1]) (rest := []) (ctr_X6_isSheet (xZ X) x1 (mset m 0 0 6 (0 : Int32))) (by decide +kernel) wd_s_X6_53 rfl (h.room (by first | decide | omega) (by decide)) h.cl (Nat.le_of_ble_eq_true rfl) puI_ok rfl (fun r6 m6 _ => ?_)
  show Go X (Em X puI) 9 [some (.inr (.inr (0, 0))), some (.inl x1), some (.inl x2), some (.inl x3)] [.inl r6] m6 _
  refine go_ifne h.1 (off := 5) 14 (by decide +kernel) (by decide) (fun c9 => ?_) (fun c9 => ?_)
  · refine go_blk h.1 (is := [.aload_n 0, .getfield 13, .iload_n 1]) (pc' := 19) (ls' := [some (.inr (.inr (0, 0))), some (.inl x1), some (.inl x2), some (.inl x3)]) (st' := [.inl x1, .inr (.inr (1, 0))]) (m' := m6) (by decide +kernel) rfl ?_
    refine go_aald h.1 (kd := 0) (z := (2, (ix x1))) (by decide +kernel) rfl rfl (by decide) rfl (fun b19 => ?_)
    refine go_blk h.1 (is := [.getfield 196]) (pc' := 23) (ls' := [some (.inr (.inr (0, 0))), some (.inl x1), some (.inl x2), some (.inl x3)]) (st' := [.inl (m6 2 (ix x1) 1)]) (m' := m6) (by decide +kernel) rfl ?_
    refine go_ifne h.1 (off := 9) 32 (by decide +kernel) (by decide) (fun c23 => ?_) (fun c23 => ?_)
    · refine go_blk h.1 (is := [.aload_n 0, .getfield 13, .iload_n 1]) (pc' := 37) (ls' := [some (.inr (.inr (0, 0))), some (.inl x1), some (.inl x2), some (.inl x3)]) (st' := [.inl x1, .inr (.inr (1, 0))]) (m' := m6) (by decide +kernel) rfl ?_
      refine go_aald h.1 (kd := 0) (z := (2, (ix x1))) (by decide +kernel) rfl rfl (by decide) rfl (fun b37 => ?_)
      refine go_blk h.1 (is := [.iload_n 2, .iconst 1]) (pc' := 40) (ls' := [some (.inr (.inr (0, 0))), some (.inl x1), some (.inl x2), some (.inl x3)]) (st' := [.inl (1 : Int32), .inl x2, .inr (.inr (2, (ix x1)))]) (m' := m6) (by decide +kernel) rfl ?_
      refine go_callV h.1 (index := 200) (n := 2) (t := 2) (i := (ix x1)) (ci := 4) (nf := 4) (cz := (RX4, TX4, 4)) (as := [.inl x2, .inl (1 : Int32)]) (rest := []) (ctr_X4_holds (xZ X) (ix x1) x2 (1 : Int32) m6) (by decide +kernel) rfl rfl wd_v_X6_200 rfl (h.room (by first | decide | omega) (by decide)) h.cl (Nat.le_of_ble_eq_true rfl) puI_ok rfl (fun r40 m40 _ => ?_)
      show Go X (Em X puI) 43 [some (.inr (.inr (0, 0))), some (.inl x1), some (.inl x2), some (.inl x3)] [.inl r40] m40 _
      refine go_ifne h.1 (off := 9) 52 (by decide +kernel) (by decide) (fun c43 => ?_) (fun c43 => ?_)
      · refine go_blk h.1 (is := [.aload_n 0, .getfield 13, .iload_n 1]) (pc' := 57) (ls' := [some (.inr (.inr (0, 0))), some (.inl x1), some (.inl x2), some (.inl x3)]) (st' := [.inl x1, .inr (.inr (1, 0))]) (m' := m40) (by decide +kernel) rfl ?_
        refine go_aald h.1 (kd := 0) (z := (2, (ix x1))) (by decide +kernel) rfl rfl (by decide) rfl (fun b57 => ?_)
        refine go_blk h.1 (is := [.iload_n 2, .iload_n 3]) (pc' := 60) (ls' := [some (.inr (.inr (0, 0))), some (.inl x1), some (.inl x2), some (.inl x3)]) (st' := [.inl x3, .inl x2, .inr (.inr (2, (ix x1)))]) (m' := m40) (by decide +kernel) rfl ?_
        refine go_callV h.1 (index := 204) (n := 2) (t := 2) (i := (ix x1)) (ci := 4) (nf := 4) (cz := (RX4, TX4, 4)) (as := [.inl x2, .inl x3]) (rest := []) (ctr_X4_set (xZ X) (ix x1) x2 x3 m40) (by decide +kernel) rfl rfl wd_v_X6_204 rfl (h.room (by first | decide | omega) (by decide)) h.cl (Nat.le_of_ble_eq_true rfl) puV_ok rfl (fun r60 m60 _ => ?_)
        show Go X (Em X puI) 63 [some (.inr (.inr (0, 0))), some (.inl x1), some (.inl x2), some (.inl x3)] [] m60 _
        refine go_blk h.1 (is := [.iconst 1]) (pc' := 64) (ls' := [some (.inr (.inr (0, 0))), some (.inl x1), some (.inl x2), some (.inl x3)]) (st' := [.inl (1 : Int32)]) (m' := m60) (by decide +kernel) rfl ?_
        exact go_iret h.1 h.2.2.2.2 (by decide +kernel)
      · refine go_blk h.1 (is := [.aload_n 0, .iconst 3]) (pc' := 48) (ls' := [some (.inr (.inr (0, 0))), some (.inl x1), some (.inl x2), some (.inl x3)]) (st' := [.inl (3 : Int32), .inr (.inr (0, 0))]) (m' := m40) (by decide +kernel) rfl ?_
        refine go_callV h.1 (index := 64) (n := 1) (t := 0) (i := 0) (ci := 6) (nf := 7) (cz := (RX6, TX6, 7)) (as := [.inl (3 : Int32)]) (rest := []) (ctr_X6_faulty (xZ X) (3 : Int32) m40) (by decide +kernel) rfl rfl wd_v_X6_64 rfl (h.room (by first | decide | omega) (by decide)) h.cl (Nat.le_of_ble_eq_true rfl) puI_ok rfl (fun r48 m48 _ => ?_)
        show Go X (Em X puI) 51 [some (.inr (.inr (0, 0))), some (.inl x1), some (.inl x2), some (.inl x3)] [.inl r48] m48 _
        exact go_iret h.1 h.2.2.2.2 (by decide +kernel)
    · refine go_blk h.1 (is := [.aload_n 0, .iconst 1]) (pc' := 28) (ls' := [some (.inr (.inr (0, 0))), some (.inl x1), some (.inl x2), some (.inl x3)]) (st' := [.inl (1 : Int32), .inr (.inr (0, 0))]) (m' := m6) (by decide +kernel) rfl ?_
      refine go_callV h.1 (index := 64) (n := 1) (t := 0) (i := 0) (ci := 6) (nf := 7) (cz := (RX6, TX6, 7)) (as := [.inl (1 : Int32)]) (rest := []) (ctr_X6_faulty (xZ X) (1 : Int32) m6) (by decide +kernel) rfl rfl wd_v_X6_64 rfl (h.room (by first | decide | omega) (by decide)) h.cl (Nat.le_of_ble_eq_true rfl) puI_ok rfl (fun r28 m28 _ => ?_)
      show Go X (Em X puI) 31 [some (.inr (.inr (0, 0))), some (.inl x1), some (.inl x2), some (.inl x3)] [.inl r28] m28 _
      exact go_iret h.1 h.2.2.2.2 (by decide +kernel)
  · refine go_blk h.1 (is := [.iconst (-1)]) (pc' := 13) (ls' := [some (.inr (.inr (0, 0))), some (.inl x1), some (.inl x2), some (.inl x3)]) (st' := [.inl (-1 : Int32)]) (m' := m6) (by decide +kernel) rfl ?_
    exact go_iret h.1 h.2.2.2.2 (by decide +kernel)
theorem ctr_X6_put (Z : ZT) (x1 : Int32) (x2 : Int32) (x3 : Int32) (m : Mem) : Ctr Z yX6_put prog_1_method_21_code 4 (some .int) 2 puI [.inr (.inr (0, 0)), .inl x1, .inl x2, .inl x3] m (f_X6_put x1 x2 x3 m) :=
  ctr_of (P := P_X6) (by decide +kernel) rfl pt_X6 rfl rfl (fun X hC hZ hR h0 h1 hr => by subst hZ; exact g_X6_put ⟨hC, hR, h0, h1, hr⟩ x1 x2 x3 m)

def f_X6_many (x1 : Int32) (m : Mem) : Option (Int32 × Mem) :=
  if x1 = (0 : Int32) then
    some ((m 4 0 1), m)
  else
    if x1 = (1 : Int32) then
      some ((m 4 0 2), m)
    else
      if x1 = (2 : Int32) then
        some ((m 4 0 3), m)
      else
        if x1 = (3 : Int32) then
          some ((m 20 0 2), m)
        else
          some ((-2 : Int32), m)
theorem g_X6_many {X : XT} (h : MX X prog_1_method_29_code P_X6 0 (some .int)) (x1 : Int32) (m : Mem) : Go X (Em X puI) 0 [some (.inr (.inr (0, 0))), some (.inl x1)] [] m (f_X6_many x1 m) := by
  unfold f_X6_many
  refine go_blk h.1 (is := [.iload_n 1]) (pc' := 1) (ls' := [some (.inr (.inr (0, 0))), some (.inl x1)]) (st' := [.inl x1]) (m' := m) (by decide +kernel) rfl ?_
  refine go_ite (fun w1_0 => ?_) (fun w1_0 => ?_)
  · refine go_tsIn h.1 (dflt := 63) (lo := 0) (hi := 3) (offs := #[31, 39, 47, 55]) (len := 31) (off := 31) (0 : Int32) 32 w1_0 (by decide +kernel) (by decide) rfl (by decide) ?_
    refine go_blk h.1 (is := [.aload_n 0, .getfield 21, .getfield 82]) (pc' := 39) (ls' := [some (.inr (.inr (0, 0))), some (.inl x1)]) (st' := [.inl (m 4 0 1)]) (m' := m) (by decide +kernel) rfl ?_
    exact go_iret h.1 h.2.2.2.2 (by decide +kernel)
  · refine go_ite (fun w1_1 => ?_) (fun w1_1 => ?_)
    · refine go_tsIn h.1 (dflt := 63) (lo := 0) (hi := 3) (offs := #[31, 39, 47, 55]) (len := 31) (off := 39) (1 : Int32) 40 w1_1 (by decide +kernel) (by decide) rfl (by decide) ?_
      refine go_blk h.1 (is := [.aload_n 0, .getfield 21, .getfield 115]) (pc' := 47) (ls' := [some (.inr (.inr (0, 0))), some (.inl x1)]) (st' := [.inl (m 4 0 2)]) (m' := m) (by decide +kernel) rfl ?_
      exact go_iret h.1 h.2.2.2.2 (by decide +kernel)
    · refine go_ite (fun w1_2 => ?_) (fun w1_2 => ?_)
      · refine go_tsIn h.1 (dflt := 63) (lo := 0) (hi := 3) (offs := #[31, 39, 47, 55]) (len := 31) (off := 47) (2 : Int32) 48 w1_2 (by decide +kernel) (by decide) rfl (by decide) ?_
        refine go_blk h.1 (is := [.aload_n 0, .getfield 21, .getfield 118]) (pc' := 55) (ls' := [some (.inr (.inr (0, 0))), some (.inl x1)]) (st' := [.inl (m 4 0 3)]) (m' := m) (by decide +kernel) rfl ?_
        exact go_iret h.1 h.2.2.2.2 (by decide +kernel)
      · refine go_ite (fun w1_3 => ?_) (fun w1_3 => ?_)
        · refine go_tsIn h.1 (dflt := 63) (lo := 0) (hi := 3) (offs := #[31, 39, 47, 55]) (len := 31) (off := 55) (3 : Int32) 56 w1_3 (by decide +kernel) (by decide) rfl (by decide) ?_
          refine go_blk h.1 (is := [.aload_n 0, .getfield 42, .getfield 76]) (pc' := 63) (ls' := [some (.inr (.inr (0, 0))), some (.inl x1)]) (st' := [.inl (m 20 0 2)]) (m' := m) (by decide +kernel) rfl ?_
          exact go_iret h.1 h.2.2.2.2 (by decide +kernel)
        · refine go_tsOut h.1 (dflt := 63) (lo := 0) (hi := 3) (offs := #[31, 39, 47, 55]) (len := 31) 64 (by decide +kernel) (sw_out (n := 4) (by decide) ((lt_s (lt_s (lt_s (lt_s lt_0 w1_0) w1_1) w1_2) w1_3) : ∀ j : Nat, j < 4 → ¬ x1 = Int32.ofInt (0 + (j : Int)))) (by decide) ?_
          refine go_blk h.1 (is := [.bipush (-2)]) (pc' := 66) (ls' := [some (.inr (.inr (0, 0))), some (.inl x1)]) (st' := [.inl (-2 : Int32)]) (m' := m) (by decide +kernel) rfl ?_
          exact go_iret h.1 h.2.2.2.2 (by decide +kernel)
theorem ctr_X6_many (Z : ZT) (x1 : Int32) (m : Mem) : Ctr Z yX6_many prog_1_method_29_code 2 (some .int) 0 puI [.inr (.inr (0, 0)), .inl x1] m (f_X6_many x1 m) :=
  ctr_of (P := P_X6) (by decide +kernel) rfl pt_X6 rfl rfl (fun X hC hZ hR h0 h1 hr => by subst hZ; exact g_X6_many ⟨hC, hR, h0, h1, hr⟩ x1 m)
end
section
/-! THE CLAIM OUT OF ONE WALK OF THE LAW'S BODY. Your part is whole_start (and what it stands on); all else here is the same for every law, but numbers. -/
def R_law : String := "HeronFordLaw"
def lw_P (b : Addr) (xs : List Int32) (args : Array Value) (s : State) : Prop := args = #[.ref b] ∧ s.IntsAt b xs ∧ xs.length ≤ 260 ∧ (Jvm.Cond.and given_1 narrow_1).before args s = true
def lw_Q (_ : Array Value) (s : State) (o : Outcome) (t : State) : Prop := o = .returned (some (.int 1)) ∧ Framed s o t [] 600000 7302250
def lw_Z (below : List Frame) (a : Array Value) (s : State) : State → Prop := fun t => ∃ o, t.status = .running ∧ Ended t below o ∧ lw_Q a s o t
/-- the law's own end, with 1 on the stack, nothing written that was there before, its room as the claim has it -/
theorem lw_ret {p : Program} {l : Launch} {e : Env} {s : State} {m : MethodId} {below : List Frame} {meth : Method} {c : Code} {b : Nat} (hx : p.tables.exec = Jvm.exec) (hb : c.code = code) (hr : meth.sig.returnType = ret) (hlocks : meth.locks = false) {pc : Nat} {H : Heap} {ls : Array Slot} (hdg : decode code pc = .ok (.ireturn, 1)) : W p l e room_1 s m #[Value.ref b] below meth c H [] 600000 7302250 (lw_Z below #[Value.ref b] s) (F0 m pc ls [.int 1]) := by
  intro T hT X
  obtain ⟨fs, hret, hrun, hended, hW, hframe⟩ := X.leave (v := some (.int 1)) (hlocks := hlocks) (fun h => by rw [hr] at h; cases h)
  have hmeth' : T.vm.method? m = some meth := X.method'
  refine ⟨T.setFrames fs, ?_, .returned (some (.int 1)), hrun, hended, rfl, ⟨_, rfl⟩, hW, hframe⟩
  jvm_step X.here [X.here.top, hx, hb, hdg, hmeth', hr, ret, narrow_b1]
  (try refine ⟨rfl, ?_⟩); (try refine ⟨rfl, ?_⟩)
  first | (intro acts; rw [hret _ acts rfl rfl rfl]) | rw [hret _ _ rfl rfl rfl]
  exact Steps.refl _
/-- what holds at the law's entry: the machine, the code, the tables' words (any of lw_tbl by 'hts w (by decide +kernel)'), the script of L ints xs at the cell b, what the Statement gives of the start (any of its parts by flat_of_before) -/
def lw_At (p : Program) (s : State) (m : MethodId) (meth : Method) (c : Code) (b L : Nat) (xs : Nat → Int32) : Prop :=
  p.tables.exec = Jvm.exec ∧ c.code = code ∧ meth.sig.returnType = ret ∧ c.maxLocals = 17 ∧ s.vm.findClass R_law = some m.cls ∧ (∀ w ∈ lw_tbl, w.before #[Value.ref b] s = true) ∧ va_X b L xs s s.heap ∧ b < s.heap.size ∧ meth.locks = false ∧ (Jvm.Cond.and given_1 narrow_1).before #[Value.ref b] s = true
end
section
/-! ===== printed by wip/p31/tr.py out of the listing ===== -/
def P_L : PT := (RL, [], [(7, (747796405 : Int32)), (8, (2147483647 : Int32))], [])
theorem pt_L : ptOk P_L := ⟨(fun _ h => absurd h List.not_mem_nil), (List.forall_mem_cons.mpr ⟨wsC_at 416 (by decide +kernel) rfl, (List.forall_mem_cons.mpr ⟨wsC_at 420 (by decide +kernel) rfl, (fun _ h => absurd h List.not_mem_nil)⟩)⟩), (fun _ h => absurd h List.not_mem_nil)⟩
theorem wd_v_L_25 : vOk RL 25 RX6 yX6_put prog_1_method_21_code 4 (some .int) 3 := ⟨(wsC_at 396 (by decide +kernel) rfl), (wsC_at 397 (by decide +kernel) rfl), (wsC_at 398 (by decide +kernel) rfl), (wsC_at 13 (by decide +kernel) rfl), (wsC_at 399 (by decide +kernel) rfl), by decide +kernel⟩
theorem wd_s_L_15 : sOk RL 15 yL_some method_3_code 2 (some .int) 2 := ⟨(wsC_at 417 (by decide +kernel) rfl), (wsC_at 418 (by decide +kernel) rfl), (wsC_at 12 (by decide +kernel) rfl), (wsC_at 419 (by decide +kernel) rfl), by decide +kernel⟩
theorem wd_s_L_9 : sOk RL 9 yL_cell method_2_code 2 (some .int) 2 := ⟨(wsC_at 413 (by decide +kernel) rfl), (wsC_at 414 (by decide +kernel) rfl), (wsC_at 12 (by decide +kernel) rfl), (wsC_at 415 (by decide +kernel) rfl), by decide +kernel⟩
theorem wd_v_L_19 : vOk RL 19 RX6 yX6_sheet prog_1_method_19_code 4 (some .int) 3 := ⟨(wsC_at 424 (by decide +kernel) rfl), (wsC_at 425 (by decide +kernel) rfl), (wsC_at 426 (by decide +kernel) rfl), (wsC_at 13 (by decide +kernel) rfl), (wsC_at 427 (by decide +kernel) rfl), by decide +kernel⟩
theorem wd_v_L_61 : vOk RL 61 RX6 yX6_many prog_1_method_29_code 2 (some .int) 1 := ⟨(wsC_at 409 (by decide +kernel) rfl), (wsC_at 410 (by decide +kernel) rfl), (wsC_at 411 (by decide +kernel) rfl), (wsC_at 13 (by decide +kernel) rfl), (wsC_at 412 (by decide +kernel) rfl), by decide +kernel⟩
theorem wd_v_L_57 : vOk RL 57 RX6 yX6_ford prog_1_method_2_code 8 (some .int) 4 := ⟨(wsC_at 233 (by decide +kernel) rfl), (wsC_at 234 (by decide +kernel) rfl), (wsC_at 235 (by decide +kernel) rfl), (wsC_at 13 (by decide +kernel) rfl), (wsC_at 236 (by decide +kernel) rfl), by decide +kernel⟩
theorem wd_s_L_54 : sOk RL 54 yL_put method_4_code 10 (some .int) 5 := ⟨(wsC_at 421 (by decide +kernel) rfl), (wsC_at 422 (by decide +kernel) rfl), (wsC_at 12 (by decide +kernel) rfl), (wsC_at 423 (by decide +kernel) rfl), by decide +kernel⟩
theorem wd_s_L_38 : sOk RL 38 yL_share method_6_code 2 (some .int) 2 := ⟨(wsC_at 440 (by decide +kernel) rfl), (wsC_at 441 (by decide +kernel) rfl), (wsC_at 12 (by decide +kernel) rfl), (wsC_at 442 (by decide +kernel) rfl), by decide +kernel⟩
theorem wd_s_L_41 : sOk RL 41 yL_toll method_8_code 4 (some .int) 3 := ⟨(wsC_at 443 (by decide +kernel) rfl), (wsC_at 444 (by decide +kernel) rfl), (wsC_at 12 (by decide +kernel) rfl), (wsC_at 445 (by decide +kernel) rfl), by decide +kernel⟩
theorem wd_s_L_49 : sOk RL 49 yL_pass method_9_code 8 (some .boolean) 5 := ⟨(wsC_at 452 (by decide +kernel) rfl), (wsC_at 453 (by decide +kernel) rfl), (wsC_at 12 (by decide +kernel) rfl), (wsC_at 454 (by decide +kernel) rfl), by decide +kernel⟩
theorem wd_s_L_45 : sOk RL 45 yL_begin method_7_code 4 none 3 := ⟨(wsC_at 449 (by decide +kernel) rfl), (wsC_at 450 (by decide +kernel) rfl), (wsC_at 12 (by decide +kernel) rfl), (wsC_at 451 (by decide +kernel) rfl), by decide +kernel⟩
theorem wd_v_L_76 : vOk RL 76 RX6 yX6_passes prog_1_method_7_code 9 (some .int) 5 := ⟨(wsC_at 314 (by decide +kernel) rfl), (wsC_at 315 (by decide +kernel) rfl), (wsC_at 316 (by decide +kernel) rfl), (wsC_at 13 (by decide +kernel) rfl), (wsC_at 317 (by decide +kernel) rfl), by decide +kernel⟩
theorem wd_v_L_82 : vOk RL 82 RX6 yX6_owes prog_1_method_8_code 9 (some .int) 6 := ⟨(wsC_at 375 (by decide +kernel) rfl), (wsC_at 376 (by decide +kernel) rfl), (wsC_at 377 (by decide +kernel) rfl), (wsC_at 13 (by decide +kernel) rfl), (wsC_at 378 (by decide +kernel) rfl), by decide +kernel⟩
theorem wd_v_L_80 : vOk RL 80 RX6 yX6_toll prog_1_method_9_code 8 (some .int) 5 := ⟨(wsC_at 387 (by decide +kernel) rfl), (wsC_at 388 (by decide +kernel) rfl), (wsC_at 389 (by decide +kernel) rfl), (wsC_at 13 (by decide +kernel) rfl), (wsC_at 390 (by decide +kernel) rfl), by decide +kernel⟩
theorem wd_s_L_72 : sOk RL 72 yL_go method_10_code 6 (some .int) 5 := ⟨(wsC_at 446 (by decide +kernel) rfl), (wsC_at 447 (by decide +kernel) rfl), (wsC_at 12 (by decide +kernel) rfl), (wsC_at 448 (by decide +kernel) rfl), by decide +kernel⟩
theorem wd_v_L_89 : vOk RL 89 RX6 yX6_ofFish prog_1_method_3_code 4 (some .int) 2 := ⟨(wsC_at 291 (by decide +kernel) rfl), (wsC_at 292 (by decide +kernel) rfl), (wsC_at 293 (by decide +kernel) rfl), (wsC_at 13 (by decide +kernel) rfl), (wsC_at 294 (by decide +kernel) rfl), by decide +kernel⟩
theorem wd_v_L_86 : vOk RL 86 RX6 yX6_wants prog_1_method_12_code 8 (some .int) 5 := ⟨(wsC_at 392 (by decide +kernel) rfl), (wsC_at 393 (by decide +kernel) rfl), (wsC_at 394 (by decide +kernel) rfl), (wsC_at 13 (by decide +kernel) rfl), (wsC_at 395 (by decide +kernel) rfl), by decide +kernel⟩
theorem wd_s_L_68 : sOk RL 68 yL_lay method_11_code 12 (some .int) 7 := ⟨(wsC_at 455 (by decide +kernel) rfl), (wsC_at 456 (by decide +kernel) rfl), (wsC_at 12 (by decide +kernel) rfl), (wsC_at 457 (by decide +kernel) rfl), by decide +kernel⟩
theorem wd_v_L_35 : vOk RL 35 RX6 yX6_dear prog_1_method_4_code 3 (some .int) 1 := ⟨(wsC_at 302 (by decide +kernel) rfl), (wsC_at 303 (by decide +kernel) rfl), (wsC_at 304 (by decide +kernel) rfl), (wsC_at 13 (by decide +kernel) rfl), (wsC_at 305 (by decide +kernel) rfl), by decide +kernel⟩
theorem wd_v_L_31 : vOk RL 31 RX6 yX6_hear prog_1_method_6_code 3 (some .int) 1 := ⟨(wsC_at 310 (by decide +kernel) rfl), (wsC_at 311 (by decide +kernel) rfl), (wsC_at 312 (by decide +kernel) rfl), (wsC_at 13 (by decide +kernel) rfl), (wsC_at 313 (by decide +kernel) rfl), by decide +kernel⟩
theorem wd_v_L_28 : vOk RL 28 RX6 yX6_scales prog_1_method_5_code 4 (some .int) 2 := ⟨(wsC_at 306 (by decide +kernel) rfl), (wsC_at 307 (by decide +kernel) rfl), (wsC_at 308 (by decide +kernel) rfl), (wsC_at 13 (by decide +kernel) rfl), (wsC_at 309 (by decide +kernel) rfl), by decide +kernel⟩
theorem wd_s_L_64 : sOk RL 64 yL_change method_5_code 7 (some .boolean) 3 := ⟨(wsC_at 437 (by decide +kernel) rfl), (wsC_at 438 (by decide +kernel) rfl), (wsC_at 12 (by decide +kernel) rfl), (wsC_at 439 (by decide +kernel) rfl), by decide +kernel⟩
end
section
/-! ===== printed by wip/p31/tr.py out of the listing ===== -/
def f_L_cell (L : Nat) (xsc : Nat → Int32) (x1 : Int32) (m : Mem) : Option (Int32 × Mem) :=
  if (Int32.ofNat L) ≤ x1 then
    some (((747796405 : Int32) * (x1 + (1 : Int32))), m)
  else
    if inB x1 L = true then
      some ((xsc (ix x1)), m)
    else none
theorem g_L_cell {X : XT} (h : MX X method_2_code P_L 0 (some .int)) (x1 : Int32) (m : Mem) : Go X (Em X puI) 0 [some (.inr (.inr (60, 0))), some (.inl x1)] [] m (f_L_cell (xL X) (xx X) x1 m) := by
  unfold f_L_cell
  refine go_blk h.1 (is := [.iload_n 1, .aload_n 0]) (pc' := 2) (ls' := [some (.inr (.inr (60, 0))), some (.inl x1)]) (st' := [.inr (.inr (60, 0)), .inl x1]) (m' := m) (by decide +kernel) rfl ?_
  refine go_slen h.1 (by decide +kernel) ?_
  show Go X (Em X puI) 3 [some (.inr (.inr (60, 0))), some (.inl x1)] [.inl (Int32.ofNat (xL X)), .inl x1] m _
  refine go_icmpge h.1 (off := 9) 12 (by decide +kernel) (by decide) (fun c3 => ?_) (fun c3 => ?_)
  · refine go_blk h.1 (is := [.ldc 7, .iload_n 1, .iconst 1, .iadd, .imul]) (pc' := 18) (ls' := [some (.inr (.inr (60, 0))), some (.inl x1)]) (st' := [.inl ((747796405 : Int32) * (x1 + (1 : Int32)))]) (m' := m) (by decide +kernel) rfl ?_
    exact go_iret h.1 h.2.2.2.2 (by decide +kernel)
  · refine go_blk h.1 (is := [.aload_n 0, .iload_n 1]) (pc' := 8) (ls' := [some (.inr (.inr (60, 0))), some (.inl x1)]) (st' := [.inl x1, .inr (.inr (60, 0))]) (m' := m) (by decide +kernel) rfl ?_
    refine go_sld h.1 (by decide +kernel) (fun b8 => ?_)
    show Go X (Em X puI) 9 [some (.inr (.inr (60, 0))), some (.inl x1)] [.inl ((xx X) (ix x1))] m _
    refine go_goto h.1 (off := 9) 18 (by decide +kernel) (by decide) ?_
    exact go_iret h.1 h.2.2.2.2 (by decide +kernel)
theorem ctr_L_cell (Z : ZT) (x1 : Int32) (m : Mem) : Ctr Z yL_cell method_2_code 2 (some .int) 0 puI [.inr (.inr (60, 0)), .inl x1] m (f_L_cell (zL Z) (zx Z) x1 m) :=
  ctr_of (P := P_L) (by decide +kernel) rfl pt_L rfl rfl (fun X hC hZ hR h0 h1 hr => by subst hZ; exact g_L_cell ⟨hC, hR, h0, h1, hr⟩ x1 m)

def f_L_some (L : Nat) (xsc : Nat → Int32) (x0 : Int32) (x1 : Int32) (m : Mem) : Option (Int32 × Mem) :=
  if ¬ x1 = 0 then dv ((x0 &&& (2147483647 : Int32)) - (x0 &&& (2147483647 : Int32)) / x1 * x1) (fun q5 =>
    some (q5, m))
  else none
theorem g_L_some {X : XT} (h : MX X method_3_code P_L 0 (some .int)) (x0 : Int32) (x1 : Int32) (m : Mem) : Go X (Em X puI) 0 [some (.inl x0), some (.inl x1)] [] m (f_L_some (xL X) (xx X) x0 x1 m) := by
  unfold f_L_some
  refine go_blk h.1 (is := [.iload_n 0, .ldc 8, .iand, .iload_n 1]) (pc' := 5) (ls' := [some (.inl x0), some (.inl x1)]) (st' := [.inl x1, .inl (x0 &&& (2147483647 : Int32))]) (m' := m) (by decide +kernel) rfl ?_
  refine go_irem h.1 (by decide +kernel) (fun z5 q5 _ => ?_)
  exact go_iret h.1 h.2.2.2.2 (by decide +kernel)
theorem ctr_L_some (Z : ZT) (x0 : Int32) (x1 : Int32) (m : Mem) : Ctr Z yL_some method_3_code 2 (some .int) 0 puI [.inl x0, .inl x1] m (f_L_some (zL Z) (zx Z) x0 x1 m) :=
  ctr_of (P := P_L) (by decide +kernel) rfl pt_L rfl rfl (fun X hC hZ hR h0 h1 hr => by subst hZ; exact g_L_some ⟨hC, hR, h0, h1, hr⟩ x0 x1 m)

def f_L_put_b317 (L : Nat) (xsc : Nat → Int32) (x2 : Int32) (x5 : Int32) (x7 : Int32) (next : Int32 × Int32 × Mem → Option (Int32 × Mem)) (exit : Int32 × Mem → Option (Int32 × Mem)) (s : Int32 × Int32 × Mem) : Option (Int32 × Mem) :=
  if (5 : Int32) ≤ s.2.1 then
    exit (s.1, s.2.2)
  else
    if inB (((3 : Int32) + ((5 : Int32) * s.2.1)) + x7) 28 = true then
      bnd (f_X6_put (0 : Int32) s.1 ((48 : Int32) + (s.2.2 70 0 (ix (((3 : Int32) + ((5 : Int32) * s.2.1)) + x7)))) s.2.2) (fun r345 m345 =>
        if r345 = (1 : Int32) then
          next ((s.1 + (1 : Int32)), (s.2.1 + (1 : Int32)), m345)
        else
          some ((-99 : Int32), m345))
    else none
theorem g_L_put_b317 {X : XT} (h : MX X method_4_code P_L 3 (some .int)) (x2 : Int32) (x5 : Int32) (x7 : Int32) (next : Int32 × Int32 × Mem → Option (Int32 × Mem)) (exit : Int32 × Mem → Option (Int32 × Mem)) (hn : ∀ (y6 : Int32) (y9 : Int32) (n : Mem) (o3 : Option AV) (o8 : Option AV), Go X (Em X puI) 317 [some (.inr (.inr (0, 0))), some (.inr (.inr (60, 0))), some (.inl x2), o3, some (.inr (.inr (70, 0))), some (.inl x5), some (.inl y6), some (.inl x7), o8, some (.inl y9)] [] n (next (y6, y9, n))) (hx : ∀ (y6 : Int32) (n : Mem) (o3 : Option AV) (o8 : Option AV) (o9 : Option AV), Go X (Em X puI) 361 [some (.inr (.inr (0, 0))), some (.inr (.inr (60, 0))), some (.inl x2), o3, some (.inr (.inr (70, 0))), some (.inl x5), some (.inl y6), some (.inl x7), o8, o9] [] n (exit (y6, n))) (s : Int32 × Int32 × Mem) (o3 : Option AV) (o8 : Option AV) : Go X (Em X puI) 317 [some (.inr (.inr (0, 0))), some (.inr (.inr (60, 0))), some (.inl x2), o3, some (.inr (.inr (70, 0))), some (.inl x5), some (.inl s.1), some (.inl x7), o8, some (.inl s.2.1)] [] s.2.2 (f_L_put_b317 (xL X) (xx X) x2 x5 x7 next exit s) := by
  unfold f_L_put_b317
  refine go_blk h.1 (is := [.iload 9, .iconst 5]) (pc' := 320) (ls' := [some (.inr (.inr (0, 0))), some (.inr (.inr (60, 0))), some (.inl x2), o3, some (.inr (.inr (70, 0))), some (.inl x5), some (.inl s.1), some (.inl x7), o8, some (.inl s.2.1)]) (st' := [.inl (5 : Int32), .inl s.2.1]) (m' := s.2.2) (by decide +kernel) rfl ?_
  refine go_icmpge h.1 (off := 41) 361 (by decide +kernel) (by decide) (fun c320 => ?_) (fun c320 => ?_)
  · exact hx s.1 s.2.2 (o3) (o8) (some (.inl s.2.1))
  · refine go_blk h.1 (is := [.aload_n 0, .iconst 0, .iload 6, .iinc 6 1, .bipush 48, .aload 4, .iconst 3, .iconst 5, .iload 9, .imul, .iadd, .iload 7, .iadd]) (pc' := 343) (ls' := [some (.inr (.inr (0, 0))), some (.inr (.inr (60, 0))), some (.inl x2), o3, some (.inr (.inr (70, 0))), some (.inl x5), some (.inl (s.1 + (1 : Int32))), some (.inl x7), o8, some (.inl s.2.1)]) (st' := [.inl (((3 : Int32) + ((5 : Int32) * s.2.1)) + x7), .inr (.inr (70, 0)), .inl (48 : Int32), .inl s.1, .inl (0 : Int32), .inr (.inr (0, 0))]) (m' := s.2.2) (by decide +kernel) rfl ?_
    refine go_iald h.1 (by decide +kernel) rfl rfl (fun b343 => ?_)
    show Go X (Em X puI) 344 [some (.inr (.inr (0, 0))), some (.inr (.inr (60, 0))), some (.inl x2), o3, some (.inr (.inr (70, 0))), some (.inl x5), some (.inl (s.1 + (1 : Int32))), some (.inl x7), o8, some (.inl s.2.1)] [.inl (s.2.2 70 0 (ix (((3 : Int32) + ((5 : Int32) * s.2.1)) + x7))), .inl (48 : Int32), .inl s.1, .inl (0 : Int32), .inr (.inr (0, 0))] s.2.2 _
    refine go_blk h.1 (is := [.iadd]) (pc' := 345) (ls' := [some (.inr (.inr (0, 0))), some (.inr (.inr (60, 0))), some (.inl x2), o3, some (.inr (.inr (70, 0))), some (.inl x5), some (.inl (s.1 + (1 : Int32))), some (.inl x7), o8, some (.inl s.2.1)]) (st' := [.inl ((48 : Int32) + (s.2.2 70 0 (ix (((3 : Int32) + ((5 : Int32) * s.2.1)) + x7)))), .inl s.1, .inl (0 : Int32), .inr (.inr (0, 0))]) (m' := s.2.2) (by decide +kernel) rfl ?_
    refine go_callV h.1 (index := 25) (n := 3) (t := 0) (i := 0) (ci := 6) (nf := 7) (cz := (RX6, TX6, 7)) (as := [.inl (0 : Int32), .inl s.1, .inl ((48 : Int32) + (s.2.2 70 0 (ix (((3 : Int32) + ((5 : Int32) * s.2.1)) + x7))))]) (rest := []) (ctr_X6_put (xZ X) (0 : Int32) s.1 ((48 : Int32) + (s.2.2 70 0 (ix (((3 : Int32) + ((5 : Int32) * s.2.1)) + x7)))) s.2.2) (by decide +kernel) rfl rfl wd_v_L_25 rfl (h.room (by first | decide | omega) (by decide)) h.cl (Nat.le_of_ble_eq_true rfl) puI_ok rfl (fun r345 m345 _ => ?_)
    show Go X (Em X puI) 348 [some (.inr (.inr (0, 0))), some (.inr (.inr (60, 0))), some (.inl x2), o3, some (.inr (.inr (70, 0))), some (.inl x5), some (.inl (s.1 + (1 : Int32))), some (.inl x7), o8, some (.inl s.2.1)] [.inl r345] m345 _
    refine go_blk h.1 (is := [.iconst 1]) (pc' := 349) (ls' := [some (.inr (.inr (0, 0))), some (.inr (.inr (60, 0))), some (.inl x2), o3, some (.inr (.inr (70, 0))), some (.inl x5), some (.inl (s.1 + (1 : Int32))), some (.inl x7), o8, some (.inl s.2.1)]) (st' := [.inl (1 : Int32), .inl r345]) (m' := m345) (by decide +kernel) rfl ?_
    refine go_icmpeq h.1 (off := 6) 355 (by decide +kernel) (by decide) (fun c349 => ?_) (fun c349 => ?_)
    · refine go_blk h.1 (is := [.iinc 9 1]) (pc' := 358) (ls' := [some (.inr (.inr (0, 0))), some (.inr (.inr (60, 0))), some (.inl x2), o3, some (.inr (.inr (70, 0))), some (.inl x5), some (.inl (s.1 + (1 : Int32))), some (.inl x7), (clrL o8), some (.inl (s.2.1 + (1 : Int32)))]) (st' := []) (m' := m345) (by decide +kernel) rfl ?_
      refine go_goto h.1 (off := -41) 317 (by decide +kernel) (by decide) ?_
      exact hn (s.1 + (1 : Int32)) (s.2.1 + (1 : Int32)) m345 (o3) ((clrL o8))
    · refine go_blk h.1 (is := [.bipush (-99)]) (pc' := 354) (ls' := [some (.inr (.inr (0, 0))), some (.inr (.inr (60, 0))), some (.inl x2), o3, some (.inr (.inr (70, 0))), some (.inl x5), some (.inl (s.1 + (1 : Int32))), some (.inl x7), o8, some (.inl s.2.1)]) (st' := [.inl (-99 : Int32)]) (m' := m345) (by decide +kernel) rfl ?_
      exact go_iret h.1 h.2.2.2.2 (by decide +kernel)

def f_L_put_j304 (L : Nat) (xsc : Nat → Int32) (next : Int32 × Int32 × Mem → Option (Int32 × Mem)) (exit : Int32 × Mem → Option (Int32 × Mem)) (s0 : Int32) (s1 : Int32) (s2 : Int32) (x2 : Int32) (x5 : Int32) (x6 : Int32) (x7 : Int32) (m : Mem) : Option (Int32 × Mem) :=
  bnd (f_X6_put s2 s1 s0 m) (fun r304 m304 =>
    if r304 = (1 : Int32) then
      lpk (f_L_put_b317 L xsc x2 x5 x7) fuelN (x6, (1 : Int32), m304) (fun t317 =>
        next (t317.1, (x7 + (1 : Int32)), t317.2))
    else
      some ((-99 : Int32), m304))
theorem g_L_put_j304 {X : XT} (h : MX X method_4_code P_L 3 (some .int)) (next : Int32 × Int32 × Mem → Option (Int32 × Mem)) (exit : Int32 × Mem → Option (Int32 × Mem)) (s0 : Int32) (s1 : Int32) (s2 : Int32) (x2 : Int32) (x5 : Int32) (x6 : Int32) (x7 : Int32) (m : Mem) (o3 : Option AV) (o8 : Option AV) (o9 : Option AV) (hn : ∀ (y6 : Int32) (y7 : Int32) (n : Mem) (o3 : Option AV) (o8 : Option AV) (o9 : Option AV), Go X (Em X puI) 103 [some (.inr (.inr (0, 0))), some (.inr (.inr (60, 0))), some (.inl x2), o3, some (.inr (.inr (70, 0))), some (.inl x5), some (.inl y6), some (.inl y7), o8, o9] [] n (next (y6, y7, n))) (hx : ∀ (y6 : Int32) (n : Mem) (o0 : Option AV) (o1 : Option AV) (o2 : Option AV) (o3 : Option AV) (o4 : Option AV) (o5 : Option AV) (o7 : Option AV) (o8 : Option AV) (o9 : Option AV), Go X (Em X puI) 367 [o0, o1, o2, o3, o4, o5, some (.inl y6), o7, o8, o9] [] n (exit (y6, n))) : Go X (Em X puI) 304 [some (.inr (.inr (0, 0))), some (.inr (.inr (60, 0))), some (.inl x2), o3, some (.inr (.inr (70, 0))), some (.inl x5), some (.inl x6), some (.inl x7), o8, o9] [.inl s0, .inl s1, .inl s2, .inr (.inr (0, 0))] m (f_L_put_j304 (xL X) (xx X) next exit s0 s1 s2 x2 x5 x6 x7 m) := by
  unfold f_L_put_j304
  refine go_callV h.1 (index := 25) (n := 3) (t := 0) (i := 0) (ci := 6) (nf := 7) (cz := (RX6, TX6, 7)) (as := [.inl s2, .inl s1, .inl s0]) (rest := []) (ctr_X6_put (xZ X) s2 s1 s0 m) (by decide +kernel) rfl rfl wd_v_L_25 rfl (h.room (by first | decide | omega) (by decide)) h.cl (Nat.le_of_ble_eq_true rfl) puI_ok rfl (fun r304 m304 _ => ?_)
  show Go X (Em X puI) 307 [some (.inr (.inr (0, 0))), some (.inr (.inr (60, 0))), some (.inl x2), o3, some (.inr (.inr (70, 0))), some (.inl x5), some (.inl x6), some (.inl x7), o8, o9] [.inl r304] m304 _
  refine go_blk h.1 (is := [.iconst 1]) (pc' := 308) (ls' := [some (.inr (.inr (0, 0))), some (.inr (.inr (60, 0))), some (.inl x2), o3, some (.inr (.inr (70, 0))), some (.inl x5), some (.inl x6), some (.inl x7), o8, o9]) (st' := [.inl (1 : Int32), .inl r304]) (m' := m304) (by decide +kernel) rfl ?_
  refine go_icmpeq h.1 (off := 6) 314 (by decide +kernel) (by decide) (fun c308 => ?_) (fun c308 => ?_)
  · refine go_blk h.1 (is := [.iconst 1, .istore 9]) (pc' := 317) (ls' := [some (.inr (.inr (0, 0))), some (.inr (.inr (60, 0))), some (.inl x2), o3, some (.inr (.inr (70, 0))), some (.inl x5), some (.inl x6), some (.inl x7), (clrL o8), some (.inl (1 : Int32))]) (st' := []) (m' := m304) (by decide +kernel) rfl ?_
    refine go_lp2 (hd := fun (y6 : Int32) (y9 : Int32) (n : Mem) o => ∀ (o3 : Option AV) (o8 : Option AV), Go X (Em X puI) 317 [some (.inr (.inr (0, 0))), some (.inr (.inr (60, 0))), some (.inl x2), o3, some (.inr (.inr (70, 0))), some (.inl x5), some (.inl y6), some (.inl x7), o8, some (.inl y9)] [] n o) (fun _ _ _ _ _ => go_none) (fun y6 y9 n nx_ hn_ => g_L_put_b317 h x2 x5 x7 nx_ _ hn_ (fun z6_317 z_317 o3_317 o8_317 o9_317 => ?_) (y6, y9, n)) fuelN x6 (1 : Int32) m304 (o3) ((clrL o8))
    refine go_blk h.1 (is := [.iinc 7 1]) (pc' := 364) (ls' := [some (.inr (.inr (0, 0))), some (.inr (.inr (60, 0))), some (.inl x2), o3_317, some (.inr (.inr (70, 0))), some (.inl x5), some (.inl z6_317), some (.inl (x7 + (1 : Int32))), o8_317, o9_317]) (st' := []) (m' := z_317) (by decide +kernel) rfl ?_
    refine go_goto h.1 (off := -261) 103 (by decide +kernel) (by decide) ?_
    exact hn z6_317 (x7 + (1 : Int32)) z_317 (o3_317) (o8_317) (o9_317)
  · refine go_blk h.1 (is := [.bipush (-99)]) (pc' := 313) (ls' := [some (.inr (.inr (0, 0))), some (.inr (.inr (60, 0))), some (.inl x2), o3, some (.inr (.inr (70, 0))), some (.inl x5), some (.inl x6), some (.inl x7), o8, o9]) (st' := [.inl (-99 : Int32)]) (m' := m304) (by decide +kernel) rfl ?_
    exact go_iret h.1 h.2.2.2.2 (by decide +kernel)

def f_L_put_j191 (L : Nat) (xsc : Nat → Int32) (next : Int32 × Int32 × Mem → Option (Int32 × Mem)) (exit : Int32 × Mem → Option (Int32 × Mem)) (s0 : Int32) (s1 : Int32) (s2 : Int32) (s3 : Int32) (x2 : Int32) (x5 : Int32) (x6 : Int32) (x7 : Int32) (x8 : Int32) (m : Mem) : Option (Int32 × Mem) :=
  bnd (f_L_some L xsc s1 s0 m) (fun r191 m191 =>
    if inB s3 28 = true then
      bnd (f_L_some L xsc (x8 >>> ((3 : Int32) &&& 31)) (10 : Int32) (mset m191 70 0 (ix s3) (s2 + r191))) (fun r209 m209 =>
        if inB ((13 : Int32) + x7) 28 = true then
          bnd (f_L_some L xsc (x8 >>> ((5 : Int32) &&& 31)) (7 : Int32) (mset m209 70 0 (ix ((13 : Int32) + x7)) r209)) (fun r226 m226 =>
            if inB ((18 : Int32) + x7) 28 = true then
              bnd (f_L_some L xsc (x8 >>> ((6 : Int32) &&& 31)) (6 : Int32) (mset m226 70 0 (ix ((18 : Int32) + x7)) r226)) (fun r244 m244 =>
                if inB ((23 : Int32) + x7) 28 = true then
                  bnd (f_X6_put (0 : Int32) x6 (59 : Int32) (mset m244 70 0 (ix ((23 : Int32) + x7)) r244)) (fun r257 m257 =>
                    if r257 = (1 : Int32) then
                      if inB ((3 : Int32) + x7) 28 = true then
                        if (m257 70 0 (ix ((3 : Int32) + x7))) = 0 then
                          f_L_put_j304 L xsc next exit (102 : Int32) (x6 + (1 : Int32)) (0 : Int32) x2 x5 ((x6 + (1 : Int32)) + (1 : Int32)) x7 m257
                        else
                          if inB ((3 : Int32) + x7) 28 = true then
                            if (m257 70 0 (ix ((3 : Int32) + x7))) = (1 : Int32) then
                              f_L_put_j304 L xsc next exit (101 : Int32) (x6 + (1 : Int32)) (0 : Int32) x2 x5 ((x6 + (1 : Int32)) + (1 : Int32)) x7 m257
                            else
                              f_L_put_j304 L xsc next exit (112 : Int32) (x6 + (1 : Int32)) (0 : Int32) x2 x5 ((x6 + (1 : Int32)) + (1 : Int32)) x7 m257
                          else none
                      else none
                    else
                      some ((-99 : Int32), m257))
                else none)
            else none)
        else none)
    else none)
theorem g_L_put_j191 {X : XT} (h : MX X method_4_code P_L 3 (some .int)) (next : Int32 × Int32 × Mem → Option (Int32 × Mem)) (exit : Int32 × Mem → Option (Int32 × Mem)) (s0 : Int32) (s1 : Int32) (s2 : Int32) (s3 : Int32) (x2 : Int32) (x5 : Int32) (x6 : Int32) (x7 : Int32) (x8 : Int32) (m : Mem) (o3 : Option AV) (o9 : Option AV) (hn : ∀ (y6 : Int32) (y7 : Int32) (n : Mem) (o3 : Option AV) (o8 : Option AV) (o9 : Option AV), Go X (Em X puI) 103 [some (.inr (.inr (0, 0))), some (.inr (.inr (60, 0))), some (.inl x2), o3, some (.inr (.inr (70, 0))), some (.inl x5), some (.inl y6), some (.inl y7), o8, o9] [] n (next (y6, y7, n))) (hx : ∀ (y6 : Int32) (n : Mem) (o0 : Option AV) (o1 : Option AV) (o2 : Option AV) (o3 : Option AV) (o4 : Option AV) (o5 : Option AV) (o7 : Option AV) (o8 : Option AV) (o9 : Option AV), Go X (Em X puI) 367 [o0, o1, o2, o3, o4, o5, some (.inl y6), o7, o8, o9] [] n (exit (y6, n))) : Go X (Em X puI) 191 [some (.inr (.inr (0, 0))), some (.inr (.inr (60, 0))), some (.inl x2), o3, some (.inr (.inr (70, 0))), some (.inl x5), some (.inl x6), some (.inl x7), some (.inl x8), o9] [.inl s0, .inl s1, .inl s2, .inl s3, .inr (.inr (70, 0))] m (f_L_put_j191 (xL X) (xx X) next exit s0 s1 s2 s3 x2 x5 x6 x7 x8 m) := by
  unfold f_L_put_j191
  refine go_callS h.1 (index := 15) (n := 2) (as := [.inl s1, .inl s0]) (rest := [.inl s2, .inl s3, .inr (.inr (70, 0))]) (ctr_L_some (xZ X) s1 s0 m) (by decide +kernel) wd_s_L_15 rfl (h.room (by first | decide | omega) (by decide)) h.cl (Nat.le_of_ble_eq_true rfl) puI_ok rfl (fun r191 m191 _ => ?_)
  show Go X (Em X puI) 194 [some (.inr (.inr (0, 0))), some (.inr (.inr (60, 0))), some (.inl x2), o3, some (.inr (.inr (70, 0))), some (.inl x5), some (.inl x6), some (.inl x7), some (.inl x8), o9] [.inl r191, .inl s2, .inl s3, .inr (.inr (70, 0))] m191 _
  refine go_blk h.1 (is := [.iadd]) (pc' := 195) (ls' := [some (.inr (.inr (0, 0))), some (.inr (.inr (60, 0))), some (.inl x2), o3, some (.inr (.inr (70, 0))), some (.inl x5), some (.inl x6), some (.inl x7), some (.inl x8), o9]) (st' := [.inl (s2 + r191), .inl s3, .inr (.inr (70, 0))]) (m' := m191) (by decide +kernel) rfl ?_
  refine go_iast h.1 (by decide +kernel) rfl rfl (fun b195 => ?_)
  refine go_blk h.1 (is := [.aload 4, .bipush 13, .iload 7, .iadd, .iload 8, .iconst 3, .ishr, .bipush 10]) (pc' := 209) (ls' := [some (.inr (.inr (0, 0))), some (.inr (.inr (60, 0))), some (.inl x2), o3, some (.inr (.inr (70, 0))), some (.inl x5), some (.inl x6), some (.inl x7), some (.inl x8), o9]) (st' := [.inl (10 : Int32), .inl (x8 >>> ((3 : Int32) &&& 31)), .inl ((13 : Int32) + x7), .inr (.inr (70, 0))]) (m' := (mset m191 70 0 (ix s3) (s2 + r191))) (by decide +kernel) rfl ?_
  refine go_callS h.1 (index := 15) (n := 2) (as := [.inl (x8 >>> ((3 : Int32) &&& 31)), .inl (10 : Int32)]) (rest := [.inl ((13 : Int32) + x7), .inr (.inr (70, 0))]) (ctr_L_some (xZ X) (x8 >>> ((3 : Int32) &&& 31)) (10 : Int32) (mset m191 70 0 (ix s3) (s2 + r191))) (by decide +kernel) wd_s_L_15 rfl (h.room (by first | decide | omega) (by decide)) h.cl (Nat.le_of_ble_eq_true rfl) puI_ok rfl (fun r209 m209 _ => ?_)
  show Go X (Em X puI) 212 [some (.inr (.inr (0, 0))), some (.inr (.inr (60, 0))), some (.inl x2), o3, some (.inr (.inr (70, 0))), some (.inl x5), some (.inl x6), some (.inl x7), some (.inl x8), o9] [.inl r209, .inl ((13 : Int32) + x7), .inr (.inr (70, 0))] m209 _
  refine go_iast h.1 (by decide +kernel) rfl rfl (fun b212 => ?_)
  refine go_blk h.1 (is := [.aload 4, .bipush 18, .iload 7, .iadd, .iload 8, .iconst 5, .ishr, .bipush 7]) (pc' := 226) (ls' := [some (.inr (.inr (0, 0))), some (.inr (.inr (60, 0))), some (.inl x2), o3, some (.inr (.inr (70, 0))), some (.inl x5), some (.inl x6), some (.inl x7), some (.inl x8), o9]) (st' := [.inl (7 : Int32), .inl (x8 >>> ((5 : Int32) &&& 31)), .inl ((18 : Int32) + x7), .inr (.inr (70, 0))]) (m' := (mset m209 70 0 (ix ((13 : Int32) + x7)) r209)) (by decide +kernel) rfl ?_
  refine go_callS h.1 (index := 15) (n := 2) (as := [.inl (x8 >>> ((5 : Int32) &&& 31)), .inl (7 : Int32)]) (rest := [.inl ((18 : Int32) + x7), .inr (.inr (70, 0))]) (ctr_L_some (xZ X) (x8 >>> ((5 : Int32) &&& 31)) (7 : Int32) (mset m209 70 0 (ix ((13 : Int32) + x7)) r209)) (by decide +kernel) wd_s_L_15 rfl (h.room (by first | decide | omega) (by decide)) h.cl (Nat.le_of_ble_eq_true rfl) puI_ok rfl (fun r226 m226 _ => ?_)
  show Go X (Em X puI) 229 [some (.inr (.inr (0, 0))), some (.inr (.inr (60, 0))), some (.inl x2), o3, some (.inr (.inr (70, 0))), some (.inl x5), some (.inl x6), some (.inl x7), some (.inl x8), o9] [.inl r226, .inl ((18 : Int32) + x7), .inr (.inr (70, 0))] m226 _
  refine go_iast h.1 (by decide +kernel) rfl rfl (fun b229 => ?_)
  refine go_blk h.1 (is := [.aload 4, .bipush 23, .iload 7, .iadd, .iload 8, .bipush 6, .ishr, .bipush 6]) (pc' := 244) (ls' := [some (.inr (.inr (0, 0))), some (.inr (.inr (60, 0))), some (.inl x2), o3, some (.inr (.inr (70, 0))), some (.inl x5), some (.inl x6), some (.inl x7), some (.inl x8), o9]) (st' := [.inl (6 : Int32), .inl (x8 >>> ((6 : Int32) &&& 31)), .inl ((23 : Int32) + x7), .inr (.inr (70, 0))]) (m' := (mset m226 70 0 (ix ((18 : Int32) + x7)) r226)) (by decide +kernel) rfl ?_
  refine go_callS h.1 (index := 15) (n := 2) (as := [.inl (x8 >>> ((6 : Int32) &&& 31)), .inl (6 : Int32)]) (rest := [.inl ((23 : Int32) + x7), .inr (.inr (70, 0))]) (ctr_L_some (xZ X) (x8 >>> ((6 : Int32) &&& 31)) (6 : Int32) (mset m226 70 0 (ix ((18 : Int32) + x7)) r226)) (by decide +kernel) wd_s_L_15 rfl (h.room (by first | decide | omega) (by decide)) h.cl (Nat.le_of_ble_eq_true rfl) puI_ok rfl (fun r244 m244 _ => ?_)
  show Go X (Em X puI) 247 [some (.inr (.inr (0, 0))), some (.inr (.inr (60, 0))), some (.inl x2), o3, some (.inr (.inr (70, 0))), some (.inl x5), some (.inl x6), some (.inl x7), some (.inl x8), o9] [.inl r244, .inl ((23 : Int32) + x7), .inr (.inr (70, 0))] m244 _
  refine go_iast h.1 (by decide +kernel) rfl rfl (fun b247 => ?_)
  refine go_blk h.1 (is := [.aload_n 0, .iconst 0, .iload 6, .iinc 6 1, .bipush 59]) (pc' := 257) (ls' := [some (.inr (.inr (0, 0))), some (.inr (.inr (60, 0))), some (.inl x2), o3, some (.inr (.inr (70, 0))), some (.inl x5), some (.inl (x6 + (1 : Int32))), some (.inl x7), some (.inl x8), o9]) (st' := [.inl (59 : Int32), .inl x6, .inl (0 : Int32), .inr (.inr (0, 0))]) (m' := (mset m244 70 0 (ix ((23 : Int32) + x7)) r244)) (by decide +kernel) rfl ?_
  refine go_callV h.1 (index := 25) (n := 3) (t := 0) (i := 0) (ci := 6) (nf := 7) (cz := (RX6, TX6, 7)) (as := [.inl (0 : Int32), .inl x6, .inl (59 : Int32)]) (rest := []) (ctr_X6_put (xZ X) (0 : Int32) x6 (59 : Int32) (mset m244 70 0 (ix ((23 : Int32) + x7)) r244)) (by decide +kernel) rfl rfl wd_v_L_25 rfl (h.room (by first | decide | omega) (by decide)) h.cl (Nat.le_of_ble_eq_true rfl) puI_ok rfl (fun r257 m257 _ => ?_)
  show Go X (Em X puI) 260 [some (.inr (.inr (0, 0))), some (.inr (.inr (60, 0))), some (.inl x2), o3, some (.inr (.inr (70, 0))), some (.inl x5), some (.inl (x6 + (1 : Int32))), some (.inl x7), some (.inl x8), o9] [.inl r257] m257 _
  refine go_blk h.1 (is := [.iconst 1]) (pc' := 261) (ls' := [some (.inr (.inr (0, 0))), some (.inr (.inr (60, 0))), some (.inl x2), o3, some (.inr (.inr (70, 0))), some (.inl x5), some (.inl (x6 + (1 : Int32))), some (.inl x7), some (.inl x8), o9]) (st' := [.inl (1 : Int32), .inl r257]) (m' := m257) (by decide +kernel) rfl ?_
  refine go_icmpne h.1 (off := 50) 311 (by decide +kernel) (by decide) (fun c261 => ?_) (fun c261 => ?_)
  · refine go_blk h.1 (is := [.bipush (-99)]) (pc' := 313) (ls' := [some (.inr (.inr (0, 0))), some (.inr (.inr (60, 0))), some (.inl x2), o3, some (.inr (.inr (70, 0))), some (.inl x5), some (.inl (x6 + (1 : Int32))), some (.inl x7), some (.inl x8), o9]) (st' := [.inl (-99 : Int32)]) (m' := m257) (by decide +kernel) rfl ?_
    exact go_iret h.1 h.2.2.2.2 (by decide +kernel)
  · refine go_blk h.1 (is := [.aload_n 0, .iconst 0, .iload 6, .iinc 6 1, .aload 4, .iconst 3, .iload 7, .iadd]) (pc' := 277) (ls' := [some (.inr (.inr (0, 0))), some (.inr (.inr (60, 0))), some (.inl x2), o3, some (.inr (.inr (70, 0))), some (.inl x5), some (.inl ((x6 + (1 : Int32)) + (1 : Int32))), some (.inl x7), some (.inl x8), o9]) (st' := [.inl ((3 : Int32) + x7), .inr (.inr (70, 0)), .inl (x6 + (1 : Int32)), .inl (0 : Int32), .inr (.inr (0, 0))]) (m' := m257) (by decide +kernel) rfl ?_
    refine go_iald h.1 (by decide +kernel) rfl rfl (fun b277 => ?_)
    show Go X (Em X puI) 278 [some (.inr (.inr (0, 0))), some (.inr (.inr (60, 0))), some (.inl x2), o3, some (.inr (.inr (70, 0))), some (.inl x5), some (.inl ((x6 + (1 : Int32)) + (1 : Int32))), some (.inl x7), some (.inl x8), o9] [.inl (m257 70 0 (ix ((3 : Int32) + x7))), .inl (x6 + (1 : Int32)), .inl (0 : Int32), .inr (.inr (0, 0))] m257 _
    refine go_ifne h.1 (off := 8) 286 (by decide +kernel) (by decide) (fun c278 => ?_) (fun c278 => ?_)
    · refine go_blk h.1 (is := [.aload 4, .iconst 3, .iload 7, .iadd]) (pc' := 292) (ls' := [some (.inr (.inr (0, 0))), some (.inr (.inr (60, 0))), some (.inl x2), o3, some (.inr (.inr (70, 0))), some (.inl x5), some (.inl ((x6 + (1 : Int32)) + (1 : Int32))), some (.inl x7), some (.inl x8), o9]) (st' := [.inl ((3 : Int32) + x7), .inr (.inr (70, 0)), .inl (x6 + (1 : Int32)), .inl (0 : Int32), .inr (.inr (0, 0))]) (m' := m257) (by decide +kernel) rfl ?_
      refine go_iald h.1 (by decide +kernel) rfl rfl (fun b292 => ?_)
      show Go X (Em X puI) 293 [some (.inr (.inr (0, 0))), some (.inr (.inr (60, 0))), some (.inl x2), o3, some (.inr (.inr (70, 0))), some (.inl x5), some (.inl ((x6 + (1 : Int32)) + (1 : Int32))), some (.inl x7), some (.inl x8), o9] [.inl (m257 70 0 (ix ((3 : Int32) + x7))), .inl (x6 + (1 : Int32)), .inl (0 : Int32), .inr (.inr (0, 0))] m257 _
      refine go_blk h.1 (is := [.iconst 1]) (pc' := 294) (ls' := [some (.inr (.inr (0, 0))), some (.inr (.inr (60, 0))), some (.inl x2), o3, some (.inr (.inr (70, 0))), some (.inl x5), some (.inl ((x6 + (1 : Int32)) + (1 : Int32))), some (.inl x7), some (.inl x8), o9]) (st' := [.inl (1 : Int32), .inl (m257 70 0 (ix ((3 : Int32) + x7))), .inl (x6 + (1 : Int32)), .inl (0 : Int32), .inr (.inr (0, 0))]) (m' := m257) (by decide +kernel) rfl ?_
      refine go_icmpne h.1 (off := 8) 302 (by decide +kernel) (by decide) (fun c294 => ?_) (fun c294 => ?_)
      · refine go_blk h.1 (is := [.bipush 112]) (pc' := 304) (ls' := [some (.inr (.inr (0, 0))), some (.inr (.inr (60, 0))), some (.inl x2), o3, some (.inr (.inr (70, 0))), some (.inl x5), some (.inl ((x6 + (1 : Int32)) + (1 : Int32))), some (.inl x7), some (.inl x8), o9]) (st' := [.inl (112 : Int32), .inl (x6 + (1 : Int32)), .inl (0 : Int32), .inr (.inr (0, 0))]) (m' := m257) (by decide +kernel) rfl ?_
        exact g_L_put_j304 h next exit (112 : Int32) (x6 + (1 : Int32)) (0 : Int32) x2 x5 ((x6 + (1 : Int32)) + (1 : Int32)) x7 m257 (o3) (some (.inl x8)) (o9) hn hx
      · refine go_blk h.1 (is := [.bipush 101]) (pc' := 299) (ls' := [some (.inr (.inr (0, 0))), some (.inr (.inr (60, 0))), some (.inl x2), o3, some (.inr (.inr (70, 0))), some (.inl x5), some (.inl ((x6 + (1 : Int32)) + (1 : Int32))), some (.inl x7), some (.inl x8), o9]) (st' := [.inl (101 : Int32), .inl (x6 + (1 : Int32)), .inl (0 : Int32), .inr (.inr (0, 0))]) (m' := m257) (by decide +kernel) rfl ?_
        refine go_goto h.1 (off := 5) 304 (by decide +kernel) (by decide) ?_
        exact g_L_put_j304 h next exit (101 : Int32) (x6 + (1 : Int32)) (0 : Int32) x2 x5 ((x6 + (1 : Int32)) + (1 : Int32)) x7 m257 (o3) (some (.inl x8)) (o9) hn hx
    · refine go_blk h.1 (is := [.bipush 102]) (pc' := 283) (ls' := [some (.inr (.inr (0, 0))), some (.inr (.inr (60, 0))), some (.inl x2), o3, some (.inr (.inr (70, 0))), some (.inl x5), some (.inl ((x6 + (1 : Int32)) + (1 : Int32))), some (.inl x7), some (.inl x8), o9]) (st' := [.inl (102 : Int32), .inl (x6 + (1 : Int32)), .inl (0 : Int32), .inr (.inr (0, 0))]) (m' := m257) (by decide +kernel) rfl ?_
      refine go_goto h.1 (off := 21) 304 (by decide +kernel) (by decide) ?_
      exact g_L_put_j304 h next exit (102 : Int32) (x6 + (1 : Int32)) (0 : Int32) x2 x5 ((x6 + (1 : Int32)) + (1 : Int32)) x7 m257 (o3) (some (.inl x8)) (o9) hn hx

def f_L_put_j160 (L : Nat) (xsc : Nat → Int32) (next : Int32 × Int32 × Mem → Option (Int32 × Mem)) (exit : Int32 × Mem → Option (Int32 × Mem)) (s0 : Int32) (s1 : Int32) (x2 : Int32) (x5 : Int32) (x6 : Int32) (x7 : Int32) (x8 : Int32) (m : Mem) : Option (Int32 × Mem) :=
  if inB s1 28 = true then
    bnd (f_L_some L xsc (x5 >>> ((8 : Int32) &&& 31)) (2 : Int32) (mset m 70 0 (ix s1) s0)) (fun r179 m179 =>
      if r179 = 0 then
        f_L_put_j191 L xsc next exit (9 : Int32) (x8 >>> ((1 : Int32) &&& 31)) (1 : Int32) ((8 : Int32) + x7) x2 x5 x6 x7 x8 m179
      else
        f_L_put_j191 L xsc next exit (4 : Int32) (x8 >>> ((1 : Int32) &&& 31)) (1 : Int32) ((8 : Int32) + x7) x2 x5 x6 x7 x8 m179)
  else none
theorem g_L_put_j160 {X : XT} (h : MX X method_4_code P_L 3 (some .int)) (next : Int32 × Int32 × Mem → Option (Int32 × Mem)) (exit : Int32 × Mem → Option (Int32 × Mem)) (s0 : Int32) (s1 : Int32) (x2 : Int32) (x5 : Int32) (x6 : Int32) (x7 : Int32) (x8 : Int32) (m : Mem) (o3 : Option AV) (o9 : Option AV) (hn : ∀ (y6 : Int32) (y7 : Int32) (n : Mem) (o3 : Option AV) (o8 : Option AV) (o9 : Option AV), Go X (Em X puI) 103 [some (.inr (.inr (0, 0))), some (.inr (.inr (60, 0))), some (.inl x2), o3, some (.inr (.inr (70, 0))), some (.inl x5), some (.inl y6), some (.inl y7), o8, o9] [] n (next (y6, y7, n))) (hx : ∀ (y6 : Int32) (n : Mem) (o0 : Option AV) (o1 : Option AV) (o2 : Option AV) (o3 : Option AV) (o4 : Option AV) (o5 : Option AV) (o7 : Option AV) (o8 : Option AV) (o9 : Option AV), Go X (Em X puI) 367 [o0, o1, o2, o3, o4, o5, some (.inl y6), o7, o8, o9] [] n (exit (y6, n))) : Go X (Em X puI) 160 [some (.inr (.inr (0, 0))), some (.inr (.inr (60, 0))), some (.inl x2), o3, some (.inr (.inr (70, 0))), some (.inl x5), some (.inl x6), some (.inl x7), some (.inl x8), o9] [.inl s0, .inl s1, .inr (.inr (70, 0))] m (f_L_put_j160 (xL X) (xx X) next exit s0 s1 x2 x5 x6 x7 x8 m) := by
  unfold f_L_put_j160
  refine go_iast h.1 (by decide +kernel) rfl rfl (fun b160 => ?_)
  refine go_blk h.1 (is := [.aload 4, .bipush 8, .iload 7, .iadd, .iconst 1, .iload 8, .iconst 1, .ishr, .iload 5, .bipush 8, .ishr, .iconst 2]) (pc' := 179) (ls' := [some (.inr (.inr (0, 0))), some (.inr (.inr (60, 0))), some (.inl x2), o3, some (.inr (.inr (70, 0))), some (.inl x5), some (.inl x6), some (.inl x7), some (.inl x8), o9]) (st' := [.inl (2 : Int32), .inl (x5 >>> ((8 : Int32) &&& 31)), .inl (x8 >>> ((1 : Int32) &&& 31)), .inl (1 : Int32), .inl ((8 : Int32) + x7), .inr (.inr (70, 0))]) (m' := (mset m 70 0 (ix s1) s0)) (by decide +kernel) rfl ?_
  refine go_callS h.1 (index := 15) (n := 2) (as := [.inl (x5 >>> ((8 : Int32) &&& 31)), .inl (2 : Int32)]) (rest := [.inl (x8 >>> ((1 : Int32) &&& 31)), .inl (1 : Int32), .inl ((8 : Int32) + x7), .inr (.inr (70, 0))]) (ctr_L_some (xZ X) (x5 >>> ((8 : Int32) &&& 31)) (2 : Int32) (mset m 70 0 (ix s1) s0)) (by decide +kernel) wd_s_L_15 rfl (h.room (by first | decide | omega) (by decide)) h.cl (Nat.le_of_ble_eq_true rfl) puI_ok rfl (fun r179 m179 _ => ?_)
  show Go X (Em X puI) 182 [some (.inr (.inr (0, 0))), some (.inr (.inr (60, 0))), some (.inl x2), o3, some (.inr (.inr (70, 0))), some (.inl x5), some (.inl x6), some (.inl x7), some (.inl x8), o9] [.inl r179, .inl (x8 >>> ((1 : Int32) &&& 31)), .inl (1 : Int32), .inl ((8 : Int32) + x7), .inr (.inr (70, 0))] m179 _
  refine go_ifne h.1 (off := 8) 190 (by decide +kernel) (by decide) (fun c182 => ?_) (fun c182 => ?_)
  · refine go_blk h.1 (is := [.iconst 4]) (pc' := 191) (ls' := [some (.inr (.inr (0, 0))), some (.inr (.inr (60, 0))), some (.inl x2), o3, some (.inr (.inr (70, 0))), some (.inl x5), some (.inl x6), some (.inl x7), some (.inl x8), o9]) (st' := [.inl (4 : Int32), .inl (x8 >>> ((1 : Int32) &&& 31)), .inl (1 : Int32), .inl ((8 : Int32) + x7), .inr (.inr (70, 0))]) (m' := m179) (by decide +kernel) rfl ?_
    exact g_L_put_j191 h next exit (4 : Int32) (x8 >>> ((1 : Int32) &&& 31)) (1 : Int32) ((8 : Int32) + x7) x2 x5 x6 x7 x8 m179 (o3) (o9) hn hx
  · refine go_blk h.1 (is := [.bipush 9]) (pc' := 187) (ls' := [some (.inr (.inr (0, 0))), some (.inr (.inr (60, 0))), some (.inl x2), o3, some (.inr (.inr (70, 0))), some (.inl x5), some (.inl x6), some (.inl x7), some (.inl x8), o9]) (st' := [.inl (9 : Int32), .inl (x8 >>> ((1 : Int32) &&& 31)), .inl (1 : Int32), .inl ((8 : Int32) + x7), .inr (.inr (70, 0))]) (m' := m179) (by decide +kernel) rfl ?_
    refine go_goto h.1 (off := 4) 191 (by decide +kernel) (by decide) ?_
    exact g_L_put_j191 h next exit (9 : Int32) (x8 >>> ((1 : Int32) &&& 31)) (1 : Int32) ((8 : Int32) + x7) x2 x5 x6 x7 x8 m179 (o3) (o9) hn hx

def f_L_put_b103 (L : Nat) (xsc : Nat → Int32) (x2 : Int32) (x5 : Int32) (next : Int32 × Int32 × Mem → Option (Int32 × Mem)) (exit : Int32 × Mem → Option (Int32 × Mem)) (s : Int32 × Int32 × Mem) : Option (Int32 × Mem) :=
  if inB (1 : Int32) 28 = true then
    if (s.2.2 70 0 (ix (1 : Int32))) ≤ s.2.1 then
      exit (s.1, s.2.2)
    else
      if ¬ (3 : Int32) = 0 then dv (s.2.1 - s.2.1 / (3 : Int32) * (3 : Int32)) (fun q119 =>
        bnd (f_L_cell L xsc ((x2 + (1 : Int32)) + q119) s.2.2) (fun r121 m121 =>
          if ¬ (3 : Int32) = 0 then dv (s.2.1 / (3 : Int32)) (fun q127 =>
            bnd (f_L_some L xsc (r121 >>> ((q127 * (9 : Int32)) &&& 31)) (4 : Int32) m121) (fun r143 m143 =>
              if r143 = (3 : Int32) then
                f_L_put_j160 L xsc next exit (1 : Int32) ((3 : Int32) + s.2.1) x2 x5 s.1 s.2.1 (r121 >>> ((q127 * (9 : Int32)) &&& 31)) m143
              else
                bnd (f_L_some L xsc (r121 >>> ((q127 * (9 : Int32)) &&& 31)) (4 : Int32) m143) (fun r157 m157 =>
                  f_L_put_j160 L xsc next exit r157 ((3 : Int32) + s.2.1) x2 x5 s.1 s.2.1 (r121 >>> ((q127 * (9 : Int32)) &&& 31)) m157)))
          else none))
      else none
  else none
theorem g_L_put_b103 {X : XT} (h : MX X method_4_code P_L 3 (some .int)) (x2 : Int32) (x5 : Int32) (next : Int32 × Int32 × Mem → Option (Int32 × Mem)) (exit : Int32 × Mem → Option (Int32 × Mem)) (hn : ∀ (y6 : Int32) (y7 : Int32) (n : Mem) (o3 : Option AV) (o8 : Option AV) (o9 : Option AV), Go X (Em X puI) 103 [some (.inr (.inr (0, 0))), some (.inr (.inr (60, 0))), some (.inl x2), o3, some (.inr (.inr (70, 0))), some (.inl x5), some (.inl y6), some (.inl y7), o8, o9] [] n (next (y6, y7, n))) (hx : ∀ (y6 : Int32) (n : Mem) (o0 : Option AV) (o1 : Option AV) (o2 : Option AV) (o3 : Option AV) (o4 : Option AV) (o5 : Option AV) (o7 : Option AV) (o8 : Option AV) (o9 : Option AV), Go X (Em X puI) 367 [o0, o1, o2, o3, o4, o5, some (.inl y6), o7, o8, o9] [] n (exit (y6, n))) (s : Int32 × Int32 × Mem) (o3 : Option AV) (o8 : Option AV) (o9 : Option AV) : Go X (Em X puI) 103 [some (.inr (.inr (0, 0))), some (.inr (.inr (60, 0))), some (.inl x2), o3, some (.inr (.inr (70, 0))), some (.inl x5), some (.inl s.1), some (.inl s.2.1), o8, o9] [] s.2.2 (f_L_put_b103 (xL X) (xx X) x2 x5 next exit s) := by
  unfold f_L_put_b103
  refine go_blk h.1 (is := [.iload 7, .aload 4, .iconst 1]) (pc' := 108) (ls' := [some (.inr (.inr (0, 0))), some (.inr (.inr (60, 0))), some (.inl x2), o3, some (.inr (.inr (70, 0))), some (.inl x5), some (.inl s.1), some (.inl s.2.1), o8, o9]) (st' := [.inl (1 : Int32), .inr (.inr (70, 0)), .inl s.2.1]) (m' := s.2.2) (by decide +kernel) rfl ?_
  refine go_iald h.1 (by decide +kernel) rfl rfl (fun b108 => ?_)
  show Go X (Em X puI) 109 [some (.inr (.inr (0, 0))), some (.inr (.inr (60, 0))), some (.inl x2), o3, some (.inr (.inr (70, 0))), some (.inl x5), some (.inl s.1), some (.inl s.2.1), o8, o9] [.inl (s.2.2 70 0 (ix (1 : Int32))), .inl s.2.1] s.2.2 _
  refine go_icmpge h.1 (off := 258) 367 (by decide +kernel) (by decide) (fun c109 => ?_) (fun c109 => ?_)
  · exact hx s.1 s.2.2 (some (.inr (.inr (0, 0)))) (some (.inr (.inr (60, 0)))) (some (.inl x2)) (o3) (some (.inr (.inr (70, 0)))) (some (.inl x5)) (some (.inl s.2.1)) (o8) (o9)
  · refine go_blk h.1 (is := [.aload_n 1, .iload_n 2, .iconst 1, .iadd, .iload 7, .iconst 3]) (pc' := 119) (ls' := [some (.inr (.inr (0, 0))), some (.inr (.inr (60, 0))), some (.inl x2), o3, some (.inr (.inr (70, 0))), some (.inl x5), some (.inl s.1), some (.inl s.2.1), o8, o9]) (st' := [.inl (3 : Int32), .inl s.2.1, .inl (x2 + (1 : Int32)), .inr (.inr (60, 0))]) (m' := s.2.2) (by decide +kernel) rfl ?_
    refine go_irem h.1 (by decide +kernel) (fun z119 q119 _ => ?_)
    refine go_blk h.1 (is := [.iadd]) (pc' := 121) (ls' := [some (.inr (.inr (0, 0))), some (.inr (.inr (60, 0))), some (.inl x2), o3, some (.inr (.inr (70, 0))), some (.inl x5), some (.inl s.1), some (.inl s.2.1), o8, o9]) (st' := [.inl ((x2 + (1 : Int32)) + q119), .inr (.inr (60, 0))]) (m' := s.2.2) (by decide +kernel) rfl ?_
    refine go_callS h.1 (index := 9) (n := 2) (as := [.inr (.inr (60, 0)), .inl ((x2 + (1 : Int32)) + q119)]) (rest := []) (ctr_L_cell (xZ X) ((x2 + (1 : Int32)) + q119) s.2.2) (by decide +kernel) wd_s_L_9 rfl (h.room (by first | decide | omega) (by decide)) h.cl (Nat.le_of_ble_eq_true rfl) puI_ok rfl (fun r121 m121 _ => ?_)
    show Go X (Em X puI) 124 [some (.inr (.inr (0, 0))), some (.inr (.inr (60, 0))), some (.inl x2), o3, some (.inr (.inr (70, 0))), some (.inl x5), some (.inl s.1), some (.inl s.2.1), o8, o9] [.inl r121] m121 _
    refine go_blk h.1 (is := [.iload 7, .iconst 3]) (pc' := 127) (ls' := [some (.inr (.inr (0, 0))), some (.inr (.inr (60, 0))), some (.inl x2), o3, some (.inr (.inr (70, 0))), some (.inl x5), some (.inl s.1), some (.inl s.2.1), o8, o9]) (st' := [.inl (3 : Int32), .inl s.2.1, .inl r121]) (m' := m121) (by decide +kernel) rfl ?_
    refine go_idiv h.1 (by decide +kernel) (fun z127 q127 _ => ?_)
    refine go_blk h.1 (is := [.bipush 9, .imul, .ishr, .istore 8, .aload 4, .iconst 3, .iload 7, .iadd, .iload 8, .iconst 4]) (pc' := 143) (ls' := [some (.inr (.inr (0, 0))), some (.inr (.inr (60, 0))), some (.inl x2), o3, some (.inr (.inr (70, 0))), some (.inl x5), some (.inl s.1), some (.inl s.2.1), some (.inl (r121 >>> ((q127 * (9 : Int32)) &&& 31))), o9]) (st' := [.inl (4 : Int32), .inl (r121 >>> ((q127 * (9 : Int32)) &&& 31)), .inl ((3 : Int32) + s.2.1), .inr (.inr (70, 0))]) (m' := m121) (by decide +kernel) rfl ?_
    refine go_callS h.1 (index := 15) (n := 2) (as := [.inl (r121 >>> ((q127 * (9 : Int32)) &&& 31)), .inl (4 : Int32)]) (rest := [.inl ((3 : Int32) + s.2.1), .inr (.inr (70, 0))]) (ctr_L_some (xZ X) (r121 >>> ((q127 * (9 : Int32)) &&& 31)) (4 : Int32) m121) (by decide +kernel) wd_s_L_15 rfl (h.room (by first | decide | omega) (by decide)) h.cl (Nat.le_of_ble_eq_true rfl) puI_ok rfl (fun r143 m143 _ => ?_)
    show Go X (Em X puI) 146 [some (.inr (.inr (0, 0))), some (.inr (.inr (60, 0))), some (.inl x2), o3, some (.inr (.inr (70, 0))), some (.inl x5), some (.inl s.1), some (.inl s.2.1), some (.inl (r121 >>> ((q127 * (9 : Int32)) &&& 31))), o9] [.inl r143, .inl ((3 : Int32) + s.2.1), .inr (.inr (70, 0))] m143 _
    refine go_blk h.1 (is := [.iconst 3]) (pc' := 147) (ls' := [some (.inr (.inr (0, 0))), some (.inr (.inr (60, 0))), some (.inl x2), o3, some (.inr (.inr (70, 0))), some (.inl x5), some (.inl s.1), some (.inl s.2.1), some (.inl (r121 >>> ((q127 * (9 : Int32)) &&& 31))), o9]) (st' := [.inl (3 : Int32), .inl r143, .inl ((3 : Int32) + s.2.1), .inr (.inr (70, 0))]) (m' := m143) (by decide +kernel) rfl ?_
    refine go_icmpne h.1 (off := 7) 154 (by decide +kernel) (by decide) (fun c147 => ?_) (fun c147 => ?_)
    · refine go_blk h.1 (is := [.iload 8, .iconst 4]) (pc' := 157) (ls' := [some (.inr (.inr (0, 0))), some (.inr (.inr (60, 0))), some (.inl x2), o3, some (.inr (.inr (70, 0))), some (.inl x5), some (.inl s.1), some (.inl s.2.1), some (.inl (r121 >>> ((q127 * (9 : Int32)) &&& 31))), o9]) (st' := [.inl (4 : Int32), .inl (r121 >>> ((q127 * (9 : Int32)) &&& 31)), .inl ((3 : Int32) + s.2.1), .inr (.inr (70, 0))]) (m' := m143) (by decide +kernel) rfl ?_
      refine go_callS h.1 (index := 15) (n := 2) (as := [.inl (r121 >>> ((q127 * (9 : Int32)) &&& 31)), .inl (4 : Int32)]) (rest := [.inl ((3 : Int32) + s.2.1), .inr (.inr (70, 0))]) (ctr_L_some (xZ X) (r121 >>> ((q127 * (9 : Int32)) &&& 31)) (4 : Int32) m143) (by decide +kernel) wd_s_L_15 rfl (h.room (by first | decide | omega) (by decide)) h.cl (Nat.le_of_ble_eq_true rfl) puI_ok rfl (fun r157 m157 _ => ?_)
      show Go X (Em X puI) 160 [some (.inr (.inr (0, 0))), some (.inr (.inr (60, 0))), some (.inl x2), o3, some (.inr (.inr (70, 0))), some (.inl x5), some (.inl s.1), some (.inl s.2.1), some (.inl (r121 >>> ((q127 * (9 : Int32)) &&& 31))), o9] [.inl r157, .inl ((3 : Int32) + s.2.1), .inr (.inr (70, 0))] m157 _
      exact g_L_put_j160 h next exit r157 ((3 : Int32) + s.2.1) x2 x5 s.1 s.2.1 (r121 >>> ((q127 * (9 : Int32)) &&& 31)) m157 (o3) (o9) hn hx
    · refine go_blk h.1 (is := [.iconst 1]) (pc' := 151) (ls' := [some (.inr (.inr (0, 0))), some (.inr (.inr (60, 0))), some (.inl x2), o3, some (.inr (.inr (70, 0))), some (.inl x5), some (.inl s.1), some (.inl s.2.1), some (.inl (r121 >>> ((q127 * (9 : Int32)) &&& 31))), o9]) (st' := [.inl (1 : Int32), .inl ((3 : Int32) + s.2.1), .inr (.inr (70, 0))]) (m' := m143) (by decide +kernel) rfl ?_
      refine go_goto h.1 (off := 9) 160 (by decide +kernel) (by decide) ?_
      exact g_L_put_j160 h next exit (1 : Int32) ((3 : Int32) + s.2.1) x2 x5 s.1 s.2.1 (r121 >>> ((q127 * (9 : Int32)) &&& 31)) m143 (o3) (o9) hn hx

def f_L_put_j30 (L : Nat) (xsc : Nat → Int32) (s0 : Int32) (s1 : Int32) (s2 : Int32) (x2 : Int32) (x3 : Int32) (x5 : Int32) (m : Mem) : Option (Int32 × Mem) :=
  bnd (f_L_some L xsc s1 s0 m) (fun r30 m30 =>
    if inB s2 28 = true then
      bnd (f_L_some L xsc (x5 >>> ((3 : Int32) &&& 31)) x3 (mset m30 70 0 (ix s2) r30)) (fun r43 m43 =>
        if inB (1 : Int32) 28 = true then
          if inB (2 : Int32) 28 = true then
            bnd (f_X6_sheet (0 : Int32) (0 : Int32) (60 : Int32) (mset (mset m43 70 0 (ix (1 : Int32)) ((1 : Int32) + r43)) 70 0 (ix (2 : Int32)) (0 : Int32))) (fun r58 m58 =>
              if r58 = (1 : Int32) then
                bnd (f_X6_put (0 : Int32) (0 : Int32) (104 : Int32) m58) (fun r70 m70 =>
                  if r70 = (1 : Int32) then
                    if inB (0 : Int32) 28 = true then
                      bnd (f_X6_put (0 : Int32) (1 : Int32) ((48 : Int32) + (m70 70 0 (ix (0 : Int32)))) m70) (fun r87 m87 =>
                        if r87 = (1 : Int32) then
                          lpk (f_L_put_b103 L xsc x2 x5) fuelN ((2 : Int32), (0 : Int32), m87) (fun t103 =>
                            some (t103.1, t103.2))
                        else
                          some ((-99 : Int32), m87))
                    else none
                  else
                    some ((-99 : Int32), m70))
              else
                some ((-99 : Int32), m58))
          else none
        else none)
    else none)
theorem g_L_put_j30 {X : XT} (h : MX X method_4_code P_L 3 (some .int)) (s0 : Int32) (s1 : Int32) (s2 : Int32) (x2 : Int32) (x3 : Int32) (x5 : Int32) (m : Mem) (o6 : Option AV) (o7 : Option AV) (o8 : Option AV) (o9 : Option AV) : Go X (Em X puI) 30 [some (.inr (.inr (0, 0))), some (.inr (.inr (60, 0))), some (.inl x2), some (.inl x3), some (.inr (.inr (70, 0))), some (.inl x5), o6, o7, o8, o9] [.inl s0, .inl s1, .inl s2, .inr (.inr (70, 0))] m (f_L_put_j30 (xL X) (xx X) s0 s1 s2 x2 x3 x5 m) := by
  unfold f_L_put_j30
  refine go_callS h.1 (index := 15) (n := 2) (as := [.inl s1, .inl s0]) (rest := [.inl s2, .inr (.inr (70, 0))]) (ctr_L_some (xZ X) s1 s0 m) (by decide +kernel) wd_s_L_15 rfl (h.room (by first | decide | omega) (by decide)) h.cl (Nat.le_of_ble_eq_true rfl) puI_ok rfl (fun r30 m30 _ => ?_)
  show Go X (Em X puI) 33 [some (.inr (.inr (0, 0))), some (.inr (.inr (60, 0))), some (.inl x2), some (.inl x3), some (.inr (.inr (70, 0))), some (.inl x5), o6, o7, o8, o9] [.inl r30, .inl s2, .inr (.inr (70, 0))] m30 _
  refine go_iast h.1 (by decide +kernel) rfl rfl (fun b33 => ?_)
  refine go_blk h.1 (is := [.aload 4, .iconst 1, .iconst 1, .iload 5, .iconst 3, .ishr, .iload_n 3]) (pc' := 43) (ls' := [some (.inr (.inr (0, 0))), some (.inr (.inr (60, 0))), some (.inl x2), some (.inl x3), some (.inr (.inr (70, 0))), some (.inl x5), o6, o7, o8, o9]) (st' := [.inl x3, .inl (x5 >>> ((3 : Int32) &&& 31)), .inl (1 : Int32), .inl (1 : Int32), .inr (.inr (70, 0))]) (m' := (mset m30 70 0 (ix s2) r30)) (by decide +kernel) rfl ?_
  refine go_callS h.1 (index := 15) (n := 2) (as := [.inl (x5 >>> ((3 : Int32) &&& 31)), .inl x3]) (rest := [.inl (1 : Int32), .inl (1 : Int32), .inr (.inr (70, 0))]) (ctr_L_some (xZ X) (x5 >>> ((3 : Int32) &&& 31)) x3 (mset m30 70 0 (ix s2) r30)) (by decide +kernel) wd_s_L_15 rfl (h.room (by first | decide | omega) (by decide)) h.cl (Nat.le_of_ble_eq_true rfl) puI_ok rfl (fun r43 m43 _ => ?_)
  show Go X (Em X puI) 46 [some (.inr (.inr (0, 0))), some (.inr (.inr (60, 0))), some (.inl x2), some (.inl x3), some (.inr (.inr (70, 0))), some (.inl x5), o6, o7, o8, o9] [.inl r43, .inl (1 : Int32), .inl (1 : Int32), .inr (.inr (70, 0))] m43 _
  refine go_blk h.1 (is := [.iadd]) (pc' := 47) (ls' := [some (.inr (.inr (0, 0))), some (.inr (.inr (60, 0))), some (.inl x2), some (.inl x3), some (.inr (.inr (70, 0))), some (.inl x5), o6, o7, o8, o9]) (st' := [.inl ((1 : Int32) + r43), .inl (1 : Int32), .inr (.inr (70, 0))]) (m' := m43) (by decide +kernel) rfl ?_
  refine go_iast h.1 (by decide +kernel) rfl rfl (fun b47 => ?_)
  refine go_blk h.1 (is := [.aload 4, .iconst 2, .iconst 0]) (pc' := 52) (ls' := [some (.inr (.inr (0, 0))), some (.inr (.inr (60, 0))), some (.inl x2), some (.inl x3), some (.inr (.inr (70, 0))), some (.inl x5), o6, o7, o8, o9]) (st' := [.inl (0 : Int32), .inl (2 : Int32), .inr (.inr (70, 0))]) (m' := (mset m43 70 0 (ix (1 : Int32)) ((1 : Int32) + r43))) (by decide +kernel) rfl ?_
  refine go_iast h.1 (by decide +kernel) rfl rfl (fun b52 => ?_)
  refine go_blk h.1 (is := [.aload_n 0, .iconst 0, .iconst 0, .bipush 60]) (pc' := 58) (ls' := [some (.inr (.inr (0, 0))), some (.inr (.inr (60, 0))), some (.inl x2), some (.inl x3), some (.inr (.inr (70, 0))), some (.inl x5), o6, o7, o8, o9]) (st' := [.inl (60 : Int32), .inl (0 : Int32), .inl (0 : Int32), .inr (.inr (0, 0))]) (m' := (mset (mset m43 70 0 (ix (1 : Int32)) ((1 : Int32) + r43)) 70 0 (ix (2 : Int32)) (0 : Int32))) (by decide +kernel) rfl ?_
  refine go_callV h.1 (index := 19) (n := 3) (t := 0) (i := 0) (ci := 6) (nf := 7) (cz := (RX6, TX6, 7)) (as := [.inl (0 : Int32), .inl (0 : Int32), .inl (60 : Int32)]) (rest := []) (ctr_X6_sheet (xZ X) (0 : Int32) (0 : Int32) (60 : Int32) (mset (mset m43 70 0 (ix (1 : Int32)) ((1 : Int32) + r43)) 70 0 (ix (2 : Int32)) (0 : Int32))) (by decide +kernel) rfl rfl wd_v_L_19 rfl (h.room (by first | decide | omega) (by decide)) h.cl (Nat.le_of_ble_eq_true rfl) puI_ok rfl (fun r58 m58 _ => ?_)
  show Go X (Em X puI) 61 [some (.inr (.inr (0, 0))), some (.inr (.inr (60, 0))), some (.inl x2), some (.inl x3), some (.inr (.inr (70, 0))), some (.inl x5), o6, o7, o8, o9] [.inl r58] m58 _
  refine go_blk h.1 (is := [.iconst 1]) (pc' := 62) (ls' := [some (.inr (.inr (0, 0))), some (.inr (.inr (60, 0))), some (.inl x2), some (.inl x3), some (.inr (.inr (70, 0))), some (.inl x5), o6, o7, o8, o9]) (st' := [.inl (1 : Int32), .inl r58]) (m' := m58) (by decide +kernel) rfl ?_
  refine go_icmpne h.1 (off := 32) 94 (by decide +kernel) (by decide) (fun c62 => ?_) (fun c62 => ?_)
  · refine go_blk h.1 (is := [.bipush (-99)]) (pc' := 96) (ls' := [some (.inr (.inr (0, 0))), some (.inr (.inr (60, 0))), some (.inl x2), some (.inl x3), some (.inr (.inr (70, 0))), some (.inl x5), o6, o7, o8, o9]) (st' := [.inl (-99 : Int32)]) (m' := m58) (by decide +kernel) rfl ?_
    exact go_iret h.1 h.2.2.2.2 (by decide +kernel)
  · refine go_blk h.1 (is := [.aload_n 0, .iconst 0, .iconst 0, .bipush 104]) (pc' := 70) (ls' := [some (.inr (.inr (0, 0))), some (.inr (.inr (60, 0))), some (.inl x2), some (.inl x3), some (.inr (.inr (70, 0))), some (.inl x5), o6, o7, o8, o9]) (st' := [.inl (104 : Int32), .inl (0 : Int32), .inl (0 : Int32), .inr (.inr (0, 0))]) (m' := m58) (by decide +kernel) rfl ?_
    refine go_callV h.1 (index := 25) (n := 3) (t := 0) (i := 0) (ci := 6) (nf := 7) (cz := (RX6, TX6, 7)) (as := [.inl (0 : Int32), .inl (0 : Int32), .inl (104 : Int32)]) (rest := []) (ctr_X6_put (xZ X) (0 : Int32) (0 : Int32) (104 : Int32) m58) (by decide +kernel) rfl rfl wd_v_L_25 rfl (h.room (by first | decide | omega) (by decide)) h.cl (Nat.le_of_ble_eq_true rfl) puI_ok rfl (fun r70 m70 _ => ?_)
    show Go X (Em X puI) 73 [some (.inr (.inr (0, 0))), some (.inr (.inr (60, 0))), some (.inl x2), some (.inl x3), some (.inr (.inr (70, 0))), some (.inl x5), o6, o7, o8, o9] [.inl r70] m70 _
    refine go_blk h.1 (is := [.iconst 1]) (pc' := 74) (ls' := [some (.inr (.inr (0, 0))), some (.inr (.inr (60, 0))), some (.inl x2), some (.inl x3), some (.inr (.inr (70, 0))), some (.inl x5), o6, o7, o8, o9]) (st' := [.inl (1 : Int32), .inl r70]) (m' := m70) (by decide +kernel) rfl ?_
    refine go_icmpne h.1 (off := 20) 94 (by decide +kernel) (by decide) (fun c74 => ?_) (fun c74 => ?_)
    · refine go_blk h.1 (is := [.bipush (-99)]) (pc' := 96) (ls' := [some (.inr (.inr (0, 0))), some (.inr (.inr (60, 0))), some (.inl x2), some (.inl x3), some (.inr (.inr (70, 0))), some (.inl x5), o6, o7, o8, o9]) (st' := [.inl (-99 : Int32)]) (m' := m70) (by decide +kernel) rfl ?_
      exact go_iret h.1 h.2.2.2.2 (by decide +kernel)
    · refine go_blk h.1 (is := [.aload_n 0, .iconst 0, .iconst 1, .bipush 48, .aload 4, .iconst 0]) (pc' := 85) (ls' := [some (.inr (.inr (0, 0))), some (.inr (.inr (60, 0))), some (.inl x2), some (.inl x3), some (.inr (.inr (70, 0))), some (.inl x5), o6, o7, o8, o9]) (st' := [.inl (0 : Int32), .inr (.inr (70, 0)), .inl (48 : Int32), .inl (1 : Int32), .inl (0 : Int32), .inr (.inr (0, 0))]) (m' := m70) (by decide +kernel) rfl ?_
      refine go_iald h.1 (by decide +kernel) rfl rfl (fun b85 => ?_)
      show Go X (Em X puI) 86 [some (.inr (.inr (0, 0))), some (.inr (.inr (60, 0))), some (.inl x2), some (.inl x3), some (.inr (.inr (70, 0))), some (.inl x5), o6, o7, o8, o9] [.inl (m70 70 0 (ix (0 : Int32))), .inl (48 : Int32), .inl (1 : Int32), .inl (0 : Int32), .inr (.inr (0, 0))] m70 _
      refine go_blk h.1 (is := [.iadd]) (pc' := 87) (ls' := [some (.inr (.inr (0, 0))), some (.inr (.inr (60, 0))), some (.inl x2), some (.inl x3), some (.inr (.inr (70, 0))), some (.inl x5), o6, o7, o8, o9]) (st' := [.inl ((48 : Int32) + (m70 70 0 (ix (0 : Int32)))), .inl (1 : Int32), .inl (0 : Int32), .inr (.inr (0, 0))]) (m' := m70) (by decide +kernel) rfl ?_
      refine go_callV h.1 (index := 25) (n := 3) (t := 0) (i := 0) (ci := 6) (nf := 7) (cz := (RX6, TX6, 7)) (as := [.inl (0 : Int32), .inl (1 : Int32), .inl ((48 : Int32) + (m70 70 0 (ix (0 : Int32))))]) (rest := []) (ctr_X6_put (xZ X) (0 : Int32) (1 : Int32) ((48 : Int32) + (m70 70 0 (ix (0 : Int32)))) m70) (by decide +kernel) rfl rfl wd_v_L_25 rfl (h.room (by first | decide | omega) (by decide)) h.cl (Nat.le_of_ble_eq_true rfl) puI_ok rfl (fun r87 m87 _ => ?_)
      show Go X (Em X puI) 90 [some (.inr (.inr (0, 0))), some (.inr (.inr (60, 0))), some (.inl x2), some (.inl x3), some (.inr (.inr (70, 0))), some (.inl x5), o6, o7, o8, o9] [.inl r87] m87 _
      refine go_blk h.1 (is := [.iconst 1]) (pc' := 91) (ls' := [some (.inr (.inr (0, 0))), some (.inr (.inr (60, 0))), some (.inl x2), some (.inl x3), some (.inr (.inr (70, 0))), some (.inl x5), o6, o7, o8, o9]) (st' := [.inl (1 : Int32), .inl r87]) (m' := m87) (by decide +kernel) rfl ?_
      refine go_icmpeq h.1 (off := 6) 97 (by decide +kernel) (by decide) (fun c91 => ?_) (fun c91 => ?_)
      · refine go_blk h.1 (is := [.iconst 2, .istore 6, .iconst 0, .istore 7]) (pc' := 103) (ls' := [some (.inr (.inr (0, 0))), some (.inr (.inr (60, 0))), some (.inl x2), some (.inl x3), some (.inr (.inr (70, 0))), some (.inl x5), some (.inl (2 : Int32)), some (.inl (0 : Int32)), o8, o9]) (st' := []) (m' := m87) (by decide +kernel) rfl ?_
        refine go_lp2 (hd := fun (y6 : Int32) (y7 : Int32) (n : Mem) o => ∀ (o3 : Option AV) (o8 : Option AV) (o9 : Option AV), Go X (Em X puI) 103 [some (.inr (.inr (0, 0))), some (.inr (.inr (60, 0))), some (.inl x2), o3, some (.inr (.inr (70, 0))), some (.inl x5), some (.inl y6), some (.inl y7), o8, o9] [] n o) (fun _ _ _ _ _ _ => go_none) (fun y6 y7 n nx_ hn_ => g_L_put_b103 h x2 x5 nx_ _ hn_ (fun z6_103 z_103 o0_103 o1_103 o2_103 o3_103 o4_103 o5_103 o7_103 o8_103 o9_103 => ?_) (y6, y7, n)) fuelN (2 : Int32) (0 : Int32) m87 (some (.inl x3)) (o8) (o9)
        refine go_blk h.1 (is := [.iload 6]) (pc' := 369) (ls' := [o0_103, o1_103, o2_103, o3_103, o4_103, o5_103, some (.inl z6_103), o7_103, o8_103, o9_103]) (st' := [.inl z6_103]) (m' := z_103) (by decide +kernel) rfl ?_
        exact go_iret h.1 h.2.2.2.2 (by decide +kernel)
      · refine go_blk h.1 (is := [.bipush (-99)]) (pc' := 96) (ls' := [some (.inr (.inr (0, 0))), some (.inr (.inr (60, 0))), some (.inl x2), some (.inl x3), some (.inr (.inr (70, 0))), some (.inl x5), o6, o7, o8, o9]) (st' := [.inl (-99 : Int32)]) (m' := m87) (by decide +kernel) rfl ?_
        exact go_iret h.1 h.2.2.2.2 (by decide +kernel)

def f_L_put (L : Nat) (xsc : Nat → Int32) (x2 : Int32) (x3 : Int32) (m : Mem) : Option (Int32 × Mem) :=
  bnd (f_L_cell L xsc x2 m) (fun r2 m2 =>
    bnd (f_L_some L xsc (r2 >>> ((7 : Int32) &&& 31)) (2 : Int32) m2) (fun r18 m18 =>
      if r18 = 0 then
        f_L_put_j30 L xsc (10 : Int32) r2 (0 : Int32) x2 x3 r2 m18
      else
        f_L_put_j30 L xsc (3 : Int32) r2 (0 : Int32) x2 x3 r2 m18))
theorem g_L_put {X : XT} (h : MX X method_4_code P_L 3 (some .int)) (x2 : Int32) (x3 : Int32) (m : Mem) : Go X (Em X puI) 0 [some (.inr (.inr (0, 0))), some (.inr (.inr (60, 0))), some (.inl x2), some (.inl x3), some (.inr (.inr (70, 0))), none, none, none, none, none] [] m (f_L_put (xL X) (xx X) x2 x3 m) := by
  unfold f_L_put
  refine go_blk h.1 (is := [.aload_n 1, .iload_n 2]) (pc' := 2) (ls' := [some (.inr (.inr (0, 0))), some (.inr (.inr (60, 0))), some (.inl x2), some (.inl x3), some (.inr (.inr (70, 0))), none, none, none, none, none]) (st' := [.inl x2, .inr (.inr (60, 0))]) (m' := m) (by decide +kernel) rfl ?_
  refine go_callS h.1 (index := 9) (n := 2) (as := [.inr (.inr (60, 0)), .inl x2]) (rest := []) (ctr_L_cell (xZ X) x2 m) (by decide +kernel) wd_s_L_9 rfl (h.room (by first | decide | omega) (by decide)) h.cl (Nat.le_of_ble_eq_true rfl) puI_ok rfl (fun r2 m2 _ => ?_)
  show Go X (Em X puI) 5 [some (.inr (.inr (0, 0))), some (.inr (.inr (60, 0))), some (.inl x2), some (.inl x3), some (.inr (.inr (70, 0))), none, none, none, none, none] [.inl r2] m2 _
  refine go_blk h.1 (is := [.istore 5, .aload 4, .iconst 0, .iload 5, .iload 5, .bipush 7, .ishr, .iconst 2]) (pc' := 18) (ls' := [some (.inr (.inr (0, 0))), some (.inr (.inr (60, 0))), some (.inl x2), some (.inl x3), some (.inr (.inr (70, 0))), some (.inl r2), none, none, none, none]) (st' := [.inl (2 : Int32), .inl (r2 >>> ((7 : Int32) &&& 31)), .inl r2, .inl (0 : Int32), .inr (.inr (70, 0))]) (m' := m2) (by decide +kernel) rfl ?_
  refine go_callS h.1 (index := 15) (n := 2) (as := [.inl (r2 >>> ((7 : Int32) &&& 31)), .inl (2 : Int32)]) (rest := [.inl r2, .inl (0 : Int32), .inr (.inr (70, 0))]) (ctr_L_some (xZ X) (r2 >>> ((7 : Int32) &&& 31)) (2 : Int32) m2) (by decide +kernel) wd_s_L_15 rfl (h.room (by first | decide | omega) (by decide)) h.cl (Nat.le_of_ble_eq_true rfl) puI_ok rfl (fun r18 m18 _ => ?_)
  show Go X (Em X puI) 21 [some (.inr (.inr (0, 0))), some (.inr (.inr (60, 0))), some (.inl x2), some (.inl x3), some (.inr (.inr (70, 0))), some (.inl r2), none, none, none, none] [.inl r18, .inl r2, .inl (0 : Int32), .inr (.inr (70, 0))] m18 _
  refine go_ifne h.1 (off := 8) 29 (by decide +kernel) (by decide) (fun c21 => ?_) (fun c21 => ?_)
  · refine go_blk h.1 (is := [.iconst 3]) (pc' := 30) (ls' := [some (.inr (.inr (0, 0))), some (.inr (.inr (60, 0))), some (.inl x2), some (.inl x3), some (.inr (.inr (70, 0))), some (.inl r2), none, none, none, none]) (st' := [.inl (3 : Int32), .inl r2, .inl (0 : Int32), .inr (.inr (70, 0))]) (m' := m18) (by decide +kernel) rfl ?_
    exact g_L_put_j30 h (3 : Int32) r2 (0 : Int32) x2 x3 r2 m18 (none) (none) (none) (none)
  · refine go_blk h.1 (is := [.bipush 10]) (pc' := 26) (ls' := [some (.inr (.inr (0, 0))), some (.inr (.inr (60, 0))), some (.inl x2), some (.inl x3), some (.inr (.inr (70, 0))), some (.inl r2), none, none, none, none]) (st' := [.inl (10 : Int32), .inl r2, .inl (0 : Int32), .inr (.inr (70, 0))]) (m' := m18) (by decide +kernel) rfl ?_
    refine go_goto h.1 (off := 4) 30 (by decide +kernel) (by decide) ?_
    exact g_L_put_j30 h (10 : Int32) r2 (0 : Int32) x2 x3 r2 m18 (none) (none) (none) (none)
theorem ctr_L_put (Z : ZT) (x2 : Int32) (x3 : Int32) (m : Mem) : Ctr Z yL_put method_4_code 10 (some .int) 3 puI [.inr (.inr (0, 0)), .inr (.inr (60, 0)), .inl x2, .inl x3, .inr (.inr (70, 0))] m (f_L_put (zL Z) (zx Z) x2 x3 m) :=
  ctr_of (P := P_L) (by decide +kernel) rfl pt_L rfl rfl (fun X hC hZ hR h0 h1 hr => by subst hZ; exact g_L_put ⟨hC, hR, h0, h1, hr⟩ x2 x3 m)

def f_L_begin_j26 (L : Nat) (xsc : Nat → Int32) (next : Int32 × Mem → Option (Unit × Mem)) (exit : Mem → Option (Unit × Mem)) (s0 : Int32) (s1 : Int32) (x3 : Int32) (m : Mem) : Option (Unit × Mem) :=
  if inB s1 9 = true then
    next ((x3 + (1 : Int32)), (mset m 72 0 (ix s1) s0))
  else none
theorem g_L_begin_j26 {X : XT} (h : MX X method_7_code P_L 0 none) (next : Int32 × Mem → Option (Unit × Mem)) (exit : Mem → Option (Unit × Mem)) (s0 : Int32) (s1 : Int32) (x3 : Int32) (m : Mem) (hn : ∀ (y3 : Int32) (n : Mem), Go X (Em X puV) 2 [some (.inr (.inr (70, 0))), some (.inr (.inr (72, 0))), some (.inr (.inr (73, 0))), some (.inl y3)] [] n (next (y3, n))) (hx : ∀ (n : Mem) (o3 : Option AV), Go X (Em X puV) 33 [some (.inr (.inr (70, 0))), some (.inr (.inr (72, 0))), some (.inr (.inr (73, 0))), o3] [] n (exit (n))) : Go X (Em X puV) 26 [some (.inr (.inr (70, 0))), some (.inr (.inr (72, 0))), some (.inr (.inr (73, 0))), some (.inl x3)] [.inl s0, .inl s1, .inr (.inr (72, 0))] m (f_L_begin_j26 (xL X) (xx X) next exit s0 s1 x3 m) := by
  unfold f_L_begin_j26
  refine go_iast h.1 (by decide +kernel) rfl rfl (fun b26 => ?_)
  refine go_blk h.1 (is := [.iinc 3 1]) (pc' := 30) (ls' := [some (.inr (.inr (70, 0))), some (.inr (.inr (72, 0))), some (.inr (.inr (73, 0))), some (.inl (x3 + (1 : Int32)))]) (st' := []) (m' := (mset m 72 0 (ix s1) s0)) (by decide +kernel) rfl ?_
  refine go_goto h.1 (off := -28) 2 (by decide +kernel) (by decide) ?_
  exact hn (x3 + (1 : Int32)) (mset m 72 0 (ix s1) s0)

def f_L_begin_b2 (L : Nat) (xsc : Nat → Int32) (next : Int32 × Mem → Option (Unit × Mem)) (exit : Mem → Option (Unit × Mem)) (s : Int32 × Mem) : Option (Unit × Mem) :=
  if (5 : Int32) ≤ s.1 then
    exit (s.2)
  else
    if inB (1 : Int32) 28 = true then
      if (s.2 70 0 (ix (1 : Int32))) ≤ s.1 then
        f_L_begin_j26 L xsc next exit (0 : Int32) s.1 s.1 s.2
      else
        if inB ((13 : Int32) + s.1) 28 = true then
          f_L_begin_j26 L xsc next exit (s.2 70 0 (ix ((13 : Int32) + s.1))) s.1 s.1 s.2
        else none
    else none
theorem g_L_begin_b2 {X : XT} (h : MX X method_7_code P_L 0 none) (next : Int32 × Mem → Option (Unit × Mem)) (exit : Mem → Option (Unit × Mem)) (hn : ∀ (y3 : Int32) (n : Mem), Go X (Em X puV) 2 [some (.inr (.inr (70, 0))), some (.inr (.inr (72, 0))), some (.inr (.inr (73, 0))), some (.inl y3)] [] n (next (y3, n))) (hx : ∀ (n : Mem) (o3 : Option AV), Go X (Em X puV) 33 [some (.inr (.inr (70, 0))), some (.inr (.inr (72, 0))), some (.inr (.inr (73, 0))), o3] [] n (exit (n))) (s : Int32 × Mem) : Go X (Em X puV) 2 [some (.inr (.inr (70, 0))), some (.inr (.inr (72, 0))), some (.inr (.inr (73, 0))), some (.inl s.1)] [] s.2 (f_L_begin_b2 (xL X) (xx X) next exit s) := by
  unfold f_L_begin_b2
  refine go_blk h.1 (is := [.iload_n 3, .iconst 5]) (pc' := 4) (ls' := [some (.inr (.inr (70, 0))), some (.inr (.inr (72, 0))), some (.inr (.inr (73, 0))), some (.inl s.1)]) (st' := [.inl (5 : Int32), .inl s.1]) (m' := s.2) (by decide +kernel) rfl ?_
  refine go_icmpge h.1 (off := 29) 33 (by decide +kernel) (by decide) (fun c4 => ?_) (fun c4 => ?_)
  · exact hx s.2 (some (.inl s.1))
  · refine go_blk h.1 (is := [.aload_n 1, .iload_n 3, .iload_n 3, .aload_n 0, .iconst 1]) (pc' := 12) (ls' := [some (.inr (.inr (70, 0))), some (.inr (.inr (72, 0))), some (.inr (.inr (73, 0))), some (.inl s.1)]) (st' := [.inl (1 : Int32), .inr (.inr (70, 0)), .inl s.1, .inl s.1, .inr (.inr (72, 0))]) (m' := s.2) (by decide +kernel) rfl ?_
    refine go_iald h.1 (by decide +kernel) rfl rfl (fun b12 => ?_)
    show Go X (Em X puV) 13 [some (.inr (.inr (70, 0))), some (.inr (.inr (72, 0))), some (.inr (.inr (73, 0))), some (.inl s.1)] [.inl (s.2 70 0 (ix (1 : Int32))), .inl s.1, .inl s.1, .inr (.inr (72, 0))] s.2 _
    refine go_icmpge h.1 (off := 12) 25 (by decide +kernel) (by decide) (fun c13 => ?_) (fun c13 => ?_)
    · refine go_blk h.1 (is := [.iconst 0]) (pc' := 26) (ls' := [some (.inr (.inr (70, 0))), some (.inr (.inr (72, 0))), some (.inr (.inr (73, 0))), some (.inl s.1)]) (st' := [.inl (0 : Int32), .inl s.1, .inr (.inr (72, 0))]) (m' := s.2) (by decide +kernel) rfl ?_
      exact g_L_begin_j26 h next exit (0 : Int32) s.1 s.1 s.2 hn hx
    · refine go_blk h.1 (is := [.aload_n 0, .bipush 13, .iload_n 3, .iadd]) (pc' := 21) (ls' := [some (.inr (.inr (70, 0))), some (.inr (.inr (72, 0))), some (.inr (.inr (73, 0))), some (.inl s.1)]) (st' := [.inl ((13 : Int32) + s.1), .inr (.inr (70, 0)), .inl s.1, .inr (.inr (72, 0))]) (m' := s.2) (by decide +kernel) rfl ?_
      refine go_iald h.1 (by decide +kernel) rfl rfl (fun b21 => ?_)
      show Go X (Em X puV) 22 [some (.inr (.inr (70, 0))), some (.inr (.inr (72, 0))), some (.inr (.inr (73, 0))), some (.inl s.1)] [.inl (s.2 70 0 (ix ((13 : Int32) + s.1))), .inl s.1, .inr (.inr (72, 0))] s.2 _
      refine go_goto h.1 (off := 4) 26 (by decide +kernel) (by decide) ?_
      exact g_L_begin_j26 h next exit (s.2 70 0 (ix ((13 : Int32) + s.1))) s.1 s.1 s.2 hn hx

def f_L_begin_b56 (L : Nat) (xsc : Nat → Int32) (next : Int32 × Mem → Option (Unit × Mem)) (exit : Mem → Option (Unit × Mem)) (s : Int32 × Mem) : Option (Unit × Mem) :=
  if (25 : Int32) ≤ s.1 then
    exit (s.2)
  else
    if inB s.1 25 = true then
      next ((s.1 + (1 : Int32)), (mset s.2 73 0 (ix s.1) (0 : Int32)))
    else none
theorem g_L_begin_b56 {X : XT} (h : MX X method_7_code P_L 0 none) (next : Int32 × Mem → Option (Unit × Mem)) (exit : Mem → Option (Unit × Mem)) (hn : ∀ (y3 : Int32) (n : Mem) (o0 : Option AV) (o1 : Option AV), Go X (Em X puV) 56 [o0, o1, some (.inr (.inr (73, 0))), some (.inl y3)] [] n (next (y3, n))) (hx : ∀ (n : Mem) (o0 : Option AV) (o1 : Option AV) (o2 : Option AV) (o3 : Option AV), Go X (Em X puV) 72 [o0, o1, o2, o3] [] n (exit (n))) (s : Int32 × Mem) (o0 : Option AV) (o1 : Option AV) : Go X (Em X puV) 56 [o0, o1, some (.inr (.inr (73, 0))), some (.inl s.1)] [] s.2 (f_L_begin_b56 (xL X) (xx X) next exit s) := by
  unfold f_L_begin_b56
  refine go_blk h.1 (is := [.iload_n 3, .bipush 25]) (pc' := 59) (ls' := [o0, o1, some (.inr (.inr (73, 0))), some (.inl s.1)]) (st' := [.inl (25 : Int32), .inl s.1]) (m' := s.2) (by decide +kernel) rfl ?_
  refine go_icmpge h.1 (off := 13) 72 (by decide +kernel) (by decide) (fun c59 => ?_) (fun c59 => ?_)
  · exact hx s.2 (o0) (o1) (some (.inr (.inr (73, 0)))) (some (.inl s.1))
  · refine go_blk h.1 (is := [.aload_n 2, .iload_n 3, .iconst 0]) (pc' := 65) (ls' := [o0, o1, some (.inr (.inr (73, 0))), some (.inl s.1)]) (st' := [.inl (0 : Int32), .inl s.1, .inr (.inr (73, 0))]) (m' := s.2) (by decide +kernel) rfl ?_
    refine go_iast h.1 (by decide +kernel) rfl rfl (fun b65 => ?_)
    refine go_blk h.1 (is := [.iinc 3 1]) (pc' := 69) (ls' := [o0, o1, some (.inr (.inr (73, 0))), some (.inl (s.1 + (1 : Int32)))]) (st' := []) (m' := (mset s.2 73 0 (ix s.1) (0 : Int32))) (by decide +kernel) rfl ?_
    refine go_goto h.1 (off := -13) 56 (by decide +kernel) (by decide) ?_
    exact hn (s.1 + (1 : Int32)) (mset s.2 73 0 (ix s.1) (0 : Int32)) (o0) (o1)

def f_L_begin (L : Nat) (xsc : Nat → Int32) (m : Mem) : Option (Unit × Mem) :=
  lpk (f_L_begin_b2 L xsc) fuelN ((0 : Int32), m) (fun t2 =>
    if inB (5 : Int32) 9 = true then
      if inB (6 : Int32) 9 = true then
        if inB (2 : Int32) 28 = true then
          if inB (7 : Int32) 9 = true then
            if inB (8 : Int32) 9 = true then
              lpk (f_L_begin_b56 L xsc) fuelN ((0 : Int32), (mset (mset (mset (mset t2 72 0 (ix (5 : Int32)) (0 : Int32)) 72 0 (ix (6 : Int32)) (0 : Int32)) 72 0 (ix (7 : Int32)) (t2 70 0 (ix (2 : Int32)))) 72 0 (ix (8 : Int32)) (0 : Int32))) (fun t56 =>
                some ((), t56))
            else none
          else none
        else none
      else none
    else none)
theorem g_L_begin {X : XT} (h : MX X method_7_code P_L 0 none) (m : Mem) : Go X (Em X puV) 0 [some (.inr (.inr (70, 0))), some (.inr (.inr (72, 0))), some (.inr (.inr (73, 0))), none] [] m (f_L_begin (xL X) (xx X) m) := by
  unfold f_L_begin
  refine go_blk h.1 (is := [.iconst 0, .istore_n 3]) (pc' := 2) (ls' := [some (.inr (.inr (70, 0))), some (.inr (.inr (72, 0))), some (.inr (.inr (73, 0))), some (.inl (0 : Int32))]) (st' := []) (m' := m) (by decide +kernel) rfl ?_
  refine go_lp1 (hd := fun (y3 : Int32) (n : Mem) o => Go X (Em X puV) 2 [some (.inr (.inr (70, 0))), some (.inr (.inr (72, 0))), some (.inr (.inr (73, 0))), some (.inl y3)] [] n o) (fun _ _ => go_none) (fun y3 n nx_ hn_ => g_L_begin_b2 h nx_ _ hn_ (fun z_2 o3_2 => ?_) (y3, n)) fuelN (0 : Int32) m
  refine go_blk h.1 (is := [.aload_n 1, .iconst 5, .iconst 0]) (pc' := 36) (ls' := [some (.inr (.inr (70, 0))), some (.inr (.inr (72, 0))), some (.inr (.inr (73, 0))), o3_2]) (st' := [.inl (0 : Int32), .inl (5 : Int32), .inr (.inr (72, 0))]) (m' := z_2) (by decide +kernel) rfl ?_
  refine go_iast h.1 (by decide +kernel) rfl rfl (fun b36 => ?_)
  refine go_blk h.1 (is := [.aload_n 1, .bipush 6, .iconst 0]) (pc' := 41) (ls' := [some (.inr (.inr (70, 0))), some (.inr (.inr (72, 0))), some (.inr (.inr (73, 0))), o3_2]) (st' := [.inl (0 : Int32), .inl (6 : Int32), .inr (.inr (72, 0))]) (m' := (mset z_2 72 0 (ix (5 : Int32)) (0 : Int32))) (by decide +kernel) rfl ?_
  refine go_iast h.1 (by decide +kernel) rfl rfl (fun b41 => ?_)
  refine go_blk h.1 (is := [.aload_n 1, .bipush 7, .aload_n 0, .iconst 2]) (pc' := 47) (ls' := [some (.inr (.inr (70, 0))), some (.inr (.inr (72, 0))), some (.inr (.inr (73, 0))), o3_2]) (st' := [.inl (2 : Int32), .inr (.inr (70, 0)), .inl (7 : Int32), .inr (.inr (72, 0))]) (m' := (mset (mset z_2 72 0 (ix (5 : Int32)) (0 : Int32)) 72 0 (ix (6 : Int32)) (0 : Int32))) (by decide +kernel) rfl ?_
  refine go_iald h.1 (by decide +kernel) rfl rfl (fun b47 => ?_)
  show Go X (Em X puV) 48 [some (.inr (.inr (70, 0))), some (.inr (.inr (72, 0))), some (.inr (.inr (73, 0))), o3_2] [.inl (z_2 70 0 (ix (2 : Int32))), .inl (7 : Int32), .inr (.inr (72, 0))] (mset (mset z_2 72 0 (ix (5 : Int32)) (0 : Int32)) 72 0 (ix (6 : Int32)) (0 : Int32)) _
  refine go_iast h.1 (by decide +kernel) rfl rfl (fun b48 => ?_)
  refine go_blk h.1 (is := [.aload_n 1, .bipush 8, .iconst 0]) (pc' := 53) (ls' := [some (.inr (.inr (70, 0))), some (.inr (.inr (72, 0))), some (.inr (.inr (73, 0))), o3_2]) (st' := [.inl (0 : Int32), .inl (8 : Int32), .inr (.inr (72, 0))]) (m' := (mset (mset (mset z_2 72 0 (ix (5 : Int32)) (0 : Int32)) 72 0 (ix (6 : Int32)) (0 : Int32)) 72 0 (ix (7 : Int32)) (z_2 70 0 (ix (2 : Int32))))) (by decide +kernel) rfl ?_
  refine go_iast h.1 (by decide +kernel) rfl rfl (fun b53 => ?_)
  refine go_blk h.1 (is := [.iconst 0, .istore_n 3]) (pc' := 56) (ls' := [some (.inr (.inr (70, 0))), some (.inr (.inr (72, 0))), some (.inr (.inr (73, 0))), some (.inl (0 : Int32))]) (st' := []) (m' := (mset (mset (mset (mset z_2 72 0 (ix (5 : Int32)) (0 : Int32)) 72 0 (ix (6 : Int32)) (0 : Int32)) 72 0 (ix (7 : Int32)) (z_2 70 0 (ix (2 : Int32)))) 72 0 (ix (8 : Int32)) (0 : Int32))) (by decide +kernel) rfl ?_
  refine go_lp1 (hd := fun (y3 : Int32) (n : Mem) o => ∀ (o0 : Option AV) (o1 : Option AV), Go X (Em X puV) 56 [o0, o1, some (.inr (.inr (73, 0))), some (.inl y3)] [] n o) (fun _ _ _ _ => go_none) (fun y3 n nx_ hn_ => g_L_begin_b56 h nx_ _ hn_ (fun z_56 o0_56 o1_56 o2_56 o3_56 => ?_) (y3, n)) fuelN (0 : Int32) (mset (mset (mset (mset z_2 72 0 (ix (5 : Int32)) (0 : Int32)) 72 0 (ix (6 : Int32)) (0 : Int32)) 72 0 (ix (7 : Int32)) (z_2 70 0 (ix (2 : Int32)))) 72 0 (ix (8 : Int32)) (0 : Int32)) (some (.inr (.inr (70, 0)))) (some (.inr (.inr (72, 0))))
  exact go_vret h.1 h.2.2.2.2 (by decide +kernel)
theorem ctr_L_begin (Z : ZT) (m : Mem) : Ctr Z yL_begin method_7_code 4 none 0 puV [.inr (.inr (70, 0)), .inr (.inr (72, 0)), .inr (.inr (73, 0))] m (f_L_begin (zL Z) (zx Z) m) :=
  ctr_of (P := P_L) (by decide +kernel) rfl pt_L rfl rfl (fun X hC hZ hR h0 h1 hr => by subst hZ; exact g_L_begin ⟨hC, hR, h0, h1, hr⟩ m)

def f_L_share (L : Nat) (xsc : Nat → Int32) (x1 : Int32) (m : Mem) : Option (Int32 × Mem) :=
  if inB ((3 : Int32) + x1) 28 = true then
    if (m 70 0 (ix ((3 : Int32) + x1))) = 0 then
      if inB ((8 : Int32) + x1) 28 = true then
        some ((m 70 0 (ix ((8 : Int32) + x1))), m)
      else none
    else
      if inB ((3 : Int32) + x1) 28 = true then
        if (m 70 0 (ix ((3 : Int32) + x1))) = (1 : Int32) then
          if inB ((8 : Int32) + x1) 28 = true then
            some (((m 70 0 (ix ((8 : Int32) + x1))) - (1 : Int32)), m)
          else none
        else
          if inB ((8 : Int32) + x1) 28 = true then
            if ¬ (2 : Int32) = 0 then dv (((m 70 0 (ix ((8 : Int32) + x1))) - (1 : Int32)) / (2 : Int32)) (fun q44 =>
              some (q44, m))
            else none
          else none
      else none
  else none
theorem g_L_share {X : XT} (h : MX X method_6_code P_L 0 (some .int)) (x1 : Int32) (m : Mem) : Go X (Em X puI) 0 [some (.inr (.inr (70, 0))), some (.inl x1)] [] m (f_L_share (xL X) (xx X) x1 m) := by
  unfold f_L_share
  refine go_blk h.1 (is := [.aload_n 0, .iconst 3, .iload_n 1, .iadd]) (pc' := 4) (ls' := [some (.inr (.inr (70, 0))), some (.inl x1)]) (st' := [.inl ((3 : Int32) + x1), .inr (.inr (70, 0))]) (m' := m) (by decide +kernel) rfl ?_
  refine go_iald h.1 (by decide +kernel) rfl rfl (fun b4 => ?_)
  show Go X (Em X puI) 5 [some (.inr (.inr (70, 0))), some (.inl x1)] [.inl (m 70 0 (ix ((3 : Int32) + x1)))] m _
  refine go_ifne h.1 (off := 10) 15 (by decide +kernel) (by decide) (fun c5 => ?_) (fun c5 => ?_)
  · refine go_blk h.1 (is := [.aload_n 0, .iconst 3, .iload_n 1, .iadd]) (pc' := 19) (ls' := [some (.inr (.inr (70, 0))), some (.inl x1)]) (st' := [.inl ((3 : Int32) + x1), .inr (.inr (70, 0))]) (m' := m) (by decide +kernel) rfl ?_
    refine go_iald h.1 (by decide +kernel) rfl rfl (fun b19 => ?_)
    show Go X (Em X puI) 20 [some (.inr (.inr (70, 0))), some (.inl x1)] [.inl (m 70 0 (ix ((3 : Int32) + x1)))] m _
    refine go_blk h.1 (is := [.iconst 1]) (pc' := 21) (ls' := [some (.inr (.inr (70, 0))), some (.inl x1)]) (st' := [.inl (1 : Int32), .inl (m 70 0 (ix ((3 : Int32) + x1)))]) (m' := m) (by decide +kernel) rfl ?_
    refine go_icmpne h.1 (off := 14) 35 (by decide +kernel) (by decide) (fun c21 => ?_) (fun c21 => ?_)
    · refine go_blk h.1 (is := [.aload_n 0, .bipush 8, .iload_n 1, .iadd]) (pc' := 40) (ls' := [some (.inr (.inr (70, 0))), some (.inl x1)]) (st' := [.inl ((8 : Int32) + x1), .inr (.inr (70, 0))]) (m' := m) (by decide +kernel) rfl ?_
      refine go_iald h.1 (by decide +kernel) rfl rfl (fun b40 => ?_)
      show Go X (Em X puI) 41 [some (.inr (.inr (70, 0))), some (.inl x1)] [.inl (m 70 0 (ix ((8 : Int32) + x1)))] m _
      refine go_blk h.1 (is := [.iconst 1, .isub, .iconst 2]) (pc' := 44) (ls' := [some (.inr (.inr (70, 0))), some (.inl x1)]) (st' := [.inl (2 : Int32), .inl ((m 70 0 (ix ((8 : Int32) + x1))) - (1 : Int32))]) (m' := m) (by decide +kernel) rfl ?_
      refine go_idiv h.1 (by decide +kernel) (fun z44 q44 _ => ?_)
      exact go_iret h.1 h.2.2.2.2 (by decide +kernel)
    · refine go_blk h.1 (is := [.aload_n 0, .bipush 8, .iload_n 1, .iadd]) (pc' := 29) (ls' := [some (.inr (.inr (70, 0))), some (.inl x1)]) (st' := [.inl ((8 : Int32) + x1), .inr (.inr (70, 0))]) (m' := m) (by decide +kernel) rfl ?_
      refine go_iald h.1 (by decide +kernel) rfl rfl (fun b29 => ?_)
      show Go X (Em X puI) 30 [some (.inr (.inr (70, 0))), some (.inl x1)] [.inl (m 70 0 (ix ((8 : Int32) + x1)))] m _
      refine go_blk h.1 (is := [.iconst 1, .isub]) (pc' := 32) (ls' := [some (.inr (.inr (70, 0))), some (.inl x1)]) (st' := [.inl ((m 70 0 (ix ((8 : Int32) + x1))) - (1 : Int32))]) (m' := m) (by decide +kernel) rfl ?_
      refine go_goto h.1 (off := 13) 45 (by decide +kernel) (by decide) ?_
      exact go_iret h.1 h.2.2.2.2 (by decide +kernel)
  · refine go_blk h.1 (is := [.aload_n 0, .bipush 8, .iload_n 1, .iadd]) (pc' := 13) (ls' := [some (.inr (.inr (70, 0))), some (.inl x1)]) (st' := [.inl ((8 : Int32) + x1), .inr (.inr (70, 0))]) (m' := m) (by decide +kernel) rfl ?_
    refine go_iald h.1 (by decide +kernel) rfl rfl (fun b13 => ?_)
    show Go X (Em X puI) 14 [some (.inr (.inr (70, 0))), some (.inl x1)] [.inl (m 70 0 (ix ((8 : Int32) + x1)))] m _
    exact go_iret h.1 h.2.2.2.2 (by decide +kernel)
theorem ctr_L_share (Z : ZT) (x1 : Int32) (m : Mem) : Ctr Z yL_share method_6_code 2 (some .int) 0 puI [.inr (.inr (70, 0)), .inl x1] m (f_L_share (zL Z) (zx Z) x1 m) :=
  ctr_of (P := P_L) (by decide +kernel) rfl pt_L rfl rfl (fun X hC hZ hR h0 h1 hr => by subst hZ; exact g_L_share ⟨hC, hR, h0, h1, hr⟩ x1 m)

def f_L_toll_j22 (L : Nat) (xsc : Nat → Int32) (x1 : Int32) (x3 : Int32) (m : Mem) : Option (Int32 × Mem) :=
  if inB (6 : Int32) 9 = true then
    if (((m 72 0 (ix (6 : Int32))) >>> (x1 &&& 31)) &&& (1 : Int32)) = (1 : Int32) then
      some ((x3 + x3), m)
    else
      some (x3, m)
  else none
theorem g_L_toll_j22 {X : XT} (h : MX X method_8_code P_L 1 (some .int)) (x1 : Int32) (x3 : Int32) (m : Mem) (o0 : Option AV) : Go X (Em X puI) 22 [o0, some (.inl x1), some (.inr (.inr (72, 0))), some (.inl x3)] [] m (f_L_toll_j22 (xL X) (xx X) x1 x3 m) := by
  unfold f_L_toll_j22
  refine go_blk h.1 (is := [.aload_n 2, .bipush 6]) (pc' := 25) (ls' := [o0, some (.inl x1), some (.inr (.inr (72, 0))), some (.inl x3)]) (st' := [.inl (6 : Int32), .inr (.inr (72, 0))]) (m' := m) (by decide +kernel) rfl ?_
  refine go_iald h.1 (by decide +kernel) rfl rfl (fun b25 => ?_)
  show Go X (Em X puI) 26 [o0, some (.inl x1), some (.inr (.inr (72, 0))), some (.inl x3)] [.inl (m 72 0 (ix (6 : Int32)))] m _
  refine go_blk h.1 (is := [.iload_n 1, .ishr, .iconst 1, .iand, .iconst 1]) (pc' := 31) (ls' := [o0, some (.inl x1), some (.inr (.inr (72, 0))), some (.inl x3)]) (st' := [.inl (1 : Int32), .inl (((m 72 0 (ix (6 : Int32))) >>> (x1 &&& 31)) &&& (1 : Int32))]) (m' := m) (by decide +kernel) rfl ?_
  refine go_icmpne h.1 (off := 9) 40 (by decide +kernel) (by decide) (fun c31 => ?_) (fun c31 => ?_)
  · refine go_blk h.1 (is := [.iload_n 3]) (pc' := 41) (ls' := [o0, some (.inl x1), some (.inr (.inr (72, 0))), some (.inl x3)]) (st' := [.inl x3]) (m' := m) (by decide +kernel) rfl ?_
    exact go_iret h.1 h.2.2.2.2 (by decide +kernel)
  · refine go_blk h.1 (is := [.iload_n 3, .iload_n 3, .iadd]) (pc' := 37) (ls' := [o0, some (.inl x1), some (.inr (.inr (72, 0))), some (.inl x3)]) (st' := [.inl (x3 + x3)]) (m' := m) (by decide +kernel) rfl ?_
    refine go_goto h.1 (off := 4) 41 (by decide +kernel) (by decide) ?_
    exact go_iret h.1 h.2.2.2.2 (by decide +kernel)

def f_L_toll (L : Nat) (xsc : Nat → Int32) (x1 : Int32) (m : Mem) : Option (Int32 × Mem) :=
  bnd (f_L_share L xsc x1 m) (fun r2 m2 =>
    if inB (5 : Int32) 9 = true then
      if (((m2 72 0 (ix (5 : Int32))) >>> (x1 &&& 31)) &&& (1 : Int32)) = 0 then
        if inB (0 : Int32) 28 = true then
          f_L_toll_j22 L xsc x1 (r2 + (m2 70 0 (ix (0 : Int32)))) m2
        else none
      else
        f_L_toll_j22 L xsc x1 r2 m2
    else none)
theorem g_L_toll {X : XT} (h : MX X method_8_code P_L 1 (some .int)) (x1 : Int32) (m : Mem) : Go X (Em X puI) 0 [some (.inr (.inr (70, 0))), some (.inl x1), some (.inr (.inr (72, 0))), none] [] m (f_L_toll (xL X) (xx X) x1 m) := by
  unfold f_L_toll
  refine go_blk h.1 (is := [.aload_n 0, .iload_n 1]) (pc' := 2) (ls' := [some (.inr (.inr (70, 0))), some (.inl x1), some (.inr (.inr (72, 0))), none]) (st' := [.inl x1, .inr (.inr (70, 0))]) (m' := m) (by decide +kernel) rfl ?_
  refine go_callS h.1 (index := 38) (n := 2) (as := [.inr (.inr (70, 0)), .inl x1]) (rest := []) (ctr_L_share (xZ X) x1 m) (by decide +kernel) wd_s_L_38 rfl (h.room (by first | decide | omega) (by decide)) h.cl (Nat.le_of_ble_eq_true rfl) puI_ok rfl (fun r2 m2 _ => ?_)
  show Go X (Em X puI) 5 [some (.inr (.inr (70, 0))), some (.inl x1), some (.inr (.inr (72, 0))), none] [.inl r2] m2 _
  refine go_blk h.1 (is := [.istore_n 3, .aload_n 2, .iconst 5]) (pc' := 8) (ls' := [some (.inr (.inr (70, 0))), some (.inl x1), some (.inr (.inr (72, 0))), some (.inl r2)]) (st' := [.inl (5 : Int32), .inr (.inr (72, 0))]) (m' := m2) (by decide +kernel) rfl ?_
  refine go_iald h.1 (by decide +kernel) rfl rfl (fun b8 => ?_)
  show Go X (Em X puI) 9 [some (.inr (.inr (70, 0))), some (.inl x1), some (.inr (.inr (72, 0))), some (.inl r2)] [.inl (m2 72 0 (ix (5 : Int32)))] m2 _
  refine go_blk h.1 (is := [.iload_n 1, .ishr, .iconst 1, .iand]) (pc' := 13) (ls' := [some (.inr (.inr (70, 0))), some (.inl x1), some (.inr (.inr (72, 0))), some (.inl r2)]) (st' := [.inl (((m2 72 0 (ix (5 : Int32))) >>> (x1 &&& 31)) &&& (1 : Int32))]) (m' := m2) (by decide +kernel) rfl ?_
  refine go_ifne h.1 (off := 9) 22 (by decide +kernel) (by decide) (fun c13 => ?_) (fun c13 => ?_)
  · exact g_L_toll_j22 h x1 r2 m2 (some (.inr (.inr (70, 0))))
  · refine go_blk h.1 (is := [.iload_n 3, .aload_n 0, .iconst 0]) (pc' := 19) (ls' := [some (.inr (.inr (70, 0))), some (.inl x1), some (.inr (.inr (72, 0))), some (.inl r2)]) (st' := [.inl (0 : Int32), .inr (.inr (70, 0)), .inl r2]) (m' := m2) (by decide +kernel) rfl ?_
    refine go_iald h.1 (by decide +kernel) rfl rfl (fun b19 => ?_)
    show Go X (Em X puI) 20 [some (.inr (.inr (70, 0))), some (.inl x1), some (.inr (.inr (72, 0))), some (.inl r2)] [.inl (m2 70 0 (ix (0 : Int32))), .inl r2] m2 _
    refine go_blk h.1 (is := [.iadd, .istore_n 3]) (pc' := 22) (ls' := [some (.inr (.inr (70, 0))), some (.inl x1), some (.inr (.inr (72, 0))), some (.inl (r2 + (m2 70 0 (ix (0 : Int32)))))]) (st' := []) (m' := m2) (by decide +kernel) rfl ?_
    exact g_L_toll_j22 h x1 (r2 + (m2 70 0 (ix (0 : Int32)))) m2 (some (.inr (.inr (70, 0))))
theorem ctr_L_toll (Z : ZT) (x1 : Int32) (m : Mem) : Ctr Z yL_toll method_8_code 4 (some .int) 1 puI [.inr (.inr (70, 0)), .inl x1, .inr (.inr (72, 0))] m (f_L_toll (zL Z) (zx Z) x1 m) :=
  ctr_of (P := P_L) (by decide +kernel) rfl pt_L rfl rfl (fun X hC hZ hR h0 h1 hr => by subst hZ; exact g_L_toll ⟨hC, hR, h0, h1, hr⟩ x1 m)

def f_L_pass_j239 (L : Nat) (xsc : Nat → Int32) (x1 : Int32) (m : Mem) : Option (Int32 × Mem) :=
  if inB (5 : Int32) 9 = true then
    if inB (5 : Int32) 9 = true then
      some ((1 : Int32), (mset m 72 0 (ix (5 : Int32)) ((m 72 0 (ix (5 : Int32))) ^^^ ((1 : Int32) <<< (x1 &&& 31)))))
    else none
  else none
theorem g_L_pass_j239 {X : XT} (h : MX X method_9_code P_L 2 (some .boolean)) (x1 : Int32) (m : Mem) (o0 : Option AV) (o2 : Option AV) (o4 : Option AV) (o5 : Option AV) (o6 : Option AV) (o7 : Option AV) : Go X (Em X puI) 239 [o0, some (.inl x1), o2, some (.inr (.inr (72, 0))), o4, o5, o6, o7] [] m (f_L_pass_j239 (xL X) (xx X) x1 m) := by
  unfold f_L_pass_j239
  refine go_blk h.1 (is := [.aload_n 3, .iconst 5, .dup2]) (pc' := 242) (ls' := [o0, some (.inl x1), o2, some (.inr (.inr (72, 0))), o4, o5, o6, o7]) (st' := [.inl (5 : Int32), .inr (.inr (72, 0)), .inl (5 : Int32), .inr (.inr (72, 0))]) (m' := m) (by decide +kernel) rfl ?_
  refine go_iald h.1 (by decide +kernel) rfl rfl (fun b242 => ?_)
  show Go X (Em X puI) 243 [o0, some (.inl x1), o2, some (.inr (.inr (72, 0))), o4, o5, o6, o7] [.inl (m 72 0 (ix (5 : Int32))), .inl (5 : Int32), .inr (.inr (72, 0))] m _
  refine go_blk h.1 (is := [.iconst 1, .iload_n 1, .ishl, .ixor]) (pc' := 247) (ls' := [o0, some (.inl x1), o2, some (.inr (.inr (72, 0))), o4, o5, o6, o7]) (st' := [.inl ((m 72 0 (ix (5 : Int32))) ^^^ ((1 : Int32) <<< (x1 &&& 31))), .inl (5 : Int32), .inr (.inr (72, 0))]) (m' := m) (by decide +kernel) rfl ?_
  refine go_iast h.1 (by decide +kernel) rfl rfl (fun b247 => ?_)
  refine go_blk h.1 (is := [.iconst 1]) (pc' := 249) (ls' := [o0, some (.inl x1), o2, some (.inr (.inr (72, 0))), o4, o5, o6, o7]) (st' := [.inl (1 : Int32)]) (m' := (mset m 72 0 (ix (5 : Int32)) ((m 72 0 (ix (5 : Int32))) ^^^ ((1 : Int32) <<< (x1 &&& 31))))) (by decide +kernel) rfl ?_
  exact go_zret h.1 h.2.2.2.2 (Or.inr rfl) (by decide +kernel)

def f_L_pass_j220 (L : Nat) (xsc : Nat → Int32) (x1 : Int32) (x2 : Int32) (x5 : Int32) (x6 : Int32) (m : Mem) : Option (Int32 × Mem) :=
  if x2 = (3 : Int32) then
    if inB (((5 : Int32) * x1) + x6) 25 = true then
      if inB (((5 : Int32) * x1) + x6) 25 = true then
        f_L_pass_j239 L xsc x1 (mset m 73 0 (ix (((5 : Int32) * x1) + x6)) ((m 73 0 (ix (((5 : Int32) * x1) + x6))) + x5))
      else none
    else none
  else
    f_L_pass_j239 L xsc x1 m
theorem g_L_pass_j220 {X : XT} (h : MX X method_9_code P_L 2 (some .boolean)) (x1 : Int32) (x2 : Int32) (x5 : Int32) (x6 : Int32) (m : Mem) (o0 : Option AV) (o7 : Option AV) : Go X (Em X puI) 220 [o0, some (.inl x1), some (.inl x2), some (.inr (.inr (72, 0))), some (.inr (.inr (73, 0))), some (.inl x5), some (.inl x6), o7] [] m (f_L_pass_j220 (xL X) (xx X) x1 x2 x5 x6 m) := by
  unfold f_L_pass_j220
  refine go_blk h.1 (is := [.iload_n 2, .iconst 3]) (pc' := 222) (ls' := [o0, some (.inl x1), some (.inl x2), some (.inr (.inr (72, 0))), some (.inr (.inr (73, 0))), some (.inl x5), some (.inl x6), o7]) (st' := [.inl (3 : Int32), .inl x2]) (m' := m) (by decide +kernel) rfl ?_
  refine go_icmpne h.1 (off := 17) 239 (by decide +kernel) (by decide) (fun c222 => ?_) (fun c222 => ?_)
  · exact g_L_pass_j239 h x1 m (o0) (some (.inl x2)) (some (.inr (.inr (73, 0)))) (some (.inl x5)) (some (.inl x6)) (o7)
  · refine go_blk h.1 (is := [.aload 4, .iconst 5, .iload_n 1, .imul, .iload 6, .iadd, .dup2]) (pc' := 234) (ls' := [o0, some (.inl x1), some (.inl x2), some (.inr (.inr (72, 0))), some (.inr (.inr (73, 0))), some (.inl x5), some (.inl x6), o7]) (st' := [.inl (((5 : Int32) * x1) + x6), .inr (.inr (73, 0)), .inl (((5 : Int32) * x1) + x6), .inr (.inr (73, 0))]) (m' := m) (by decide +kernel) rfl ?_
    refine go_iald h.1 (by decide +kernel) rfl rfl (fun b234 => ?_)
    show Go X (Em X puI) 235 [o0, some (.inl x1), some (.inl x2), some (.inr (.inr (72, 0))), some (.inr (.inr (73, 0))), some (.inl x5), some (.inl x6), o7] [.inl (m 73 0 (ix (((5 : Int32) * x1) + x6))), .inl (((5 : Int32) * x1) + x6), .inr (.inr (73, 0))] m _
    refine go_blk h.1 (is := [.iload 5, .iadd]) (pc' := 238) (ls' := [o0, some (.inl x1), some (.inl x2), some (.inr (.inr (72, 0))), some (.inr (.inr (73, 0))), some (.inl x5), some (.inl x6), o7]) (st' := [.inl ((m 73 0 (ix (((5 : Int32) * x1) + x6))) + x5), .inl (((5 : Int32) * x1) + x6), .inr (.inr (73, 0))]) (m' := m) (by decide +kernel) rfl ?_
    refine go_iast h.1 (by decide +kernel) rfl rfl (fun b238 => ?_)
    exact g_L_pass_j239 h x1 (mset m 73 0 (ix (((5 : Int32) * x1) + x6)) ((m 73 0 (ix (((5 : Int32) * x1) + x6))) + x5)) (o0) (some (.inl x2)) (some (.inr (.inr (73, 0)))) (some (.inl x5)) (some (.inl x6)) (o7)

def f_L_pass_j197 (L : Nat) (xsc : Nat → Int32) (x1 : Int32) (x2 : Int32) (x5 : Int32) (x6 : Int32) (m : Mem) : Option (Int32 × Mem) :=
  if x6 < 0 then
    f_L_pass_j220 L xsc x1 x2 x5 x6 m
  else
    if inB x6 9 = true then
      if inB x6 9 = true then
        if inB (8 : Int32) 9 = true then
          if inB (8 : Int32) 9 = true then
            f_L_pass_j220 L xsc x1 x2 x5 x6 (mset (mset m 72 0 (ix x6) ((m 72 0 (ix x6)) - x5)) 72 0 (ix (8 : Int32)) (((mset m 72 0 (ix x6) ((m 72 0 (ix x6)) - x5)) 72 0 (ix (8 : Int32))) + x5))
          else none
        else none
      else none
    else none
theorem g_L_pass_j197 {X : XT} (h : MX X method_9_code P_L 2 (some .boolean)) (x1 : Int32) (x2 : Int32) (x5 : Int32) (x6 : Int32) (m : Mem) (o0 : Option AV) (o7 : Option AV) : Go X (Em X puI) 197 [o0, some (.inl x1), some (.inl x2), some (.inr (.inr (72, 0))), some (.inr (.inr (73, 0))), some (.inl x5), some (.inl x6), o7] [] m (f_L_pass_j197 (xL X) (xx X) x1 x2 x5 x6 m) := by
  unfold f_L_pass_j197
  refine go_blk h.1 (is := [.iload 6]) (pc' := 199) (ls' := [o0, some (.inl x1), some (.inl x2), some (.inr (.inr (72, 0))), some (.inr (.inr (73, 0))), some (.inl x5), some (.inl x6), o7]) (st' := [.inl x6]) (m' := m) (by decide +kernel) rfl ?_
  refine go_iflt h.1 (off := 21) 220 (by decide +kernel) (by decide) (fun c199 => ?_) (fun c199 => ?_)
  · exact g_L_pass_j220 h x1 x2 x5 x6 m (o0) (o7)
  · refine go_blk h.1 (is := [.aload_n 3, .iload 6, .dup2]) (pc' := 206) (ls' := [o0, some (.inl x1), some (.inl x2), some (.inr (.inr (72, 0))), some (.inr (.inr (73, 0))), some (.inl x5), some (.inl x6), o7]) (st' := [.inl x6, .inr (.inr (72, 0)), .inl x6, .inr (.inr (72, 0))]) (m' := m) (by decide +kernel) rfl ?_
    refine go_iald h.1 (by decide +kernel) rfl rfl (fun b206 => ?_)
    show Go X (Em X puI) 207 [o0, some (.inl x1), some (.inl x2), some (.inr (.inr (72, 0))), some (.inr (.inr (73, 0))), some (.inl x5), some (.inl x6), o7] [.inl (m 72 0 (ix x6)), .inl x6, .inr (.inr (72, 0))] m _
    refine go_blk h.1 (is := [.iload 5, .isub]) (pc' := 210) (ls' := [o0, some (.inl x1), some (.inl x2), some (.inr (.inr (72, 0))), some (.inr (.inr (73, 0))), some (.inl x5), some (.inl x6), o7]) (st' := [.inl ((m 72 0 (ix x6)) - x5), .inl x6, .inr (.inr (72, 0))]) (m' := m) (by decide +kernel) rfl ?_
    refine go_iast h.1 (by decide +kernel) rfl rfl (fun b210 => ?_)
    refine go_blk h.1 (is := [.aload_n 3, .bipush 8, .dup2]) (pc' := 215) (ls' := [o0, some (.inl x1), some (.inl x2), some (.inr (.inr (72, 0))), some (.inr (.inr (73, 0))), some (.inl x5), some (.inl x6), o7]) (st' := [.inl (8 : Int32), .inr (.inr (72, 0)), .inl (8 : Int32), .inr (.inr (72, 0))]) (m' := (mset m 72 0 (ix x6) ((m 72 0 (ix x6)) - x5))) (by decide +kernel) rfl ?_
    refine go_iald h.1 (by decide +kernel) rfl rfl (fun b215 => ?_)
    show Go X (Em X puI) 216 [o0, some (.inl x1), some (.inl x2), some (.inr (.inr (72, 0))), some (.inr (.inr (73, 0))), some (.inl x5), some (.inl x6), o7] [.inl ((mset m 72 0 (ix x6) ((m 72 0 (ix x6)) - x5)) 72 0 (ix (8 : Int32))), .inl (8 : Int32), .inr (.inr (72, 0))] (mset m 72 0 (ix x6) ((m 72 0 (ix x6)) - x5)) _
    refine go_blk h.1 (is := [.iload 5, .iadd]) (pc' := 219) (ls' := [o0, some (.inl x1), some (.inl x2), some (.inr (.inr (72, 0))), some (.inr (.inr (73, 0))), some (.inl x5), some (.inl x6), o7]) (st' := [.inl (((mset m 72 0 (ix x6) ((m 72 0 (ix x6)) - x5)) 72 0 (ix (8 : Int32))) + x5), .inl (8 : Int32), .inr (.inr (72, 0))]) (m' := (mset m 72 0 (ix x6) ((m 72 0 (ix x6)) - x5))) (by decide +kernel) rfl ?_
    refine go_iast h.1 (by decide +kernel) rfl rfl (fun b219 => ?_)
    exact g_L_pass_j220 h x1 x2 x5 x6 (mset (mset m 72 0 (ix x6) ((m 72 0 (ix x6)) - x5)) 72 0 (ix (8 : Int32)) (((mset m 72 0 (ix x6) ((m 72 0 (ix x6)) - x5)) 72 0 (ix (8 : Int32))) + x5)) (o0) (o7)

def f_L_pass_j144 (L : Nat) (xsc : Nat → Int32) (x1 : Int32) (x2 : Int32) (x5 : Int32) (x6 : Int32) (m : Mem) : Option (Int32 × Mem) :=
  if x2 = (2 : Int32) then
    if inB ((23 : Int32) + x1) 28 = true then
      if inB (1 : Int32) 28 = true then
        if (m 70 0 (ix (1 : Int32))) ≤ (m 70 0 (ix ((23 : Int32) + x1))) then
          some ((0 : Int32), m)
        else
          if (m 70 0 (ix ((23 : Int32) + x1))) = x1 then
            some ((0 : Int32), m)
          else
            if inB (6 : Int32) 9 = true then
              if (((m 72 0 (ix (6 : Int32))) >>> ((m 70 0 (ix ((23 : Int32) + x1))) &&& 31)) &&& (1 : Int32)) = (1 : Int32) then
                some ((0 : Int32), m)
              else
                if inB (6 : Int32) 9 = true then
                  if inB (6 : Int32) 9 = true then
                    f_L_pass_j197 L xsc x1 x2 x5 x6 (mset m 72 0 (ix (6 : Int32)) ((m 72 0 (ix (6 : Int32))) ||| ((1 : Int32) <<< ((m 70 0 (ix ((23 : Int32) + x1))) &&& 31))))
                  else none
                else none
            else none
      else none
    else none
  else
    f_L_pass_j197 L xsc x1 x2 x5 x6 m
theorem g_L_pass_j144 {X : XT} (h : MX X method_9_code P_L 2 (some .boolean)) (x1 : Int32) (x2 : Int32) (x5 : Int32) (x6 : Int32) (m : Mem) (o7 : Option AV) : Go X (Em X puI) 144 [some (.inr (.inr (70, 0))), some (.inl x1), some (.inl x2), some (.inr (.inr (72, 0))), some (.inr (.inr (73, 0))), some (.inl x5), some (.inl x6), o7] [] m (f_L_pass_j144 (xL X) (xx X) x1 x2 x5 x6 m) := by
  unfold f_L_pass_j144
  refine go_blk h.1 (is := [.iload_n 2, .iconst 2]) (pc' := 146) (ls' := [some (.inr (.inr (70, 0))), some (.inl x1), some (.inl x2), some (.inr (.inr (72, 0))), some (.inr (.inr (73, 0))), some (.inl x5), some (.inl x6), o7]) (st' := [.inl (2 : Int32), .inl x2]) (m' := m) (by decide +kernel) rfl ?_
  refine go_icmpne h.1 (off := 51) 197 (by decide +kernel) (by decide) (fun c146 => ?_) (fun c146 => ?_)
  · exact g_L_pass_j197 h x1 x2 x5 x6 m (some (.inr (.inr (70, 0)))) (o7)
  · refine go_blk h.1 (is := [.aload_n 0, .bipush 23, .iload_n 1, .iadd]) (pc' := 154) (ls' := [some (.inr (.inr (70, 0))), some (.inl x1), some (.inl x2), some (.inr (.inr (72, 0))), some (.inr (.inr (73, 0))), some (.inl x5), some (.inl x6), o7]) (st' := [.inl ((23 : Int32) + x1), .inr (.inr (70, 0))]) (m' := m) (by decide +kernel) rfl ?_
    refine go_iald h.1 (by decide +kernel) rfl rfl (fun b154 => ?_)
    show Go X (Em X puI) 155 [some (.inr (.inr (70, 0))), some (.inl x1), some (.inl x2), some (.inr (.inr (72, 0))), some (.inr (.inr (73, 0))), some (.inl x5), some (.inl x6), o7] [.inl (m 70 0 (ix ((23 : Int32) + x1)))] m _
    refine go_blk h.1 (is := [.istore 7, .iload 7, .aload_n 0, .iconst 1]) (pc' := 161) (ls' := [some (.inr (.inr (70, 0))), some (.inl x1), some (.inl x2), some (.inr (.inr (72, 0))), some (.inr (.inr (73, 0))), some (.inl x5), some (.inl x6), some (.inl (m 70 0 (ix ((23 : Int32) + x1))))]) (st' := [.inl (1 : Int32), .inr (.inr (70, 0)), .inl (m 70 0 (ix ((23 : Int32) + x1)))]) (m' := m) (by decide +kernel) rfl ?_
    refine go_iald h.1 (by decide +kernel) rfl rfl (fun b161 => ?_)
    show Go X (Em X puI) 162 [some (.inr (.inr (70, 0))), some (.inl x1), some (.inl x2), some (.inr (.inr (72, 0))), some (.inr (.inr (73, 0))), some (.inl x5), some (.inl x6), some (.inl (m 70 0 (ix ((23 : Int32) + x1))))] [.inl (m 70 0 (ix (1 : Int32))), .inl (m 70 0 (ix ((23 : Int32) + x1)))] m _
    refine go_icmpge h.1 (off := 22) 184 (by decide +kernel) (by decide) (fun c162 => ?_) (fun c162 => ?_)
    · refine go_blk h.1 (is := [.iconst 0]) (pc' := 185) (ls' := [some (.inr (.inr (70, 0))), some (.inl x1), some (.inl x2), some (.inr (.inr (72, 0))), some (.inr (.inr (73, 0))), some (.inl x5), some (.inl x6), some (.inl (m 70 0 (ix ((23 : Int32) + x1))))]) (st' := [.inl (0 : Int32)]) (m' := m) (by decide +kernel) rfl ?_
      exact go_zret h.1 h.2.2.2.2 (Or.inl rfl) (by decide +kernel)
    · refine go_blk h.1 (is := [.iload 7, .iload_n 1]) (pc' := 168) (ls' := [some (.inr (.inr (70, 0))), some (.inl x1), some (.inl x2), some (.inr (.inr (72, 0))), some (.inr (.inr (73, 0))), some (.inl x5), some (.inl x6), some (.inl (m 70 0 (ix ((23 : Int32) + x1))))]) (st' := [.inl x1, .inl (m 70 0 (ix ((23 : Int32) + x1)))]) (m' := m) (by decide +kernel) rfl ?_
      refine go_icmpeq h.1 (off := 16) 184 (by decide +kernel) (by decide) (fun c168 => ?_) (fun c168 => ?_)
      · refine go_blk h.1 (is := [.iconst 0]) (pc' := 185) (ls' := [some (.inr (.inr (70, 0))), some (.inl x1), some (.inl x2), some (.inr (.inr (72, 0))), some (.inr (.inr (73, 0))), some (.inl x5), some (.inl x6), some (.inl (m 70 0 (ix ((23 : Int32) + x1))))]) (st' := [.inl (0 : Int32)]) (m' := m) (by decide +kernel) rfl ?_
        exact go_zret h.1 h.2.2.2.2 (Or.inl rfl) (by decide +kernel)
      · refine go_blk h.1 (is := [.aload_n 3, .bipush 6]) (pc' := 174) (ls' := [some (.inr (.inr (70, 0))), some (.inl x1), some (.inl x2), some (.inr (.inr (72, 0))), some (.inr (.inr (73, 0))), some (.inl x5), some (.inl x6), some (.inl (m 70 0 (ix ((23 : Int32) + x1))))]) (st' := [.inl (6 : Int32), .inr (.inr (72, 0))]) (m' := m) (by decide +kernel) rfl ?_
        refine go_iald h.1 (by decide +kernel) rfl rfl (fun b174 => ?_)
        show Go X (Em X puI) 175 [some (.inr (.inr (70, 0))), some (.inl x1), some (.inl x2), some (.inr (.inr (72, 0))), some (.inr (.inr (73, 0))), some (.inl x5), some (.inl x6), some (.inl (m 70 0 (ix ((23 : Int32) + x1))))] [.inl (m 72 0 (ix (6 : Int32)))] m _
        refine go_blk h.1 (is := [.iload 7, .ishr, .iconst 1, .iand, .iconst 1]) (pc' := 181) (ls' := [some (.inr (.inr (70, 0))), some (.inl x1), some (.inl x2), some (.inr (.inr (72, 0))), some (.inr (.inr (73, 0))), some (.inl x5), some (.inl x6), some (.inl (m 70 0 (ix ((23 : Int32) + x1))))]) (st' := [.inl (1 : Int32), .inl (((m 72 0 (ix (6 : Int32))) >>> ((m 70 0 (ix ((23 : Int32) + x1))) &&& 31)) &&& (1 : Int32))]) (m' := m) (by decide +kernel) rfl ?_
        refine go_icmpne h.1 (off := 5) 186 (by decide +kernel) (by decide) (fun c181 => ?_) (fun c181 => ?_)
        · refine go_blk h.1 (is := [.aload_n 3, .bipush 6, .dup2]) (pc' := 190) (ls' := [some (.inr (.inr (70, 0))), some (.inl x1), some (.inl x2), some (.inr (.inr (72, 0))), some (.inr (.inr (73, 0))), some (.inl x5), some (.inl x6), some (.inl (m 70 0 (ix ((23 : Int32) + x1))))]) (st' := [.inl (6 : Int32), .inr (.inr (72, 0)), .inl (6 : Int32), .inr (.inr (72, 0))]) (m' := m) (by decide +kernel) rfl ?_
          refine go_iald h.1 (by decide +kernel) rfl rfl (fun b190 => ?_)
          show Go X (Em X puI) 191 [some (.inr (.inr (70, 0))), some (.inl x1), some (.inl x2), some (.inr (.inr (72, 0))), some (.inr (.inr (73, 0))), some (.inl x5), some (.inl x6), some (.inl (m 70 0 (ix ((23 : Int32) + x1))))] [.inl (m 72 0 (ix (6 : Int32))), .inl (6 : Int32), .inr (.inr (72, 0))] m _
          refine go_blk h.1 (is := [.iconst 1, .iload 7, .ishl, .ior]) (pc' := 196) (ls' := [some (.inr (.inr (70, 0))), some (.inl x1), some (.inl x2), some (.inr (.inr (72, 0))), some (.inr (.inr (73, 0))), some (.inl x5), some (.inl x6), some (.inl (m 70 0 (ix ((23 : Int32) + x1))))]) (st' := [.inl ((m 72 0 (ix (6 : Int32))) ||| ((1 : Int32) <<< ((m 70 0 (ix ((23 : Int32) + x1))) &&& 31))), .inl (6 : Int32), .inr (.inr (72, 0))]) (m' := m) (by decide +kernel) rfl ?_
          refine go_iast h.1 (by decide +kernel) rfl rfl (fun b196 => ?_)
          exact g_L_pass_j197 h x1 x2 x5 x6 (mset m 72 0 (ix (6 : Int32)) ((m 72 0 (ix (6 : Int32))) ||| ((1 : Int32) <<< ((m 70 0 (ix ((23 : Int32) + x1))) &&& 31)))) (some (.inr (.inr (70, 0)))) (some (.inl (m 70 0 (ix ((23 : Int32) + x1)))))
        · refine go_blk h.1 (is := [.iconst 0]) (pc' := 185) (ls' := [some (.inr (.inr (70, 0))), some (.inl x1), some (.inl x2), some (.inr (.inr (72, 0))), some (.inr (.inr (73, 0))), some (.inl x5), some (.inl x6), some (.inl (m 70 0 (ix ((23 : Int32) + x1))))]) (st' := [.inl (0 : Int32)]) (m' := m) (by decide +kernel) rfl ?_
          exact go_zret h.1 h.2.2.2.2 (Or.inl rfl) (by decide +kernel)

def f_L_pass_j94 (L : Nat) (xsc : Nat → Int32) (x1 : Int32) (x2 : Int32) (x5 : Int32) (x6 : Int32) (m : Mem) : Option (Int32 × Mem) :=
  if x2 = (1 : Int32) then
    if inB ((18 : Int32) + x1) 28 = true then
      if (m 70 0 (ix ((18 : Int32) + x1))) = (6 : Int32) then
        some ((0 : Int32), m)
      else
        if inB (7 : Int32) 9 = true then
          if inB ((18 : Int32) + x1) 28 = true then
            if (((m 72 0 (ix (7 : Int32))) >>> ((m 70 0 (ix ((18 : Int32) + x1))) &&& 31)) &&& (1 : Int32)) = (1 : Int32) then
              some ((0 : Int32), m)
            else
              if inB (7 : Int32) 9 = true then
                if inB ((18 : Int32) + x1) 28 = true then
                  if inB (7 : Int32) 9 = true then
                    f_L_pass_j144 L xsc x1 x2 x5 x6 (mset m 72 0 (ix (7 : Int32)) ((m 72 0 (ix (7 : Int32))) ||| ((1 : Int32) <<< ((m 70 0 (ix ((18 : Int32) + x1))) &&& 31))))
                  else none
                else none
              else none
          else none
        else none
    else none
  else
    f_L_pass_j144 L xsc x1 x2 x5 x6 m
theorem g_L_pass_j94 {X : XT} (h : MX X method_9_code P_L 2 (some .boolean)) (x1 : Int32) (x2 : Int32) (x5 : Int32) (x6 : Int32) (m : Mem) (o7 : Option AV) : Go X (Em X puI) 94 [some (.inr (.inr (70, 0))), some (.inl x1), some (.inl x2), some (.inr (.inr (72, 0))), some (.inr (.inr (73, 0))), some (.inl x5), some (.inl x6), o7] [] m (f_L_pass_j94 (xL X) (xx X) x1 x2 x5 x6 m) := by
  unfold f_L_pass_j94
  refine go_blk h.1 (is := [.iload_n 2, .iconst 1]) (pc' := 96) (ls' := [some (.inr (.inr (70, 0))), some (.inl x1), some (.inl x2), some (.inr (.inr (72, 0))), some (.inr (.inr (73, 0))), some (.inl x5), some (.inl x6), o7]) (st' := [.inl (1 : Int32), .inl x2]) (m' := m) (by decide +kernel) rfl ?_
  refine go_icmpne h.1 (off := 48) 144 (by decide +kernel) (by decide) (fun c96 => ?_) (fun c96 => ?_)
  · exact g_L_pass_j144 h x1 x2 x5 x6 m (o7)
  · refine go_blk h.1 (is := [.aload_n 0, .bipush 18, .iload_n 1, .iadd]) (pc' := 104) (ls' := [some (.inr (.inr (70, 0))), some (.inl x1), some (.inl x2), some (.inr (.inr (72, 0))), some (.inr (.inr (73, 0))), some (.inl x5), some (.inl x6), o7]) (st' := [.inl ((18 : Int32) + x1), .inr (.inr (70, 0))]) (m' := m) (by decide +kernel) rfl ?_
    refine go_iald h.1 (by decide +kernel) rfl rfl (fun b104 => ?_)
    show Go X (Em X puI) 105 [some (.inr (.inr (70, 0))), some (.inl x1), some (.inl x2), some (.inr (.inr (72, 0))), some (.inr (.inr (73, 0))), some (.inl x5), some (.inl x6), o7] [.inl (m 70 0 (ix ((18 : Int32) + x1)))] m _
    refine go_blk h.1 (is := [.bipush 6]) (pc' := 107) (ls' := [some (.inr (.inr (70, 0))), some (.inl x1), some (.inl x2), some (.inr (.inr (72, 0))), some (.inr (.inr (73, 0))), some (.inl x5), some (.inl x6), o7]) (st' := [.inl (6 : Int32), .inl (m 70 0 (ix ((18 : Int32) + x1)))]) (m' := m) (by decide +kernel) rfl ?_
    refine go_icmpeq h.1 (off := 20) 127 (by decide +kernel) (by decide) (fun c107 => ?_) (fun c107 => ?_)
    · refine go_blk h.1 (is := [.iconst 0]) (pc' := 128) (ls' := [some (.inr (.inr (70, 0))), some (.inl x1), some (.inl x2), some (.inr (.inr (72, 0))), some (.inr (.inr (73, 0))), some (.inl x5), some (.inl x6), o7]) (st' := [.inl (0 : Int32)]) (m' := m) (by decide +kernel) rfl ?_
      exact go_zret h.1 h.2.2.2.2 (Or.inl rfl) (by decide +kernel)
    · refine go_blk h.1 (is := [.aload_n 3, .bipush 7]) (pc' := 113) (ls' := [some (.inr (.inr (70, 0))), some (.inl x1), some (.inl x2), some (.inr (.inr (72, 0))), some (.inr (.inr (73, 0))), some (.inl x5), some (.inl x6), o7]) (st' := [.inl (7 : Int32), .inr (.inr (72, 0))]) (m' := m) (by decide +kernel) rfl ?_
      refine go_iald h.1 (by decide +kernel) rfl rfl (fun b113 => ?_)
      show Go X (Em X puI) 114 [some (.inr (.inr (70, 0))), some (.inl x1), some (.inl x2), some (.inr (.inr (72, 0))), some (.inr (.inr (73, 0))), some (.inl x5), some (.inl x6), o7] [.inl (m 72 0 (ix (7 : Int32)))] m _
      refine go_blk h.1 (is := [.aload_n 0, .bipush 18, .iload_n 1, .iadd]) (pc' := 119) (ls' := [some (.inr (.inr (70, 0))), some (.inl x1), some (.inl x2), some (.inr (.inr (72, 0))), some (.inr (.inr (73, 0))), some (.inl x5), some (.inl x6), o7]) (st' := [.inl ((18 : Int32) + x1), .inr (.inr (70, 0)), .inl (m 72 0 (ix (7 : Int32)))]) (m' := m) (by decide +kernel) rfl ?_
      refine go_iald h.1 (by decide +kernel) rfl rfl (fun b119 => ?_)
      show Go X (Em X puI) 120 [some (.inr (.inr (70, 0))), some (.inl x1), some (.inl x2), some (.inr (.inr (72, 0))), some (.inr (.inr (73, 0))), some (.inl x5), some (.inl x6), o7] [.inl (m 70 0 (ix ((18 : Int32) + x1))), .inl (m 72 0 (ix (7 : Int32)))] m _
      refine go_blk h.1 (is := [.ishr, .iconst 1, .iand, .iconst 1]) (pc' := 124) (ls' := [some (.inr (.inr (70, 0))), some (.inl x1), some (.inl x2), some (.inr (.inr (72, 0))), some (.inr (.inr (73, 0))), some (.inl x5), some (.inl x6), o7]) (st' := [.inl (1 : Int32), .inl (((m 72 0 (ix (7 : Int32))) >>> ((m 70 0 (ix ((18 : Int32) + x1))) &&& 31)) &&& (1 : Int32))]) (m' := m) (by decide +kernel) rfl ?_
      refine go_icmpne h.1 (off := 5) 129 (by decide +kernel) (by decide) (fun c124 => ?_) (fun c124 => ?_)
      · refine go_blk h.1 (is := [.aload_n 3, .bipush 7, .dup2]) (pc' := 133) (ls' := [some (.inr (.inr (70, 0))), some (.inl x1), some (.inl x2), some (.inr (.inr (72, 0))), some (.inr (.inr (73, 0))), some (.inl x5), some (.inl x6), o7]) (st' := [.inl (7 : Int32), .inr (.inr (72, 0)), .inl (7 : Int32), .inr (.inr (72, 0))]) (m' := m) (by decide +kernel) rfl ?_
        refine go_iald h.1 (by decide +kernel) rfl rfl (fun b133 => ?_)
        show Go X (Em X puI) 134 [some (.inr (.inr (70, 0))), some (.inl x1), some (.inl x2), some (.inr (.inr (72, 0))), some (.inr (.inr (73, 0))), some (.inl x5), some (.inl x6), o7] [.inl (m 72 0 (ix (7 : Int32))), .inl (7 : Int32), .inr (.inr (72, 0))] m _
        refine go_blk h.1 (is := [.iconst 1, .aload_n 0, .bipush 18, .iload_n 1, .iadd]) (pc' := 140) (ls' := [some (.inr (.inr (70, 0))), some (.inl x1), some (.inl x2), some (.inr (.inr (72, 0))), some (.inr (.inr (73, 0))), some (.inl x5), some (.inl x6), o7]) (st' := [.inl ((18 : Int32) + x1), .inr (.inr (70, 0)), .inl (1 : Int32), .inl (m 72 0 (ix (7 : Int32))), .inl (7 : Int32), .inr (.inr (72, 0))]) (m' := m) (by decide +kernel) rfl ?_
        refine go_iald h.1 (by decide +kernel) rfl rfl (fun b140 => ?_)
        show Go X (Em X puI) 141 [some (.inr (.inr (70, 0))), some (.inl x1), some (.inl x2), some (.inr (.inr (72, 0))), some (.inr (.inr (73, 0))), some (.inl x5), some (.inl x6), o7] [.inl (m 70 0 (ix ((18 : Int32) + x1))), .inl (1 : Int32), .inl (m 72 0 (ix (7 : Int32))), .inl (7 : Int32), .inr (.inr (72, 0))] m _
        refine go_blk h.1 (is := [.ishl, .ior]) (pc' := 143) (ls' := [some (.inr (.inr (70, 0))), some (.inl x1), some (.inl x2), some (.inr (.inr (72, 0))), some (.inr (.inr (73, 0))), some (.inl x5), some (.inl x6), o7]) (st' := [.inl ((m 72 0 (ix (7 : Int32))) ||| ((1 : Int32) <<< ((m 70 0 (ix ((18 : Int32) + x1))) &&& 31))), .inl (7 : Int32), .inr (.inr (72, 0))]) (m' := m) (by decide +kernel) rfl ?_
        refine go_iast h.1 (by decide +kernel) rfl rfl (fun b143 => ?_)
        exact g_L_pass_j144 h x1 x2 x5 x6 (mset m 72 0 (ix (7 : Int32)) ((m 72 0 (ix (7 : Int32))) ||| ((1 : Int32) <<< ((m 70 0 (ix ((18 : Int32) + x1))) &&& 31)))) (o7)
      · refine go_blk h.1 (is := [.iconst 0]) (pc' := 128) (ls' := [some (.inr (.inr (70, 0))), some (.inl x1), some (.inl x2), some (.inr (.inr (72, 0))), some (.inr (.inr (73, 0))), some (.inl x5), some (.inl x6), o7]) (st' := [.inl (0 : Int32)]) (m' := m) (by decide +kernel) rfl ?_
        exact go_zret h.1 h.2.2.2.2 (Or.inl rfl) (by decide +kernel)

def f_L_pass_j82 (L : Nat) (xsc : Nat → Int32) (x1 : Int32) (x2 : Int32) (x5 : Int32) (x6 : Int32) (m : Mem) : Option (Int32 × Mem) :=
  if x2 = (3 : Int32) then
    if 0 ≤ x6 then
      f_L_pass_j94 L xsc x1 x2 x5 x6 m
    else
      some ((0 : Int32), m)
  else
    f_L_pass_j94 L xsc x1 x2 x5 x6 m
theorem g_L_pass_j82 {X : XT} (h : MX X method_9_code P_L 2 (some .boolean)) (x1 : Int32) (x2 : Int32) (x5 : Int32) (x6 : Int32) (m : Mem) (o7 : Option AV) : Go X (Em X puI) 82 [some (.inr (.inr (70, 0))), some (.inl x1), some (.inl x2), some (.inr (.inr (72, 0))), some (.inr (.inr (73, 0))), some (.inl x5), some (.inl x6), o7] [] m (f_L_pass_j82 (xL X) (xx X) x1 x2 x5 x6 m) := by
  unfold f_L_pass_j82
  refine go_blk h.1 (is := [.iload_n 2, .iconst 3]) (pc' := 84) (ls' := [some (.inr (.inr (70, 0))), some (.inl x1), some (.inl x2), some (.inr (.inr (72, 0))), some (.inr (.inr (73, 0))), some (.inl x5), some (.inl x6), o7]) (st' := [.inl (3 : Int32), .inl x2]) (m' := m) (by decide +kernel) rfl ?_
  refine go_icmpne h.1 (off := 10) 94 (by decide +kernel) (by decide) (fun c84 => ?_) (fun c84 => ?_)
  · exact g_L_pass_j94 h x1 x2 x5 x6 m (o7)
  · refine go_blk h.1 (is := [.iload 6]) (pc' := 89) (ls' := [some (.inr (.inr (70, 0))), some (.inl x1), some (.inl x2), some (.inr (.inr (72, 0))), some (.inr (.inr (73, 0))), some (.inl x5), some (.inl x6), o7]) (st' := [.inl x6]) (m' := m) (by decide +kernel) rfl ?_
    refine go_ifge h.1 (off := 5) 94 (by decide +kernel) (by decide) (fun c89 => ?_) (fun c89 => ?_)
    · exact g_L_pass_j94 h x1 x2 x5 x6 m (o7)
    · refine go_blk h.1 (is := [.iconst 0]) (pc' := 93) (ls' := [some (.inr (.inr (70, 0))), some (.inl x1), some (.inl x2), some (.inr (.inr (72, 0))), some (.inr (.inr (73, 0))), some (.inl x5), some (.inl x6), o7]) (st' := [.inl (0 : Int32)]) (m' := m) (by decide +kernel) rfl ?_
      exact go_zret h.1 h.2.2.2.2 (Or.inl rfl) (by decide +kernel)

def f_L_pass_j70 (L : Nat) (xsc : Nat → Int32) (x1 : Int32) (x2 : Int32) (x5 : Int32) (x6 : Int32) (m : Mem) : Option (Int32 × Mem) :=
  if x2 = 0 then
    if inB x1 9 = true then
      if (m 72 0 (ix x1)) < x5 then
        some ((0 : Int32), m)
      else
        f_L_pass_j82 L xsc x1 x2 x5 x6 m
    else none
  else
    f_L_pass_j82 L xsc x1 x2 x5 x6 m
theorem g_L_pass_j70 {X : XT} (h : MX X method_9_code P_L 2 (some .boolean)) (x1 : Int32) (x2 : Int32) (x5 : Int32) (x6 : Int32) (m : Mem) (o7 : Option AV) : Go X (Em X puI) 70 [some (.inr (.inr (70, 0))), some (.inl x1), some (.inl x2), some (.inr (.inr (72, 0))), some (.inr (.inr (73, 0))), some (.inl x5), some (.inl x6), o7] [] m (f_L_pass_j70 (xL X) (xx X) x1 x2 x5 x6 m) := by
  unfold f_L_pass_j70
  refine go_blk h.1 (is := [.iload_n 2]) (pc' := 71) (ls' := [some (.inr (.inr (70, 0))), some (.inl x1), some (.inl x2), some (.inr (.inr (72, 0))), some (.inr (.inr (73, 0))), some (.inl x5), some (.inl x6), o7]) (st' := [.inl x2]) (m' := m) (by decide +kernel) rfl ?_
  refine go_ifne h.1 (off := 11) 82 (by decide +kernel) (by decide) (fun c71 => ?_) (fun c71 => ?_)
  · exact g_L_pass_j82 h x1 x2 x5 x6 m (o7)
  · refine go_blk h.1 (is := [.aload_n 3, .iload_n 1]) (pc' := 76) (ls' := [some (.inr (.inr (70, 0))), some (.inl x1), some (.inl x2), some (.inr (.inr (72, 0))), some (.inr (.inr (73, 0))), some (.inl x5), some (.inl x6), o7]) (st' := [.inl x1, .inr (.inr (72, 0))]) (m' := m) (by decide +kernel) rfl ?_
    refine go_iald h.1 (by decide +kernel) rfl rfl (fun b76 => ?_)
    show Go X (Em X puI) 77 [some (.inr (.inr (70, 0))), some (.inl x1), some (.inl x2), some (.inr (.inr (72, 0))), some (.inr (.inr (73, 0))), some (.inl x5), some (.inl x6), o7] [.inl (m 72 0 (ix x1))] m _
    refine go_blk h.1 (is := [.iload 5]) (pc' := 79) (ls' := [some (.inr (.inr (70, 0))), some (.inl x1), some (.inl x2), some (.inr (.inr (72, 0))), some (.inr (.inr (73, 0))), some (.inl x5), some (.inl x6), o7]) (st' := [.inl x5, .inl (m 72 0 (ix x1))]) (m' := m) (by decide +kernel) rfl ?_
    refine go_icmplt h.1 (off := 13) 92 (by decide +kernel) (by decide) (fun c79 => ?_) (fun c79 => ?_)
    · refine go_blk h.1 (is := [.iconst 0]) (pc' := 93) (ls' := [some (.inr (.inr (70, 0))), some (.inl x1), some (.inl x2), some (.inr (.inr (72, 0))), some (.inr (.inr (73, 0))), some (.inl x5), some (.inl x6), o7]) (st' := [.inl (0 : Int32)]) (m' := m) (by decide +kernel) rfl ?_
      exact go_zret h.1 h.2.2.2.2 (Or.inl rfl) (by decide +kernel)
    · exact g_L_pass_j82 h x1 x2 x5 x6 m (o7)

def f_L_pass_j64 (L : Nat) (xsc : Nat → Int32) (next : Int32 × Int32 × Mem → Option (Int32 × Mem)) (exit : Int32 × Mem → Option (Int32 × Mem)) (x1 : Int32) (x2 : Int32) (x5 : Int32) (x6 : Int32) (x7 : Int32) (m : Mem) : Option (Int32 × Mem) :=
  next (x6, (x7 + (-1 : Int32)), m)
theorem g_L_pass_j64 {X : XT} (h : MX X method_9_code P_L 2 (some .boolean)) (next : Int32 × Int32 × Mem → Option (Int32 × Mem)) (exit : Int32 × Mem → Option (Int32 × Mem)) (x1 : Int32) (x2 : Int32) (x5 : Int32) (x6 : Int32) (x7 : Int32) (m : Mem) (hn : ∀ (y6 : Int32) (y7 : Int32) (n : Mem), Go X (Em X puI) 31 [some (.inr (.inr (70, 0))), some (.inl x1), some (.inl x2), some (.inr (.inr (72, 0))), some (.inr (.inr (73, 0))), some (.inl x5), some (.inl y6), some (.inl y7)] [] n (next (y6, y7, n))) (hx : ∀ (y6 : Int32) (n : Mem) (o7 : Option AV), Go X (Em X puI) 70 [some (.inr (.inr (70, 0))), some (.inl x1), some (.inl x2), some (.inr (.inr (72, 0))), some (.inr (.inr (73, 0))), some (.inl x5), some (.inl y6), o7] [] n (exit (y6, n))) : Go X (Em X puI) 64 [some (.inr (.inr (70, 0))), some (.inl x1), some (.inl x2), some (.inr (.inr (72, 0))), some (.inr (.inr (73, 0))), some (.inl x5), some (.inl x6), some (.inl x7)] [] m (f_L_pass_j64 (xL X) (xx X) next exit x1 x2 x5 x6 x7 m) := by
  unfold f_L_pass_j64
  refine go_blk h.1 (is := [.iinc 7 (-1)]) (pc' := 67) (ls' := [some (.inr (.inr (70, 0))), some (.inl x1), some (.inl x2), some (.inr (.inr (72, 0))), some (.inr (.inr (73, 0))), some (.inl x5), some (.inl x6), some (.inl (x7 + (-1 : Int32)))]) (st' := []) (m' := m) (by decide +kernel) rfl ?_
  refine go_goto h.1 (off := -36) 31 (by decide +kernel) (by decide) ?_
  exact hn x6 (x7 + (-1 : Int32)) m

def f_L_pass_b31 (L : Nat) (xsc : Nat → Int32) (x1 : Int32) (x2 : Int32) (x5 : Int32) (next : Int32 × Int32 × Mem → Option (Int32 × Mem)) (exit : Int32 × Mem → Option (Int32 × Mem)) (s : Int32 × Int32 × Mem) : Option (Int32 × Mem) :=
  if s.2.1 < 0 then
    exit (s.1, s.2.2)
  else
    if s.2.1 = x1 then
      f_L_pass_j64 L xsc next exit x1 x2 x5 s.1 s.2.1 s.2.2
    else
      if inB ((3 : Int32) + s.2.1) 28 = true then
        if (s.2.2 70 0 (ix ((3 : Int32) + s.2.1))) ≤ 0 then
          f_L_pass_j64 L xsc next exit x1 x2 x5 s.1 s.2.1 s.2.2
        else
          if inB s.2.1 9 = true then
            if (s.2.2 72 0 (ix s.2.1)) < x5 then
              f_L_pass_j64 L xsc next exit x1 x2 x5 s.1 s.2.1 s.2.2
            else
              f_L_pass_j64 L xsc next exit x1 x2 x5 s.2.1 s.2.1 s.2.2
          else none
      else none
theorem g_L_pass_b31 {X : XT} (h : MX X method_9_code P_L 2 (some .boolean)) (x1 : Int32) (x2 : Int32) (x5 : Int32) (next : Int32 × Int32 × Mem → Option (Int32 × Mem)) (exit : Int32 × Mem → Option (Int32 × Mem)) (hn : ∀ (y6 : Int32) (y7 : Int32) (n : Mem), Go X (Em X puI) 31 [some (.inr (.inr (70, 0))), some (.inl x1), some (.inl x2), some (.inr (.inr (72, 0))), some (.inr (.inr (73, 0))), some (.inl x5), some (.inl y6), some (.inl y7)] [] n (next (y6, y7, n))) (hx : ∀ (y6 : Int32) (n : Mem) (o7 : Option AV), Go X (Em X puI) 70 [some (.inr (.inr (70, 0))), some (.inl x1), some (.inl x2), some (.inr (.inr (72, 0))), some (.inr (.inr (73, 0))), some (.inl x5), some (.inl y6), o7] [] n (exit (y6, n))) (s : Int32 × Int32 × Mem) : Go X (Em X puI) 31 [some (.inr (.inr (70, 0))), some (.inl x1), some (.inl x2), some (.inr (.inr (72, 0))), some (.inr (.inr (73, 0))), some (.inl x5), some (.inl s.1), some (.inl s.2.1)] [] s.2.2 (f_L_pass_b31 (xL X) (xx X) x1 x2 x5 next exit s) := by
  unfold f_L_pass_b31
  refine go_blk h.1 (is := [.iload 7]) (pc' := 33) (ls' := [some (.inr (.inr (70, 0))), some (.inl x1), some (.inl x2), some (.inr (.inr (72, 0))), some (.inr (.inr (73, 0))), some (.inl x5), some (.inl s.1), some (.inl s.2.1)]) (st' := [.inl s.2.1]) (m' := s.2.2) (by decide +kernel) rfl ?_
  refine go_iflt h.1 (off := 37) 70 (by decide +kernel) (by decide) (fun c33 => ?_) (fun c33 => ?_)
  · exact hx s.1 s.2.2 (some (.inl s.2.1))
  · refine go_blk h.1 (is := [.iload 7, .iload_n 1]) (pc' := 39) (ls' := [some (.inr (.inr (70, 0))), some (.inl x1), some (.inl x2), some (.inr (.inr (72, 0))), some (.inr (.inr (73, 0))), some (.inl x5), some (.inl s.1), some (.inl s.2.1)]) (st' := [.inl x1, .inl s.2.1]) (m' := s.2.2) (by decide +kernel) rfl ?_
    refine go_icmpeq h.1 (off := 25) 64 (by decide +kernel) (by decide) (fun c39 => ?_) (fun c39 => ?_)
    · exact g_L_pass_j64 h next exit x1 x2 x5 s.1 s.2.1 s.2.2 hn hx
    · refine go_blk h.1 (is := [.aload_n 0, .iconst 3, .iload 7, .iadd]) (pc' := 47) (ls' := [some (.inr (.inr (70, 0))), some (.inl x1), some (.inl x2), some (.inr (.inr (72, 0))), some (.inr (.inr (73, 0))), some (.inl x5), some (.inl s.1), some (.inl s.2.1)]) (st' := [.inl ((3 : Int32) + s.2.1), .inr (.inr (70, 0))]) (m' := s.2.2) (by decide +kernel) rfl ?_
      refine go_iald h.1 (by decide +kernel) rfl rfl (fun b47 => ?_)
      show Go X (Em X puI) 48 [some (.inr (.inr (70, 0))), some (.inl x1), some (.inl x2), some (.inr (.inr (72, 0))), some (.inr (.inr (73, 0))), some (.inl x5), some (.inl s.1), some (.inl s.2.1)] [.inl (s.2.2 70 0 (ix ((3 : Int32) + s.2.1)))] s.2.2 _
      refine go_ifle h.1 (off := 16) 64 (by decide +kernel) (by decide) (fun c48 => ?_) (fun c48 => ?_)
      · exact g_L_pass_j64 h next exit x1 x2 x5 s.1 s.2.1 s.2.2 hn hx
      · refine go_blk h.1 (is := [.aload_n 3, .iload 7]) (pc' := 54) (ls' := [some (.inr (.inr (70, 0))), some (.inl x1), some (.inl x2), some (.inr (.inr (72, 0))), some (.inr (.inr (73, 0))), some (.inl x5), some (.inl s.1), some (.inl s.2.1)]) (st' := [.inl s.2.1, .inr (.inr (72, 0))]) (m' := s.2.2) (by decide +kernel) rfl ?_
        refine go_iald h.1 (by decide +kernel) rfl rfl (fun b54 => ?_)
        show Go X (Em X puI) 55 [some (.inr (.inr (70, 0))), some (.inl x1), some (.inl x2), some (.inr (.inr (72, 0))), some (.inr (.inr (73, 0))), some (.inl x5), some (.inl s.1), some (.inl s.2.1)] [.inl (s.2.2 72 0 (ix s.2.1))] s.2.2 _
        refine go_blk h.1 (is := [.iload 5]) (pc' := 57) (ls' := [some (.inr (.inr (70, 0))), some (.inl x1), some (.inl x2), some (.inr (.inr (72, 0))), some (.inr (.inr (73, 0))), some (.inl x5), some (.inl s.1), some (.inl s.2.1)]) (st' := [.inl x5, .inl (s.2.2 72 0 (ix s.2.1))]) (m' := s.2.2) (by decide +kernel) rfl ?_
        refine go_icmplt h.1 (off := 7) 64 (by decide +kernel) (by decide) (fun c57 => ?_) (fun c57 => ?_)
        · exact g_L_pass_j64 h next exit x1 x2 x5 s.1 s.2.1 s.2.2 hn hx
        · refine go_blk h.1 (is := [.iload 7, .istore 6]) (pc' := 64) (ls' := [some (.inr (.inr (70, 0))), some (.inl x1), some (.inl x2), some (.inr (.inr (72, 0))), some (.inr (.inr (73, 0))), some (.inl x5), some (.inl s.2.1), some (.inl s.2.1)]) (st' := []) (m' := s.2.2) (by decide +kernel) rfl ?_
          exact g_L_pass_j64 h next exit x1 x2 x5 s.2.1 s.2.1 s.2.2 hn hx

def f_L_pass_j17 (L : Nat) (xsc : Nat → Int32) (s0 : Int32) (x1 : Int32) (x2 : Int32) (x5 : Int32) (m : Mem) : Option (Int32 × Mem) :=
  if x2 = (3 : Int32) then
    if inB (1 : Int32) 28 = true then
      lpk (f_L_pass_b31 L xsc x1 x2 x5) fuelN (s0, ((m 70 0 (ix (1 : Int32))) - (1 : Int32)), m) (fun t31 =>
        f_L_pass_j70 L xsc x1 x2 x5 t31.1 t31.2)
    else none
  else
    f_L_pass_j70 L xsc x1 x2 x5 s0 m
theorem g_L_pass_j17 {X : XT} (h : MX X method_9_code P_L 2 (some .boolean)) (s0 : Int32) (x1 : Int32) (x2 : Int32) (x5 : Int32) (m : Mem) (o6 : Option AV) (o7 : Option AV) : Go X (Em X puI) 17 [some (.inr (.inr (70, 0))), some (.inl x1), some (.inl x2), some (.inr (.inr (72, 0))), some (.inr (.inr (73, 0))), some (.inl x5), o6, o7] [.inl s0] m (f_L_pass_j17 (xL X) (xx X) s0 x1 x2 x5 m) := by
  unfold f_L_pass_j17
  refine go_blk h.1 (is := [.istore 6, .iload_n 2, .iconst 3]) (pc' := 21) (ls' := [some (.inr (.inr (70, 0))), some (.inl x1), some (.inl x2), some (.inr (.inr (72, 0))), some (.inr (.inr (73, 0))), some (.inl x5), some (.inl s0), o7]) (st' := [.inl (3 : Int32), .inl x2]) (m' := m) (by decide +kernel) rfl ?_
  refine go_icmpne h.1 (off := 49) 70 (by decide +kernel) (by decide) (fun c21 => ?_) (fun c21 => ?_)
  · exact g_L_pass_j70 h x1 x2 x5 s0 m (o7)
  · refine go_blk h.1 (is := [.aload_n 0, .iconst 1]) (pc' := 26) (ls' := [some (.inr (.inr (70, 0))), some (.inl x1), some (.inl x2), some (.inr (.inr (72, 0))), some (.inr (.inr (73, 0))), some (.inl x5), some (.inl s0), o7]) (st' := [.inl (1 : Int32), .inr (.inr (70, 0))]) (m' := m) (by decide +kernel) rfl ?_
    refine go_iald h.1 (by decide +kernel) rfl rfl (fun b26 => ?_)
    show Go X (Em X puI) 27 [some (.inr (.inr (70, 0))), some (.inl x1), some (.inl x2), some (.inr (.inr (72, 0))), some (.inr (.inr (73, 0))), some (.inl x5), some (.inl s0), o7] [.inl (m 70 0 (ix (1 : Int32)))] m _
    refine go_blk h.1 (is := [.iconst 1, .isub, .istore 7]) (pc' := 31) (ls' := [some (.inr (.inr (70, 0))), some (.inl x1), some (.inl x2), some (.inr (.inr (72, 0))), some (.inr (.inr (73, 0))), some (.inl x5), some (.inl s0), some (.inl ((m 70 0 (ix (1 : Int32))) - (1 : Int32)))]) (st' := []) (m' := m) (by decide +kernel) rfl ?_
    refine go_lp2 (hd := fun (y6 : Int32) (y7 : Int32) (n : Mem) o => Go X (Em X puI) 31 [some (.inr (.inr (70, 0))), some (.inl x1), some (.inl x2), some (.inr (.inr (72, 0))), some (.inr (.inr (73, 0))), some (.inl x5), some (.inl y6), some (.inl y7)] [] n o) (fun _ _ _ => go_none) (fun y6 y7 n nx_ hn_ => g_L_pass_b31 h x1 x2 x5 nx_ _ hn_ (fun z6_31 z_31 o7_31 => ?_) (y6, y7, n)) fuelN s0 ((m 70 0 (ix (1 : Int32))) - (1 : Int32)) m
    exact g_L_pass_j70 h x1 x2 x5 z6_31 z_31 (o7_31)

def f_L_pass (L : Nat) (xsc : Nat → Int32) (x1 : Int32) (x2 : Int32) (m : Mem) : Option (Int32 × Mem) :=
  bnd (f_L_toll L xsc x1 m) (fun r3 m3 =>
    if x2 = 0 then
      f_L_pass_j17 L xsc x1 x1 x2 r3 m3
    else
      f_L_pass_j17 L xsc (-1 : Int32) x1 x2 r3 m3)
theorem g_L_pass {X : XT} (h : MX X method_9_code P_L 2 (some .boolean)) (x1 : Int32) (x2 : Int32) (m : Mem) : Go X (Em X puI) 0 [some (.inr (.inr (70, 0))), some (.inl x1), some (.inl x2), some (.inr (.inr (72, 0))), some (.inr (.inr (73, 0))), none, none, none] [] m (f_L_pass (xL X) (xx X) x1 x2 m) := by
  unfold f_L_pass
  refine go_blk h.1 (is := [.aload_n 0, .iload_n 1, .aload_n 3]) (pc' := 3) (ls' := [some (.inr (.inr (70, 0))), some (.inl x1), some (.inl x2), some (.inr (.inr (72, 0))), some (.inr (.inr (73, 0))), none, none, none]) (st' := [.inr (.inr (72, 0)), .inl x1, .inr (.inr (70, 0))]) (m' := m) (by decide +kernel) rfl ?_
  refine go_callS h.1 (index := 41) (n := 3) (as := [.inr (.inr (70, 0)), .inl x1, .inr (.inr (72, 0))]) (rest := []) (ctr_L_toll (xZ X) x1 m) (by decide +kernel) wd_s_L_41 rfl (h.room (by first | decide | omega) (by decide)) h.cl (Nat.le_of_ble_eq_true rfl) puI_ok rfl (fun r3 m3 _ => ?_)
  show Go X (Em X puI) 6 [some (.inr (.inr (70, 0))), some (.inl x1), some (.inl x2), some (.inr (.inr (72, 0))), some (.inr (.inr (73, 0))), none, none, none] [.inl r3] m3 _
  refine go_blk h.1 (is := [.istore 5, .iload_n 2]) (pc' := 9) (ls' := [some (.inr (.inr (70, 0))), some (.inl x1), some (.inl x2), some (.inr (.inr (72, 0))), some (.inr (.inr (73, 0))), some (.inl r3), none, none]) (st' := [.inl x2]) (m' := m3) (by decide +kernel) rfl ?_
  refine go_ifne h.1 (off := 7) 16 (by decide +kernel) (by decide) (fun c9 => ?_) (fun c9 => ?_)
  · refine go_blk h.1 (is := [.iconst (-1)]) (pc' := 17) (ls' := [some (.inr (.inr (70, 0))), some (.inl x1), some (.inl x2), some (.inr (.inr (72, 0))), some (.inr (.inr (73, 0))), some (.inl r3), none, none]) (st' := [.inl (-1 : Int32)]) (m' := m3) (by decide +kernel) rfl ?_
    exact g_L_pass_j17 h (-1 : Int32) x1 x2 r3 m3 (none) (none)
  · refine go_blk h.1 (is := [.iload_n 1]) (pc' := 13) (ls' := [some (.inr (.inr (70, 0))), some (.inl x1), some (.inl x2), some (.inr (.inr (72, 0))), some (.inr (.inr (73, 0))), some (.inl r3), none, none]) (st' := [.inl x1]) (m' := m3) (by decide +kernel) rfl ?_
    refine go_goto h.1 (off := 4) 17 (by decide +kernel) (by decide) ?_
    exact g_L_pass_j17 h x1 x1 x2 r3 m3 (none) (none)
theorem ctr_L_pass (Z : ZT) (x1 : Int32) (x2 : Int32) (m : Mem) : Ctr Z yL_pass method_9_code 8 (some .boolean) 2 puI [.inr (.inr (70, 0)), .inl x1, .inl x2, .inr (.inr (72, 0)), .inr (.inr (73, 0))] m (f_L_pass (zL Z) (zx Z) x1 x2 m) :=
  ctr_of (P := P_L) (by decide +kernel) rfl pt_L rfl rfl (fun X hC hZ hR h0 h1 hr => by subst hZ; exact g_L_pass ⟨hC, hR, h0, h1, hr⟩ x1 x2 m)

def f_L_lay_b105 (L : Nat) (xsc : Nat → Int32) (x2 : Int32) (x8 : Int32) (x9 : Int32) (x10 : Int32) (next : Int32 × Mem → Option (Int32 × Mem)) (exit : Mem → Option (Int32 × Mem)) (s : Int32 × Mem) : Option (Int32 × Mem) :=
  if (4 : Int32) ≤ s.1 then
    exit (s.2)
  else
    bnd (f_L_some L xsc (x10 >>> ((4 : Int32) &&& 31)) (9 : Int32) s.2) (fun r117 m117 =>
      if r117 ≤ 0 then
        exit (m117)
      else
        if inB ((2 : Int32) * x9) 40 = true then
          if inB (((2 : Int32) * x9) + (1 : Int32)) 40 = true then
            bnd (f_L_pass L xsc (m117 71 0 (ix ((2 : Int32) * x9))) (m117 71 0 (ix (((2 : Int32) * x9) + (1 : Int32)))) m117) (fun r144 m144 =>
              if r144 = 0 then
                if inB (((2 : Int32) * x9) + (1 : Int32)) 40 = true then
                  if ¬ (4 : Int32) = 0 then dv (((m144 71 0 (ix (((2 : Int32) * x9) + (1 : Int32)))) + (1 : Int32)) - ((m144 71 0 (ix (((2 : Int32) * x9) + (1 : Int32)))) + (1 : Int32)) / (4 : Int32) * (4 : Int32)) (fun q173 =>
                    if inB (((2 : Int32) * x9) + (1 : Int32)) 40 = true then
                      next ((s.1 + (1 : Int32)), (mset m144 71 0 (ix (((2 : Int32) * x9) + (1 : Int32))) q173))
                    else none)
                  else none
                else none
              else
                exit (m144))
          else none
        else none)
theorem g_L_lay_b105 {X : XT} (h : MX X method_11_code P_L 3 (some .int)) (x2 : Int32) (x8 : Int32) (x9 : Int32) (x10 : Int32) (next : Int32 × Mem → Option (Int32 × Mem)) (exit : Mem → Option (Int32 × Mem)) (hn : ∀ (y11 : Int32) (n : Mem) (o7 : Option AV), Go X (Em X puI) 105 [some (.inr (.inr (0, 0))), some (.inr (.inr (60, 0))), some (.inl x2), some (.inr (.inr (70, 0))), some (.inr (.inr (71, 0))), some (.inr (.inr (72, 0))), some (.inr (.inr (73, 0))), o7, some (.inl x8), some (.inl x9), some (.inl x10), some (.inl y11)] [] n (next (y11, n))) (hx : ∀ (n : Mem) (o7 : Option AV) (o10 : Option AV) (o11 : Option AV), Go X (Em X puI) 181 [some (.inr (.inr (0, 0))), some (.inr (.inr (60, 0))), some (.inl x2), some (.inr (.inr (70, 0))), some (.inr (.inr (71, 0))), some (.inr (.inr (72, 0))), some (.inr (.inr (73, 0))), o7, some (.inl x8), some (.inl x9), o10, o11] [] n (exit (n))) (s : Int32 × Mem) (o7 : Option AV) : Go X (Em X puI) 105 [some (.inr (.inr (0, 0))), some (.inr (.inr (60, 0))), some (.inl x2), some (.inr (.inr (70, 0))), some (.inr (.inr (71, 0))), some (.inr (.inr (72, 0))), some (.inr (.inr (73, 0))), o7, some (.inl x8), some (.inl x9), some (.inl x10), some (.inl s.1)] [] s.2 (f_L_lay_b105 (xL X) (xx X) x2 x8 x9 x10 next exit s) := by
  unfold f_L_lay_b105
  refine go_blk h.1 (is := [.iload 11, .iconst 4]) (pc' := 108) (ls' := [some (.inr (.inr (0, 0))), some (.inr (.inr (60, 0))), some (.inl x2), some (.inr (.inr (70, 0))), some (.inr (.inr (71, 0))), some (.inr (.inr (72, 0))), some (.inr (.inr (73, 0))), o7, some (.inl x8), some (.inl x9), some (.inl x10), some (.inl s.1)]) (st' := [.inl (4 : Int32), .inl s.1]) (m' := s.2) (by decide +kernel) rfl ?_
  refine go_icmpge h.1 (off := 73) 181 (by decide +kernel) (by decide) (fun c108 => ?_) (fun c108 => ?_)
  · exact hx s.2 (o7) (some (.inl x10)) (some (.inl s.1))
  · refine go_blk h.1 (is := [.iload 10, .iconst 4, .ishr, .bipush 9]) (pc' := 117) (ls' := [some (.inr (.inr (0, 0))), some (.inr (.inr (60, 0))), some (.inl x2), some (.inr (.inr (70, 0))), some (.inr (.inr (71, 0))), some (.inr (.inr (72, 0))), some (.inr (.inr (73, 0))), o7, some (.inl x8), some (.inl x9), some (.inl x10), some (.inl s.1)]) (st' := [.inl (9 : Int32), .inl (x10 >>> ((4 : Int32) &&& 31))]) (m' := s.2) (by decide +kernel) rfl ?_
    refine go_callS h.1 (index := 15) (n := 2) (as := [.inl (x10 >>> ((4 : Int32) &&& 31)), .inl (9 : Int32)]) (rest := []) (ctr_L_some (xZ X) (x10 >>> ((4 : Int32) &&& 31)) (9 : Int32) s.2) (by decide +kernel) wd_s_L_15 rfl (h.room (by first | decide | omega) (by decide)) h.cl (Nat.le_of_ble_eq_true rfl) puI_ok rfl (fun r117 m117 _ => ?_)
    show Go X (Em X puI) 120 [some (.inr (.inr (0, 0))), some (.inr (.inr (60, 0))), some (.inl x2), some (.inr (.inr (70, 0))), some (.inr (.inr (71, 0))), some (.inr (.inr (72, 0))), some (.inr (.inr (73, 0))), o7, some (.inl x8), some (.inl x9), some (.inl x10), some (.inl s.1)] [.inl r117] m117 _
    refine go_ifle h.1 (off := 61) 181 (by decide +kernel) (by decide) (fun c120 => ?_) (fun c120 => ?_)
    · exact hx m117 (o7) (some (.inl x10)) (some (.inl s.1))
    · refine go_blk h.1 (is := [.aload_n 3, .aload 4, .iconst 2, .iload 9, .imul]) (pc' := 130) (ls' := [some (.inr (.inr (0, 0))), some (.inr (.inr (60, 0))), some (.inl x2), some (.inr (.inr (70, 0))), some (.inr (.inr (71, 0))), some (.inr (.inr (72, 0))), some (.inr (.inr (73, 0))), o7, some (.inl x8), some (.inl x9), some (.inl x10), some (.inl s.1)]) (st' := [.inl ((2 : Int32) * x9), .inr (.inr (71, 0)), .inr (.inr (70, 0))]) (m' := m117) (by decide +kernel) rfl ?_
      refine go_iald h.1 (by decide +kernel) rfl rfl (fun b130 => ?_)
      show Go X (Em X puI) 131 [some (.inr (.inr (0, 0))), some (.inr (.inr (60, 0))), some (.inl x2), some (.inr (.inr (70, 0))), some (.inr (.inr (71, 0))), some (.inr (.inr (72, 0))), some (.inr (.inr (73, 0))), o7, some (.inl x8), some (.inl x9), some (.inl x10), some (.inl s.1)] [.inl (m117 71 0 (ix ((2 : Int32) * x9))), .inr (.inr (70, 0))] m117 _
      refine go_blk h.1 (is := [.aload 4, .iconst 2, .iload 9, .imul, .iconst 1, .iadd]) (pc' := 139) (ls' := [some (.inr (.inr (0, 0))), some (.inr (.inr (60, 0))), some (.inl x2), some (.inr (.inr (70, 0))), some (.inr (.inr (71, 0))), some (.inr (.inr (72, 0))), some (.inr (.inr (73, 0))), o7, some (.inl x8), some (.inl x9), some (.inl x10), some (.inl s.1)]) (st' := [.inl (((2 : Int32) * x9) + (1 : Int32)), .inr (.inr (71, 0)), .inl (m117 71 0 (ix ((2 : Int32) * x9))), .inr (.inr (70, 0))]) (m' := m117) (by decide +kernel) rfl ?_
      refine go_iald h.1 (by decide +kernel) rfl rfl (fun b139 => ?_)
      show Go X (Em X puI) 140 [some (.inr (.inr (0, 0))), some (.inr (.inr (60, 0))), some (.inl x2), some (.inr (.inr (70, 0))), some (.inr (.inr (71, 0))), some (.inr (.inr (72, 0))), some (.inr (.inr (73, 0))), o7, some (.inl x8), some (.inl x9), some (.inl x10), some (.inl s.1)] [.inl (m117 71 0 (ix (((2 : Int32) * x9) + (1 : Int32)))), .inl (m117 71 0 (ix ((2 : Int32) * x9))), .inr (.inr (70, 0))] m117 _
      refine go_blk h.1 (is := [.aload 5, .aload 6]) (pc' := 144) (ls' := [some (.inr (.inr (0, 0))), some (.inr (.inr (60, 0))), some (.inl x2), some (.inr (.inr (70, 0))), some (.inr (.inr (71, 0))), some (.inr (.inr (72, 0))), some (.inr (.inr (73, 0))), o7, some (.inl x8), some (.inl x9), some (.inl x10), some (.inl s.1)]) (st' := [.inr (.inr (73, 0)), .inr (.inr (72, 0)), .inl (m117 71 0 (ix (((2 : Int32) * x9) + (1 : Int32)))), .inl (m117 71 0 (ix ((2 : Int32) * x9))), .inr (.inr (70, 0))]) (m' := m117) (by decide +kernel) rfl ?_
      refine go_callS h.1 (index := 49) (n := 5) (as := [.inr (.inr (70, 0)), .inl (m117 71 0 (ix ((2 : Int32) * x9))), .inl (m117 71 0 (ix (((2 : Int32) * x9) + (1 : Int32)))), .inr (.inr (72, 0)), .inr (.inr (73, 0))]) (rest := []) (ctr_L_pass (xZ X) (m117 71 0 (ix ((2 : Int32) * x9))) (m117 71 0 (ix (((2 : Int32) * x9) + (1 : Int32)))) m117) (by decide +kernel) wd_s_L_49 rfl (h.room (by first | decide | omega) (by decide)) h.cl (Nat.le_of_ble_eq_true rfl) puI_ok rfl (fun r144 m144 _ => ?_)
      show Go X (Em X puI) 147 [some (.inr (.inr (0, 0))), some (.inr (.inr (60, 0))), some (.inl x2), some (.inr (.inr (70, 0))), some (.inr (.inr (71, 0))), some (.inr (.inr (72, 0))), some (.inr (.inr (73, 0))), o7, some (.inl x8), some (.inl x9), some (.inl x10), some (.inl s.1)] [.inl r144] m144 _
      refine go_ifeq h.1 (off := 6) 153 (by decide +kernel) (by decide) (fun c147 => ?_) (fun c147 => ?_)
      · refine go_blk h.1 (is := [.aload 4, .iconst 2, .iload 9, .imul, .iconst 1, .iadd, .aload 4, .iconst 2, .iload 9, .imul, .iconst 1, .iadd]) (pc' := 169) (ls' := [some (.inr (.inr (0, 0))), some (.inr (.inr (60, 0))), some (.inl x2), some (.inr (.inr (70, 0))), some (.inr (.inr (71, 0))), some (.inr (.inr (72, 0))), some (.inr (.inr (73, 0))), o7, some (.inl x8), some (.inl x9), some (.inl x10), some (.inl s.1)]) (st' := [.inl (((2 : Int32) * x9) + (1 : Int32)), .inr (.inr (71, 0)), .inl (((2 : Int32) * x9) + (1 : Int32)), .inr (.inr (71, 0))]) (m' := m144) (by decide +kernel) rfl ?_
        refine go_iald h.1 (by decide +kernel) rfl rfl (fun b169 => ?_)
        show Go X (Em X puI) 170 [some (.inr (.inr (0, 0))), some (.inr (.inr (60, 0))), some (.inl x2), some (.inr (.inr (70, 0))), some (.inr (.inr (71, 0))), some (.inr (.inr (72, 0))), some (.inr (.inr (73, 0))), o7, some (.inl x8), some (.inl x9), some (.inl x10), some (.inl s.1)] [.inl (m144 71 0 (ix (((2 : Int32) * x9) + (1 : Int32)))), .inl (((2 : Int32) * x9) + (1 : Int32)), .inr (.inr (71, 0))] m144 _
        refine go_blk h.1 (is := [.iconst 1, .iadd, .iconst 4]) (pc' := 173) (ls' := [some (.inr (.inr (0, 0))), some (.inr (.inr (60, 0))), some (.inl x2), some (.inr (.inr (70, 0))), some (.inr (.inr (71, 0))), some (.inr (.inr (72, 0))), some (.inr (.inr (73, 0))), o7, some (.inl x8), some (.inl x9), some (.inl x10), some (.inl s.1)]) (st' := [.inl (4 : Int32), .inl ((m144 71 0 (ix (((2 : Int32) * x9) + (1 : Int32)))) + (1 : Int32)), .inl (((2 : Int32) * x9) + (1 : Int32)), .inr (.inr (71, 0))]) (m' := m144) (by decide +kernel) rfl ?_
        refine go_irem h.1 (by decide +kernel) (fun z173 q173 _ => ?_)
        refine go_iast h.1 (by decide +kernel) rfl rfl (fun b174 => ?_)
        refine go_blk h.1 (is := [.iinc 11 1]) (pc' := 178) (ls' := [some (.inr (.inr (0, 0))), some (.inr (.inr (60, 0))), some (.inl x2), some (.inr (.inr (70, 0))), some (.inr (.inr (71, 0))), some (.inr (.inr (72, 0))), some (.inr (.inr (73, 0))), o7, some (.inl x8), some (.inl x9), some (.inl x10), some (.inl (s.1 + (1 : Int32)))]) (st' := []) (m' := (mset m144 71 0 (ix (((2 : Int32) * x9) + (1 : Int32))) q173)) (by decide +kernel) rfl ?_
        refine go_goto h.1 (off := -73) 105 (by decide +kernel) (by decide) ?_
        exact hn (s.1 + (1 : Int32)) (mset m144 71 0 (ix (((2 : Int32) * x9) + (1 : Int32))) q173) (o7)
      · refine go_goto h.1 (off := 31) 181 (by decide +kernel) (by decide) ?_
        exact hx m144 (o7) (some (.inl x10)) (some (.inl s.1))

def f_L_lay_j181 (L : Nat) (xsc : Nat → Int32) (next : Int32 × Mem → Option (Int32 × Mem)) (exit : Mem → Option (Int32 × Mem)) (x2 : Int32) (x8 : Int32) (x9 : Int32) (m : Mem) : Option (Int32 × Mem) :=
  if inB ((2 : Int32) * x9) 40 = true then
    bnd (f_X6_put (1 : Int32) ((2 : Int32) + ((2 : Int32) * x9)) (m 71 0 (ix ((2 : Int32) * x9))) m) (fun r196 m196 =>
      if r196 = (1 : Int32) then
        if inB (((2 : Int32) * x9) + (1 : Int32)) 40 = true then
          bnd (f_X6_put (1 : Int32) ((3 : Int32) + ((2 : Int32) * x9)) (m196 71 0 (ix (((2 : Int32) * x9) + (1 : Int32)))) m196) (fun r220 m220 =>
            if r220 = (1 : Int32) then
              next ((x9 + (1 : Int32)), m220)
            else
              some ((-99 : Int32), m220))
        else none
      else
        some ((-99 : Int32), m196))
  else none
theorem g_L_lay_j181 {X : XT} (h : MX X method_11_code P_L 3 (some .int)) (next : Int32 × Mem → Option (Int32 × Mem)) (exit : Mem → Option (Int32 × Mem)) (x2 : Int32) (x8 : Int32) (x9 : Int32) (m : Mem) (o7 : Option AV) (o10 : Option AV) (o11 : Option AV) (hn : ∀ (y9 : Int32) (n : Mem) (o7 : Option AV) (o10 : Option AV) (o11 : Option AV), Go X (Em X puI) 42 [some (.inr (.inr (0, 0))), some (.inr (.inr (60, 0))), some (.inl x2), some (.inr (.inr (70, 0))), some (.inr (.inr (71, 0))), some (.inr (.inr (72, 0))), some (.inr (.inr (73, 0))), o7, some (.inl x8), some (.inl y9), o10, o11] [] n (next (y9, n))) (hx : ∀ (n : Mem) (o0 : Option AV) (o1 : Option AV) (o2 : Option AV) (o3 : Option AV) (o4 : Option AV) (o5 : Option AV) (o6 : Option AV) (o7 : Option AV) (o9 : Option AV) (o10 : Option AV) (o11 : Option AV), Go X (Em X puI) 236 [o0, o1, o2, o3, o4, o5, o6, o7, some (.inl x8), o9, o10, o11] [] n (exit (n))) : Go X (Em X puI) 181 [some (.inr (.inr (0, 0))), some (.inr (.inr (60, 0))), some (.inl x2), some (.inr (.inr (70, 0))), some (.inr (.inr (71, 0))), some (.inr (.inr (72, 0))), some (.inr (.inr (73, 0))), o7, some (.inl x8), some (.inl x9), o10, o11] [] m (f_L_lay_j181 (xL X) (xx X) next exit x2 x8 x9 m) := by
  unfold f_L_lay_j181
  refine go_blk h.1 (is := [.aload_n 0, .iconst 1, .iconst 2, .iconst 2, .iload 9, .imul, .iadd, .aload 4, .iconst 2, .iload 9, .imul]) (pc' := 195) (ls' := [some (.inr (.inr (0, 0))), some (.inr (.inr (60, 0))), some (.inl x2), some (.inr (.inr (70, 0))), some (.inr (.inr (71, 0))), some (.inr (.inr (72, 0))), some (.inr (.inr (73, 0))), o7, some (.inl x8), some (.inl x9), o10, o11]) (st' := [.inl ((2 : Int32) * x9), .inr (.inr (71, 0)), .inl ((2 : Int32) + ((2 : Int32) * x9)), .inl (1 : Int32), .inr (.inr (0, 0))]) (m' := m) (by decide +kernel) rfl ?_
  refine go_iald h.1 (by decide +kernel) rfl rfl (fun b195 => ?_)
  show Go X (Em X puI) 196 [some (.inr (.inr (0, 0))), some (.inr (.inr (60, 0))), some (.inl x2), some (.inr (.inr (70, 0))), some (.inr (.inr (71, 0))), some (.inr (.inr (72, 0))), some (.inr (.inr (73, 0))), o7, some (.inl x8), some (.inl x9), o10, o11] [.inl (m 71 0 (ix ((2 : Int32) * x9))), .inl ((2 : Int32) + ((2 : Int32) * x9)), .inl (1 : Int32), .inr (.inr (0, 0))] m _
  refine go_callV h.1 (index := 25) (n := 3) (t := 0) (i := 0) (ci := 6) (nf := 7) (cz := (RX6, TX6, 7)) (as := [.inl (1 : Int32), .inl ((2 : Int32) + ((2 : Int32) * x9)), .inl (m 71 0 (ix ((2 : Int32) * x9)))]) (rest := []) (ctr_X6_put (xZ X) (1 : Int32) ((2 : Int32) + ((2 : Int32) * x9)) (m 71 0 (ix ((2 : Int32) * x9))) m) (by decide +kernel) rfl rfl wd_v_L_25 rfl (h.room (by first | decide | omega) (by decide)) h.cl (Nat.le_of_ble_eq_true rfl) puI_ok rfl (fun r196 m196 _ => ?_)
  show Go X (Em X puI) 199 [some (.inr (.inr (0, 0))), some (.inr (.inr (60, 0))), some (.inl x2), some (.inr (.inr (70, 0))), some (.inr (.inr (71, 0))), some (.inr (.inr (72, 0))), some (.inr (.inr (73, 0))), o7, some (.inl x8), some (.inl x9), o10, o11] [.inl r196] m196 _
  refine go_blk h.1 (is := [.iconst 1]) (pc' := 200) (ls' := [some (.inr (.inr (0, 0))), some (.inr (.inr (60, 0))), some (.inl x2), some (.inr (.inr (70, 0))), some (.inr (.inr (71, 0))), some (.inr (.inr (72, 0))), some (.inr (.inr (73, 0))), o7, some (.inl x8), some (.inl x9), o10, o11]) (st' := [.inl (1 : Int32), .inl r196]) (m' := m196) (by decide +kernel) rfl ?_
  refine go_icmpne h.1 (off := 27) 227 (by decide +kernel) (by decide) (fun c200 => ?_) (fun c200 => ?_)
  · refine go_blk h.1 (is := [.bipush (-99)]) (pc' := 229) (ls' := [some (.inr (.inr (0, 0))), some (.inr (.inr (60, 0))), some (.inl x2), some (.inr (.inr (70, 0))), some (.inr (.inr (71, 0))), some (.inr (.inr (72, 0))), some (.inr (.inr (73, 0))), o7, some (.inl x8), some (.inl x9), o10, o11]) (st' := [.inl (-99 : Int32)]) (m' := m196) (by decide +kernel) rfl ?_
    exact go_iret h.1 h.2.2.2.2 (by decide +kernel)
  · refine go_blk h.1 (is := [.aload_n 0, .iconst 1, .iconst 3, .iconst 2, .iload 9, .imul, .iadd, .aload 4, .iconst 2, .iload 9, .imul, .iconst 1, .iadd]) (pc' := 219) (ls' := [some (.inr (.inr (0, 0))), some (.inr (.inr (60, 0))), some (.inl x2), some (.inr (.inr (70, 0))), some (.inr (.inr (71, 0))), some (.inr (.inr (72, 0))), some (.inr (.inr (73, 0))), o7, some (.inl x8), some (.inl x9), o10, o11]) (st' := [.inl (((2 : Int32) * x9) + (1 : Int32)), .inr (.inr (71, 0)), .inl ((3 : Int32) + ((2 : Int32) * x9)), .inl (1 : Int32), .inr (.inr (0, 0))]) (m' := m196) (by decide +kernel) rfl ?_
    refine go_iald h.1 (by decide +kernel) rfl rfl (fun b219 => ?_)
    show Go X (Em X puI) 220 [some (.inr (.inr (0, 0))), some (.inr (.inr (60, 0))), some (.inl x2), some (.inr (.inr (70, 0))), some (.inr (.inr (71, 0))), some (.inr (.inr (72, 0))), some (.inr (.inr (73, 0))), o7, some (.inl x8), some (.inl x9), o10, o11] [.inl (m196 71 0 (ix (((2 : Int32) * x9) + (1 : Int32)))), .inl ((3 : Int32) + ((2 : Int32) * x9)), .inl (1 : Int32), .inr (.inr (0, 0))] m196 _
    refine go_callV h.1 (index := 25) (n := 3) (t := 0) (i := 0) (ci := 6) (nf := 7) (cz := (RX6, TX6, 7)) (as := [.inl (1 : Int32), .inl ((3 : Int32) + ((2 : Int32) * x9)), .inl (m196 71 0 (ix (((2 : Int32) * x9) + (1 : Int32))))]) (rest := []) (ctr_X6_put (xZ X) (1 : Int32) ((3 : Int32) + ((2 : Int32) * x9)) (m196 71 0 (ix (((2 : Int32) * x9) + (1 : Int32)))) m196) (by decide +kernel) rfl rfl wd_v_L_25 rfl (h.room (by first | decide | omega) (by decide)) h.cl (Nat.le_of_ble_eq_true rfl) puI_ok rfl (fun r220 m220 _ => ?_)
    show Go X (Em X puI) 223 [some (.inr (.inr (0, 0))), some (.inr (.inr (60, 0))), some (.inl x2), some (.inr (.inr (70, 0))), some (.inr (.inr (71, 0))), some (.inr (.inr (72, 0))), some (.inr (.inr (73, 0))), o7, some (.inl x8), some (.inl x9), o10, o11] [.inl r220] m220 _
    refine go_blk h.1 (is := [.iconst 1]) (pc' := 224) (ls' := [some (.inr (.inr (0, 0))), some (.inr (.inr (60, 0))), some (.inl x2), some (.inr (.inr (70, 0))), some (.inr (.inr (71, 0))), some (.inr (.inr (72, 0))), some (.inr (.inr (73, 0))), o7, some (.inl x8), some (.inl x9), o10, o11]) (st' := [.inl (1 : Int32), .inl r220]) (m' := m220) (by decide +kernel) rfl ?_
    refine go_icmpeq h.1 (off := 6) 230 (by decide +kernel) (by decide) (fun c224 => ?_) (fun c224 => ?_)
    · refine go_blk h.1 (is := [.iinc 9 1]) (pc' := 233) (ls' := [some (.inr (.inr (0, 0))), some (.inr (.inr (60, 0))), some (.inl x2), some (.inr (.inr (70, 0))), some (.inr (.inr (71, 0))), some (.inr (.inr (72, 0))), some (.inr (.inr (73, 0))), o7, some (.inl x8), some (.inl (x9 + (1 : Int32))), o10, o11]) (st' := []) (m' := m220) (by decide +kernel) rfl ?_
      refine go_goto h.1 (off := -191) 42 (by decide +kernel) (by decide) ?_
      exact hn (x9 + (1 : Int32)) m220 (o7) (o10) (o11)
    · refine go_blk h.1 (is := [.bipush (-99)]) (pc' := 229) (ls' := [some (.inr (.inr (0, 0))), some (.inr (.inr (60, 0))), some (.inl x2), some (.inr (.inr (70, 0))), some (.inr (.inr (71, 0))), some (.inr (.inr (72, 0))), some (.inr (.inr (73, 0))), o7, some (.inl x8), some (.inl x9), o10, o11]) (st' := [.inl (-99 : Int32)]) (m' := m220) (by decide +kernel) rfl ?_
      exact go_iret h.1 h.2.2.2.2 (by decide +kernel)

def f_L_lay_b42 (L : Nat) (xsc : Nat → Int32) (x2 : Int32) (x8 : Int32) (next : Int32 × Mem → Option (Int32 × Mem)) (exit : Mem → Option (Int32 × Mem)) (s : Int32 × Mem) : Option (Int32 × Mem) :=
  if x8 ≤ s.1 then
    exit (s.2)
  else
    if ¬ (3 : Int32) = 0 then dv (s.1 - s.1 / (3 : Int32) * (3 : Int32)) (fun q56 =>
      bnd (f_L_cell L xsc ((x2 + (1 : Int32)) + q56) s.2) (fun r58 m58 =>
        if ¬ (3 : Int32) = 0 then dv (s.1 / (3 : Int32)) (fun q64 =>
          if inB (1 : Int32) 28 = true then
            bnd (f_L_some L xsc (r58 >>> ((q64 * (5 : Int32)) &&& 31)) (m58 70 0 (ix (1 : Int32))) m58) (fun r81 m81 =>
              if inB ((2 : Int32) * s.1) 40 = true then
                bnd (f_L_some L xsc ((r58 >>> ((q64 * (5 : Int32)) &&& 31)) >>> ((2 : Int32) &&& 31)) (4 : Int32) (mset m81 71 0 (ix ((2 : Int32) * s.1)) r81)) (fun r98 m98 =>
                  if inB (((2 : Int32) * s.1) + (1 : Int32)) 40 = true then
                    lpk (f_L_lay_b105 L xsc x2 x8 s.1 (r58 >>> ((q64 * (5 : Int32)) &&& 31))) fuelN ((0 : Int32), (mset m98 71 0 (ix (((2 : Int32) * s.1) + (1 : Int32))) r98)) (fun t105 =>
                      f_L_lay_j181 L xsc next exit x2 x8 s.1 t105)
                  else none)
              else none)
          else none)
        else none))
    else none
theorem g_L_lay_b42 {X : XT} (h : MX X method_11_code P_L 3 (some .int)) (x2 : Int32) (x8 : Int32) (next : Int32 × Mem → Option (Int32 × Mem)) (exit : Mem → Option (Int32 × Mem)) (hn : ∀ (y9 : Int32) (n : Mem) (o7 : Option AV) (o10 : Option AV) (o11 : Option AV), Go X (Em X puI) 42 [some (.inr (.inr (0, 0))), some (.inr (.inr (60, 0))), some (.inl x2), some (.inr (.inr (70, 0))), some (.inr (.inr (71, 0))), some (.inr (.inr (72, 0))), some (.inr (.inr (73, 0))), o7, some (.inl x8), some (.inl y9), o10, o11] [] n (next (y9, n))) (hx : ∀ (n : Mem) (o0 : Option AV) (o1 : Option AV) (o2 : Option AV) (o3 : Option AV) (o4 : Option AV) (o5 : Option AV) (o6 : Option AV) (o7 : Option AV) (o9 : Option AV) (o10 : Option AV) (o11 : Option AV), Go X (Em X puI) 236 [o0, o1, o2, o3, o4, o5, o6, o7, some (.inl x8), o9, o10, o11] [] n (exit (n))) (s : Int32 × Mem) (o7 : Option AV) (o10 : Option AV) (o11 : Option AV) : Go X (Em X puI) 42 [some (.inr (.inr (0, 0))), some (.inr (.inr (60, 0))), some (.inl x2), some (.inr (.inr (70, 0))), some (.inr (.inr (71, 0))), some (.inr (.inr (72, 0))), some (.inr (.inr (73, 0))), o7, some (.inl x8), some (.inl s.1), o10, o11] [] s.2 (f_L_lay_b42 (xL X) (xx X) x2 x8 next exit s) := by
  unfold f_L_lay_b42
  refine go_blk h.1 (is := [.iload 9, .iload 8]) (pc' := 46) (ls' := [some (.inr (.inr (0, 0))), some (.inr (.inr (60, 0))), some (.inl x2), some (.inr (.inr (70, 0))), some (.inr (.inr (71, 0))), some (.inr (.inr (72, 0))), some (.inr (.inr (73, 0))), o7, some (.inl x8), some (.inl s.1), o10, o11]) (st' := [.inl x8, .inl s.1]) (m' := s.2) (by decide +kernel) rfl ?_
  refine go_icmpge h.1 (off := 190) 236 (by decide +kernel) (by decide) (fun c46 => ?_) (fun c46 => ?_)
  · exact hx s.2 (some (.inr (.inr (0, 0)))) (some (.inr (.inr (60, 0)))) (some (.inl x2)) (some (.inr (.inr (70, 0)))) (some (.inr (.inr (71, 0)))) (some (.inr (.inr (72, 0)))) (some (.inr (.inr (73, 0)))) (o7) (some (.inl s.1)) (o10) (o11)
  · refine go_blk h.1 (is := [.aload_n 1, .iload_n 2, .iconst 1, .iadd, .iload 9, .iconst 3]) (pc' := 56) (ls' := [some (.inr (.inr (0, 0))), some (.inr (.inr (60, 0))), some (.inl x2), some (.inr (.inr (70, 0))), some (.inr (.inr (71, 0))), some (.inr (.inr (72, 0))), some (.inr (.inr (73, 0))), o7, some (.inl x8), some (.inl s.1), o10, o11]) (st' := [.inl (3 : Int32), .inl s.1, .inl (x2 + (1 : Int32)), .inr (.inr (60, 0))]) (m' := s.2) (by decide +kernel) rfl ?_
    refine go_irem h.1 (by decide +kernel) (fun z56 q56 _ => ?_)
    refine go_blk h.1 (is := [.iadd]) (pc' := 58) (ls' := [some (.inr (.inr (0, 0))), some (.inr (.inr (60, 0))), some (.inl x2), some (.inr (.inr (70, 0))), some (.inr (.inr (71, 0))), some (.inr (.inr (72, 0))), some (.inr (.inr (73, 0))), o7, some (.inl x8), some (.inl s.1), o10, o11]) (st' := [.inl ((x2 + (1 : Int32)) + q56), .inr (.inr (60, 0))]) (m' := s.2) (by decide +kernel) rfl ?_
    refine go_callS h.1 (index := 9) (n := 2) (as := [.inr (.inr (60, 0)), .inl ((x2 + (1 : Int32)) + q56)]) (rest := []) (ctr_L_cell (xZ X) ((x2 + (1 : Int32)) + q56) s.2) (by decide +kernel) wd_s_L_9 rfl (h.room (by first | decide | omega) (by decide)) h.cl (Nat.le_of_ble_eq_true rfl) puI_ok rfl (fun r58 m58 _ => ?_)
    show Go X (Em X puI) 61 [some (.inr (.inr (0, 0))), some (.inr (.inr (60, 0))), some (.inl x2), some (.inr (.inr (70, 0))), some (.inr (.inr (71, 0))), some (.inr (.inr (72, 0))), some (.inr (.inr (73, 0))), o7, some (.inl x8), some (.inl s.1), o10, o11] [.inl r58] m58 _
    refine go_blk h.1 (is := [.iload 9, .iconst 3]) (pc' := 64) (ls' := [some (.inr (.inr (0, 0))), some (.inr (.inr (60, 0))), some (.inl x2), some (.inr (.inr (70, 0))), some (.inr (.inr (71, 0))), some (.inr (.inr (72, 0))), some (.inr (.inr (73, 0))), o7, some (.inl x8), some (.inl s.1), o10, o11]) (st' := [.inl (3 : Int32), .inl s.1, .inl r58]) (m' := m58) (by decide +kernel) rfl ?_
    refine go_idiv h.1 (by decide +kernel) (fun z64 q64 _ => ?_)
    refine go_blk h.1 (is := [.iconst 5, .imul, .ishr, .istore 10, .aload 4, .iconst 2, .iload 9, .imul, .iload 10, .aload_n 3, .iconst 1]) (pc' := 80) (ls' := [some (.inr (.inr (0, 0))), some (.inr (.inr (60, 0))), some (.inl x2), some (.inr (.inr (70, 0))), some (.inr (.inr (71, 0))), some (.inr (.inr (72, 0))), some (.inr (.inr (73, 0))), o7, some (.inl x8), some (.inl s.1), some (.inl (r58 >>> ((q64 * (5 : Int32)) &&& 31))), o11]) (st' := [.inl (1 : Int32), .inr (.inr (70, 0)), .inl (r58 >>> ((q64 * (5 : Int32)) &&& 31)), .inl ((2 : Int32) * s.1), .inr (.inr (71, 0))]) (m' := m58) (by decide +kernel) rfl ?_
    refine go_iald h.1 (by decide +kernel) rfl rfl (fun b80 => ?_)
    show Go X (Em X puI) 81 [some (.inr (.inr (0, 0))), some (.inr (.inr (60, 0))), some (.inl x2), some (.inr (.inr (70, 0))), some (.inr (.inr (71, 0))), some (.inr (.inr (72, 0))), some (.inr (.inr (73, 0))), o7, some (.inl x8), some (.inl s.1), some (.inl (r58 >>> ((q64 * (5 : Int32)) &&& 31))), o11] [.inl (m58 70 0 (ix (1 : Int32))), .inl (r58 >>> ((q64 * (5 : Int32)) &&& 31)), .inl ((2 : Int32) * s.1), .inr (.inr (71, 0))] m58 _
    refine go_callS h.1 (index := 15) (n := 2) (as := [.inl (r58 >>> ((q64 * (5 : Int32)) &&& 31)), .inl (m58 70 0 (ix (1 : Int32)))]) (rest := [.inl ((2 : Int32) * s.1), .inr (.inr (71, 0))]) (ctr_L_some (xZ X) (r58 >>> ((q64 * (5 : Int32)) &&& 31)) (m58 70 0 (ix (1 : Int32))) m58) (by decide +kernel) wd_s_L_15 rfl (h.room (by first | decide | omega) (by decide)) h.cl (Nat.le_of_ble_eq_true rfl) puI_ok rfl (fun r81 m81 _ => ?_)
    show Go X (Em X puI) 84 [some (.inr (.inr (0, 0))), some (.inr (.inr (60, 0))), some (.inl x2), some (.inr (.inr (70, 0))), some (.inr (.inr (71, 0))), some (.inr (.inr (72, 0))), some (.inr (.inr (73, 0))), o7, some (.inl x8), some (.inl s.1), some (.inl (r58 >>> ((q64 * (5 : Int32)) &&& 31))), o11] [.inl r81, .inl ((2 : Int32) * s.1), .inr (.inr (71, 0))] m81 _
    refine go_iast h.1 (by decide +kernel) rfl rfl (fun b84 => ?_)
    refine go_blk h.1 (is := [.aload 4, .iconst 2, .iload 9, .imul, .iconst 1, .iadd, .iload 10, .iconst 2, .ishr, .iconst 4]) (pc' := 98) (ls' := [some (.inr (.inr (0, 0))), some (.inr (.inr (60, 0))), some (.inl x2), some (.inr (.inr (70, 0))), some (.inr (.inr (71, 0))), some (.inr (.inr (72, 0))), some (.inr (.inr (73, 0))), o7, some (.inl x8), some (.inl s.1), some (.inl (r58 >>> ((q64 * (5 : Int32)) &&& 31))), o11]) (st' := [.inl (4 : Int32), .inl ((r58 >>> ((q64 * (5 : Int32)) &&& 31)) >>> ((2 : Int32) &&& 31)), .inl (((2 : Int32) * s.1) + (1 : Int32)), .inr (.inr (71, 0))]) (m' := (mset m81 71 0 (ix ((2 : Int32) * s.1)) r81)) (by decide +kernel) rfl ?_
    refine go_callS h.1 (index := 15) (n := 2) (as := [.inl ((r58 >>> ((q64 * (5 : Int32)) &&& 31)) >>> ((2 : Int32) &&& 31)), .inl (4 : Int32)]) (rest := [.inl (((2 : Int32) * s.1) + (1 : Int32)), .inr (.inr (71, 0))]) (ctr_L_some (xZ X) ((r58 >>> ((q64 * (5 : Int32)) &&& 31)) >>> ((2 : Int32) &&& 31)) (4 : Int32) (mset m81 71 0 (ix ((2 : Int32) * s.1)) r81)) (by decide +kernel) wd_s_L_15 rfl (h.room (by first | decide | omega) (by decide)) h.cl (Nat.le_of_ble_eq_true rfl) puI_ok rfl (fun r98 m98 _ => ?_)
    show Go X (Em X puI) 101 [some (.inr (.inr (0, 0))), some (.inr (.inr (60, 0))), some (.inl x2), some (.inr (.inr (70, 0))), some (.inr (.inr (71, 0))), some (.inr (.inr (72, 0))), some (.inr (.inr (73, 0))), o7, some (.inl x8), some (.inl s.1), some (.inl (r58 >>> ((q64 * (5 : Int32)) &&& 31))), o11] [.inl r98, .inl (((2 : Int32) * s.1) + (1 : Int32)), .inr (.inr (71, 0))] m98 _
    refine go_iast h.1 (by decide +kernel) rfl rfl (fun b101 => ?_)
    refine go_blk h.1 (is := [.iconst 0, .istore 11]) (pc' := 105) (ls' := [some (.inr (.inr (0, 0))), some (.inr (.inr (60, 0))), some (.inl x2), some (.inr (.inr (70, 0))), some (.inr (.inr (71, 0))), some (.inr (.inr (72, 0))), some (.inr (.inr (73, 0))), o7, some (.inl x8), some (.inl s.1), some (.inl (r58 >>> ((q64 * (5 : Int32)) &&& 31))), some (.inl (0 : Int32))]) (st' := []) (m' := (mset m98 71 0 (ix (((2 : Int32) * s.1) + (1 : Int32))) r98)) (by decide +kernel) rfl ?_
    refine go_lp1 (hd := fun (y11 : Int32) (n : Mem) o => ∀ (o7 : Option AV), Go X (Em X puI) 105 [some (.inr (.inr (0, 0))), some (.inr (.inr (60, 0))), some (.inl x2), some (.inr (.inr (70, 0))), some (.inr (.inr (71, 0))), some (.inr (.inr (72, 0))), some (.inr (.inr (73, 0))), o7, some (.inl x8), some (.inl s.1), some (.inl (r58 >>> ((q64 * (5 : Int32)) &&& 31))), some (.inl y11)] [] n o) (fun _ _ _ => go_none) (fun y11 n nx_ hn_ => g_L_lay_b105 h x2 x8 s.1 (r58 >>> ((q64 * (5 : Int32)) &&& 31)) nx_ _ hn_ (fun z_105 o7_105 o10_105 o11_105 => ?_) (y11, n)) fuelN (0 : Int32) (mset m98 71 0 (ix (((2 : Int32) * s.1) + (1 : Int32))) r98) (o7)
    exact g_L_lay_j181 h next exit x2 x8 s.1 z_105 (o7_105) (o10_105) (o11_105) hn hx

def f_L_lay (L : Nat) (xsc : Nat → Int32) (x2 : Int32) (m : Mem) : Option (Int32 × Mem) :=
  bnd (f_L_cell L xsc x2 m) (fun r2 m2 =>
    bnd (f_L_some L xsc r2 (10 : Int32) m2) (fun r11 m11 =>
      bnd (f_X6_sheet (1 : Int32) (0 : Int32) (44 : Int32) m11) (fun r21 m21 =>
        if r21 = (1 : Int32) then
          bnd (f_L_begin L xsc m21) (fun _ m36 =>
            lpk (f_L_lay_b42 L xsc x2 r11) fuelN ((0 : Int32), m36) (fun t42 =>
              some (r11, t42)))
        else
          some ((-99 : Int32), m21))))
theorem g_L_lay {X : XT} (h : MX X method_11_code P_L 3 (some .int)) (x2 : Int32) (m : Mem) : Go X (Em X puI) 0 [some (.inr (.inr (0, 0))), some (.inr (.inr (60, 0))), some (.inl x2), some (.inr (.inr (70, 0))), some (.inr (.inr (71, 0))), some (.inr (.inr (72, 0))), some (.inr (.inr (73, 0))), none, none, none, none, none] [] m (f_L_lay (xL X) (xx X) x2 m) := by
  unfold f_L_lay
  refine go_blk h.1 (is := [.aload_n 1, .iload_n 2]) (pc' := 2) (ls' := [some (.inr (.inr (0, 0))), some (.inr (.inr (60, 0))), some (.inl x2), some (.inr (.inr (70, 0))), some (.inr (.inr (71, 0))), some (.inr (.inr (72, 0))), some (.inr (.inr (73, 0))), none, none, none, none, none]) (st' := [.inl x2, .inr (.inr (60, 0))]) (m' := m) (by decide +kernel) rfl ?_
  refine go_callS h.1 (index := 9) (n := 2) (as := [.inr (.inr (60, 0)), .inl x2]) (rest := []) (ctr_L_cell (xZ X) x2 m) (by decide +kernel) wd_s_L_9 rfl (h.room (by first | decide | omega) (by decide)) h.cl (Nat.le_of_ble_eq_true rfl) puI_ok rfl (fun r2 m2 _ => ?_)
  show Go X (Em X puI) 5 [some (.inr (.inr (0, 0))), some (.inr (.inr (60, 0))), some (.inl x2), some (.inr (.inr (70, 0))), some (.inr (.inr (71, 0))), some (.inr (.inr (72, 0))), some (.inr (.inr (73, 0))), none, none, none, none, none] [.inl r2] m2 _
  refine go_blk h.1 (is := [.istore 7, .iload 7, .bipush 10]) (pc' := 11) (ls' := [some (.inr (.inr (0, 0))), some (.inr (.inr (60, 0))), some (.inl x2), some (.inr (.inr (70, 0))), some (.inr (.inr (71, 0))), some (.inr (.inr (72, 0))), some (.inr (.inr (73, 0))), some (.inl r2), none, none, none, none]) (st' := [.inl (10 : Int32), .inl r2]) (m' := m2) (by decide +kernel) rfl ?_
  refine go_callS h.1 (index := 15) (n := 2) (as := [.inl r2, .inl (10 : Int32)]) (rest := []) (ctr_L_some (xZ X) r2 (10 : Int32) m2) (by decide +kernel) wd_s_L_15 rfl (h.room (by first | decide | omega) (by decide)) h.cl (Nat.le_of_ble_eq_true rfl) puI_ok rfl (fun r11 m11 _ => ?_)
  show Go X (Em X puI) 14 [some (.inr (.inr (0, 0))), some (.inr (.inr (60, 0))), some (.inl x2), some (.inr (.inr (70, 0))), some (.inr (.inr (71, 0))), some (.inr (.inr (72, 0))), some (.inr (.inr (73, 0))), some (.inl r2), none, none, none, none] [.inl r11] m11 _
  refine go_blk h.1 (is := [.istore 8, .aload_n 0, .iconst 1, .iconst 0, .bipush 44]) (pc' := 21) (ls' := [some (.inr (.inr (0, 0))), some (.inr (.inr (60, 0))), some (.inl x2), some (.inr (.inr (70, 0))), some (.inr (.inr (71, 0))), some (.inr (.inr (72, 0))), some (.inr (.inr (73, 0))), some (.inl r2), some (.inl r11), none, none, none]) (st' := [.inl (44 : Int32), .inl (0 : Int32), .inl (1 : Int32), .inr (.inr (0, 0))]) (m' := m11) (by decide +kernel) rfl ?_
  refine go_callV h.1 (index := 19) (n := 3) (t := 0) (i := 0) (ci := 6) (nf := 7) (cz := (RX6, TX6, 7)) (as := [.inl (1 : Int32), .inl (0 : Int32), .inl (44 : Int32)]) (rest := []) (ctr_X6_sheet (xZ X) (1 : Int32) (0 : Int32) (44 : Int32) m11) (by decide +kernel) rfl rfl wd_v_L_19 rfl (h.room (by first | decide | omega) (by decide)) h.cl (Nat.le_of_ble_eq_true rfl) puI_ok rfl (fun r21 m21 _ => ?_)
  show Go X (Em X puI) 24 [some (.inr (.inr (0, 0))), some (.inr (.inr (60, 0))), some (.inl x2), some (.inr (.inr (70, 0))), some (.inr (.inr (71, 0))), some (.inr (.inr (72, 0))), some (.inr (.inr (73, 0))), some (.inl r2), some (.inl r11), none, none, none] [.inl r21] m21 _
  refine go_blk h.1 (is := [.iconst 1]) (pc' := 25) (ls' := [some (.inr (.inr (0, 0))), some (.inr (.inr (60, 0))), some (.inl x2), some (.inr (.inr (70, 0))), some (.inr (.inr (71, 0))), some (.inr (.inr (72, 0))), some (.inr (.inr (73, 0))), some (.inl r2), some (.inl r11), none, none, none]) (st' := [.inl (1 : Int32), .inl r21]) (m' := m21) (by decide +kernel) rfl ?_
  refine go_icmpeq h.1 (off := 6) 31 (by decide +kernel) (by decide) (fun c25 => ?_) (fun c25 => ?_)
  · refine go_blk h.1 (is := [.aload_n 3, .aload 5, .aload 6]) (pc' := 36) (ls' := [some (.inr (.inr (0, 0))), some (.inr (.inr (60, 0))), some (.inl x2), some (.inr (.inr (70, 0))), some (.inr (.inr (71, 0))), some (.inr (.inr (72, 0))), some (.inr (.inr (73, 0))), some (.inl r2), some (.inl r11), none, none, none]) (st' := [.inr (.inr (73, 0)), .inr (.inr (72, 0)), .inr (.inr (70, 0))]) (m' := m21) (by decide +kernel) rfl ?_
    refine go_callS h.1 (index := 45) (n := 3) (as := [.inr (.inr (70, 0)), .inr (.inr (72, 0)), .inr (.inr (73, 0))]) (rest := []) (ctr_L_begin (xZ X) m21) (by decide +kernel) wd_s_L_45 rfl (h.room (by first | decide | omega) (by decide)) h.cl (Nat.le_of_ble_eq_true rfl) puV_ok rfl (fun r36 m36 _ => ?_)
    show Go X (Em X puI) 39 [some (.inr (.inr (0, 0))), some (.inr (.inr (60, 0))), some (.inl x2), some (.inr (.inr (70, 0))), some (.inr (.inr (71, 0))), some (.inr (.inr (72, 0))), some (.inr (.inr (73, 0))), some (.inl r2), some (.inl r11), none, none, none] [] m36 _
    refine go_blk h.1 (is := [.iconst 0, .istore 9]) (pc' := 42) (ls' := [some (.inr (.inr (0, 0))), some (.inr (.inr (60, 0))), some (.inl x2), some (.inr (.inr (70, 0))), some (.inr (.inr (71, 0))), some (.inr (.inr (72, 0))), some (.inr (.inr (73, 0))), some (.inl r2), some (.inl r11), some (.inl (0 : Int32)), none, none]) (st' := []) (m' := m36) (by decide +kernel) rfl ?_
    refine go_lp1 (hd := fun (y9 : Int32) (n : Mem) o => ∀ (o7 : Option AV) (o10 : Option AV) (o11 : Option AV), Go X (Em X puI) 42 [some (.inr (.inr (0, 0))), some (.inr (.inr (60, 0))), some (.inl x2), some (.inr (.inr (70, 0))), some (.inr (.inr (71, 0))), some (.inr (.inr (72, 0))), some (.inr (.inr (73, 0))), o7, some (.inl r11), some (.inl y9), o10, o11] [] n o) (fun _ _ _ _ _ => go_none) (fun y9 n nx_ hn_ => g_L_lay_b42 h x2 r11 nx_ _ hn_ (fun z_42 o0_42 o1_42 o2_42 o3_42 o4_42 o5_42 o6_42 o7_42 o9_42 o10_42 o11_42 => ?_) (y9, n)) fuelN (0 : Int32) m36 (some (.inl r2)) (none) (none)
    refine go_blk h.1 (is := [.iload 8]) (pc' := 238) (ls' := [o0_42, o1_42, o2_42, o3_42, o4_42, o5_42, o6_42, o7_42, some (.inl r11), o9_42, o10_42, o11_42]) (st' := [.inl r11]) (m' := z_42) (by decide +kernel) rfl ?_
    exact go_iret h.1 h.2.2.2.2 (by decide +kernel)
  · refine go_blk h.1 (is := [.bipush (-99)]) (pc' := 30) (ls' := [some (.inr (.inr (0, 0))), some (.inr (.inr (60, 0))), some (.inl x2), some (.inr (.inr (70, 0))), some (.inr (.inr (71, 0))), some (.inr (.inr (72, 0))), some (.inr (.inr (73, 0))), some (.inl r2), some (.inl r11), none, none, none]) (st' := [.inl (-99 : Int32)]) (m' := m21) (by decide +kernel) rfl ?_
    exact go_iret h.1 h.2.2.2.2 (by decide +kernel)
theorem ctr_L_lay (Z : ZT) (x2 : Int32) (m : Mem) : Ctr Z yL_lay method_11_code 12 (some .int) 3 puI [.inr (.inr (0, 0)), .inr (.inr (60, 0)), .inl x2, .inr (.inr (70, 0)), .inr (.inr (71, 0)), .inr (.inr (72, 0)), .inr (.inr (73, 0))] m (f_L_lay (zL Z) (zx Z) x2 m) :=
  ctr_of (P := P_L) (by decide +kernel) rfl pt_L rfl rfl (fun X hC hZ hR h0 h1 hr => by subst hZ; exact g_L_lay ⟨hC, hR, h0, h1, hr⟩ x2 m)

def f_L_go_b10 (L : Nat) (xsc : Nat → Int32) (x2 : Int32) (next : Int32 × Mem → Option (Int32 × Mem)) (exit : Mem → Option (Int32 × Mem)) (s : Int32 × Mem) : Option (Int32 × Mem) :=
  if x2 ≤ s.1 then
    exit (s.2)
  else
    if inB ((2 : Int32) * s.1) 40 = true then
      if inB (((2 : Int32) * s.1) + (1 : Int32)) 40 = true then
        bnd (f_L_pass L xsc (s.2 71 0 (ix ((2 : Int32) * s.1))) (s.2 71 0 (ix (((2 : Int32) * s.1) + (1 : Int32)))) s.2) (fun r34 m34 =>
          if r34 = 0 then
            some (s.1, m34)
          else
            next ((s.1 + (1 : Int32)), m34))
      else none
    else none
theorem g_L_go_b10 {X : XT} (h : MX X method_10_code P_L 3 (some .int)) (x2 : Int32) (next : Int32 × Mem → Option (Int32 × Mem)) (exit : Mem → Option (Int32 × Mem)) (hn : ∀ (y5 : Int32) (n : Mem), Go X (Em X puI) 10 [some (.inr (.inr (70, 0))), some (.inr (.inr (71, 0))), some (.inl x2), some (.inr (.inr (72, 0))), some (.inr (.inr (73, 0))), some (.inl y5)] [] n (next (y5, n))) (hx : ∀ (n : Mem) (o0 : Option AV) (o1 : Option AV) (o2 : Option AV) (o3 : Option AV) (o4 : Option AV) (o5 : Option AV), Go X (Em X puI) 49 [o0, o1, o2, o3, o4, o5] [] n (exit (n))) (s : Int32 × Mem) : Go X (Em X puI) 10 [some (.inr (.inr (70, 0))), some (.inr (.inr (71, 0))), some (.inl x2), some (.inr (.inr (72, 0))), some (.inr (.inr (73, 0))), some (.inl s.1)] [] s.2 (f_L_go_b10 (xL X) (xx X) x2 next exit s) := by
  unfold f_L_go_b10
  refine go_blk h.1 (is := [.iload 5, .iload_n 2]) (pc' := 13) (ls' := [some (.inr (.inr (70, 0))), some (.inr (.inr (71, 0))), some (.inl x2), some (.inr (.inr (72, 0))), some (.inr (.inr (73, 0))), some (.inl s.1)]) (st' := [.inl x2, .inl s.1]) (m' := s.2) (by decide +kernel) rfl ?_
  refine go_icmpge h.1 (off := 36) 49 (by decide +kernel) (by decide) (fun c13 => ?_) (fun c13 => ?_)
  · exact hx s.2 (some (.inr (.inr (70, 0)))) (some (.inr (.inr (71, 0)))) (some (.inl x2)) (some (.inr (.inr (72, 0)))) (some (.inr (.inr (73, 0)))) (some (.inl s.1))
  · refine go_blk h.1 (is := [.aload_n 0, .aload_n 1, .iconst 2, .iload 5, .imul]) (pc' := 22) (ls' := [some (.inr (.inr (70, 0))), some (.inr (.inr (71, 0))), some (.inl x2), some (.inr (.inr (72, 0))), some (.inr (.inr (73, 0))), some (.inl s.1)]) (st' := [.inl ((2 : Int32) * s.1), .inr (.inr (71, 0)), .inr (.inr (70, 0))]) (m' := s.2) (by decide +kernel) rfl ?_
    refine go_iald h.1 (by decide +kernel) rfl rfl (fun b22 => ?_)
    show Go X (Em X puI) 23 [some (.inr (.inr (70, 0))), some (.inr (.inr (71, 0))), some (.inl x2), some (.inr (.inr (72, 0))), some (.inr (.inr (73, 0))), some (.inl s.1)] [.inl (s.2 71 0 (ix ((2 : Int32) * s.1))), .inr (.inr (70, 0))] s.2 _
    refine go_blk h.1 (is := [.aload_n 1, .iconst 2, .iload 5, .imul, .iconst 1, .iadd]) (pc' := 30) (ls' := [some (.inr (.inr (70, 0))), some (.inr (.inr (71, 0))), some (.inl x2), some (.inr (.inr (72, 0))), some (.inr (.inr (73, 0))), some (.inl s.1)]) (st' := [.inl (((2 : Int32) * s.1) + (1 : Int32)), .inr (.inr (71, 0)), .inl (s.2 71 0 (ix ((2 : Int32) * s.1))), .inr (.inr (70, 0))]) (m' := s.2) (by decide +kernel) rfl ?_
    refine go_iald h.1 (by decide +kernel) rfl rfl (fun b30 => ?_)
    show Go X (Em X puI) 31 [some (.inr (.inr (70, 0))), some (.inr (.inr (71, 0))), some (.inl x2), some (.inr (.inr (72, 0))), some (.inr (.inr (73, 0))), some (.inl s.1)] [.inl (s.2 71 0 (ix (((2 : Int32) * s.1) + (1 : Int32)))), .inl (s.2 71 0 (ix ((2 : Int32) * s.1))), .inr (.inr (70, 0))] s.2 _
    refine go_blk h.1 (is := [.aload_n 3, .aload 4]) (pc' := 34) (ls' := [some (.inr (.inr (70, 0))), some (.inr (.inr (71, 0))), some (.inl x2), some (.inr (.inr (72, 0))), some (.inr (.inr (73, 0))), some (.inl s.1)]) (st' := [.inr (.inr (73, 0)), .inr (.inr (72, 0)), .inl (s.2 71 0 (ix (((2 : Int32) * s.1) + (1 : Int32)))), .inl (s.2 71 0 (ix ((2 : Int32) * s.1))), .inr (.inr (70, 0))]) (m' := s.2) (by decide +kernel) rfl ?_
    refine go_callS h.1 (index := 49) (n := 5) (as := [.inr (.inr (70, 0)), .inl (s.2 71 0 (ix ((2 : Int32) * s.1))), .inl (s.2 71 0 (ix (((2 : Int32) * s.1) + (1 : Int32)))), .inr (.inr (72, 0)), .inr (.inr (73, 0))]) (rest := []) (ctr_L_pass (xZ X) (s.2 71 0 (ix ((2 : Int32) * s.1))) (s.2 71 0 (ix (((2 : Int32) * s.1) + (1 : Int32)))) s.2) (by decide +kernel) wd_s_L_49 rfl (h.room (by first | decide | omega) (by decide)) h.cl (Nat.le_of_ble_eq_true rfl) puI_ok rfl (fun r34 m34 _ => ?_)
    show Go X (Em X puI) 37 [some (.inr (.inr (70, 0))), some (.inr (.inr (71, 0))), some (.inl x2), some (.inr (.inr (72, 0))), some (.inr (.inr (73, 0))), some (.inl s.1)] [.inl r34] m34 _
    refine go_ifne h.1 (off := 6) 43 (by decide +kernel) (by decide) (fun c37 => ?_) (fun c37 => ?_)
    · refine go_blk h.1 (is := [.iinc 5 1]) (pc' := 46) (ls' := [some (.inr (.inr (70, 0))), some (.inr (.inr (71, 0))), some (.inl x2), some (.inr (.inr (72, 0))), some (.inr (.inr (73, 0))), some (.inl (s.1 + (1 : Int32)))]) (st' := []) (m' := m34) (by decide +kernel) rfl ?_
      refine go_goto h.1 (off := -36) 10 (by decide +kernel) (by decide) ?_
      exact hn (s.1 + (1 : Int32)) m34
    · refine go_blk h.1 (is := [.iload 5]) (pc' := 42) (ls' := [some (.inr (.inr (70, 0))), some (.inr (.inr (71, 0))), some (.inl x2), some (.inr (.inr (72, 0))), some (.inr (.inr (73, 0))), some (.inl s.1)]) (st' := [.inl s.1]) (m' := m34) (by decide +kernel) rfl ?_
      exact go_iret h.1 h.2.2.2.2 (by decide +kernel)

def f_L_go (L : Nat) (xsc : Nat → Int32) (x2 : Int32) (m : Mem) : Option (Int32 × Mem) :=
  bnd (f_L_begin L xsc m) (fun _ m4 =>
    lpk (f_L_go_b10 L xsc x2) fuelN ((0 : Int32), m4) (fun t10 =>
      some ((-9 : Int32), t10)))
theorem g_L_go {X : XT} (h : MX X method_10_code P_L 3 (some .int)) (x2 : Int32) (m : Mem) : Go X (Em X puI) 0 [some (.inr (.inr (70, 0))), some (.inr (.inr (71, 0))), some (.inl x2), some (.inr (.inr (72, 0))), some (.inr (.inr (73, 0))), none] [] m (f_L_go (xL X) (xx X) x2 m) := by
  unfold f_L_go
  refine go_blk h.1 (is := [.aload_n 0, .aload_n 3, .aload 4]) (pc' := 4) (ls' := [some (.inr (.inr (70, 0))), some (.inr (.inr (71, 0))), some (.inl x2), some (.inr (.inr (72, 0))), some (.inr (.inr (73, 0))), none]) (st' := [.inr (.inr (73, 0)), .inr (.inr (72, 0)), .inr (.inr (70, 0))]) (m' := m) (by decide +kernel) rfl ?_
  refine go_callS h.1 (index := 45) (n := 3) (as := [.inr (.inr (70, 0)), .inr (.inr (72, 0)), .inr (.inr (73, 0))]) (rest := []) (ctr_L_begin (xZ X) m) (by decide +kernel) wd_s_L_45 rfl (h.room (by first | decide | omega) (by decide)) h.cl (Nat.le_of_ble_eq_true rfl) puV_ok rfl (fun r4 m4 _ => ?_)
  show Go X (Em X puI) 7 [some (.inr (.inr (70, 0))), some (.inr (.inr (71, 0))), some (.inl x2), some (.inr (.inr (72, 0))), some (.inr (.inr (73, 0))), none] [] m4 _
  refine go_blk h.1 (is := [.iconst 0, .istore 5]) (pc' := 10) (ls' := [some (.inr (.inr (70, 0))), some (.inr (.inr (71, 0))), some (.inl x2), some (.inr (.inr (72, 0))), some (.inr (.inr (73, 0))), some (.inl (0 : Int32))]) (st' := []) (m' := m4) (by decide +kernel) rfl ?_
  refine go_lp1 (hd := fun (y5 : Int32) (n : Mem) o => Go X (Em X puI) 10 [some (.inr (.inr (70, 0))), some (.inr (.inr (71, 0))), some (.inl x2), some (.inr (.inr (72, 0))), some (.inr (.inr (73, 0))), some (.inl y5)] [] n o) (fun _ _ => go_none) (fun y5 n nx_ hn_ => g_L_go_b10 h x2 nx_ _ hn_ (fun z_10 o0_10 o1_10 o2_10 o3_10 o4_10 o5_10 => ?_) (y5, n)) fuelN (0 : Int32) m4
  refine go_blk h.1 (is := [.bipush (-9)]) (pc' := 51) (ls' := [o0_10, o1_10, o2_10, o3_10, o4_10, o5_10]) (st' := [.inl (-9 : Int32)]) (m' := z_10) (by decide +kernel) rfl ?_
  exact go_iret h.1 h.2.2.2.2 (by decide +kernel)
theorem ctr_L_go (Z : ZT) (x2 : Int32) (m : Mem) : Ctr Z yL_go method_10_code 6 (some .int) 3 puI [.inr (.inr (70, 0)), .inr (.inr (71, 0)), .inl x2, .inr (.inr (72, 0)), .inr (.inr (73, 0))] m (f_L_go (zL Z) (zx Z) x2 m) :=
  ctr_of (P := P_L) (by decide +kernel) rfl pt_L rfl rfl (fun X hC hZ hR h0 h1 hr => by subst hZ; exact g_L_go ⟨hC, hR, h0, h1, hr⟩ x2 m)

def f_L_change_j81 (L : Nat) (xsc : Nat → Int32) (s0 : Int32) (s1 : Int32) (x3 : Int32) (x4 : Int32) (x5 : Int32) (m : Mem) : Option (Int32 × Mem) :=
  bnd (f_L_some L xsc s1 s0 m) (fun r81 m81 =>
    bnd (f_X6_scales x3 x4 m81) (fun r90 m90 =>
      if inB ((13 : Int32) + x3) 28 = true then
        if r90 = (m90 70 0 (ix ((13 : Int32) + x3))) then
          bnd (f_X6_hear x5 m90) (fun r105 m105 =>
            if inB (2 : Int32) 28 = true then
              if r105 = (m105 70 0 (ix (2 : Int32))) then
                bnd (f_X6_dear r81 m105) (fun r117 m117 =>
                  if inB (0 : Int32) 28 = true then
                    if r117 = (m117 70 0 (ix (0 : Int32))) then
                      if inB ((13 : Int32) + x3) 28 = true then
                        if inB (2 : Int32) 28 = true then
                          if inB (0 : Int32) 28 = true then
                            some ((1 : Int32), (mset (mset (mset m117 70 0 (ix ((13 : Int32) + x3)) x4) 70 0 (ix (2 : Int32)) x5) 70 0 (ix (0 : Int32)) r81))
                          else none
                        else none
                      else none
                    else
                      some ((0 : Int32), m117)
                  else none)
              else
                some ((0 : Int32), m105)
            else none)
        else
          some ((0 : Int32), m90)
      else none))
theorem g_L_change_j81 {X : XT} (h : MX X method_5_code P_L 2 (some .boolean)) (s0 : Int32) (s1 : Int32) (x3 : Int32) (x4 : Int32) (x5 : Int32) (m : Mem) (o1 : Option AV) (o6 : Option AV) : Go X (Em X puI) 81 [some (.inr (.inr (0, 0))), o1, some (.inr (.inr (70, 0))), some (.inl x3), some (.inl x4), some (.inl x5), o6] [.inl s0, .inl s1] m (f_L_change_j81 (xL X) (xx X) s0 s1 x3 x4 x5 m) := by
  unfold f_L_change_j81
  refine go_callS h.1 (index := 15) (n := 2) (as := [.inl s1, .inl s0]) (rest := []) (ctr_L_some (xZ X) s1 s0 m) (by decide +kernel) wd_s_L_15 rfl (h.room (by first | decide | omega) (by decide)) h.cl (Nat.le_of_ble_eq_true rfl) puI_ok rfl (fun r81 m81 _ => ?_)
  show Go X (Em X puI) 84 [some (.inr (.inr (0, 0))), o1, some (.inr (.inr (70, 0))), some (.inl x3), some (.inl x4), some (.inl x5), o6] [.inl r81] m81 _
  refine go_blk h.1 (is := [.istore 6, .aload_n 0, .iload_n 3, .iload 4]) (pc' := 90) (ls' := [some (.inr (.inr (0, 0))), o1, some (.inr (.inr (70, 0))), some (.inl x3), some (.inl x4), some (.inl x5), some (.inl r81)]) (st' := [.inl x4, .inl x3, .inr (.inr (0, 0))]) (m' := m81) (by decide +kernel) rfl ?_
  refine go_callV h.1 (index := 28) (n := 2) (t := 0) (i := 0) (ci := 6) (nf := 7) (cz := (RX6, TX6, 7)) (as := [.inl x3, .inl x4]) (rest := []) (ctr_X6_scales (xZ X) x3 x4 m81) (by decide +kernel) rfl rfl wd_v_L_28 rfl (h.room (by first | decide | omega) (by decide)) h.cl (Nat.le_of_ble_eq_true rfl) puI_ok rfl (fun r90 m90 _ => ?_)
  show Go X (Em X puI) 93 [some (.inr (.inr (0, 0))), o1, some (.inr (.inr (70, 0))), some (.inl x3), some (.inl x4), some (.inl x5), some (.inl r81)] [.inl r90] m90 _
  refine go_blk h.1 (is := [.aload_n 2, .bipush 13, .iload_n 3, .iadd]) (pc' := 98) (ls' := [some (.inr (.inr (0, 0))), o1, some (.inr (.inr (70, 0))), some (.inl x3), some (.inl x4), some (.inl x5), some (.inl r81)]) (st' := [.inl ((13 : Int32) + x3), .inr (.inr (70, 0)), .inl r90]) (m' := m90) (by decide +kernel) rfl ?_
  refine go_iald h.1 (by decide +kernel) rfl rfl (fun b98 => ?_)
  show Go X (Em X puI) 99 [some (.inr (.inr (0, 0))), o1, some (.inr (.inr (70, 0))), some (.inl x3), some (.inl x4), some (.inl x5), some (.inl r81)] [.inl (m90 70 0 (ix ((13 : Int32) + x3))), .inl r90] m90 _
  refine go_icmpne h.1 (off := 27) 126 (by decide +kernel) (by decide) (fun c99 => ?_) (fun c99 => ?_)
  · refine go_blk h.1 (is := [.iconst 0]) (pc' := 127) (ls' := [some (.inr (.inr (0, 0))), o1, some (.inr (.inr (70, 0))), some (.inl x3), some (.inl x4), some (.inl x5), some (.inl r81)]) (st' := [.inl (0 : Int32)]) (m' := m90) (by decide +kernel) rfl ?_
    exact go_zret h.1 h.2.2.2.2 (Or.inl rfl) (by decide +kernel)
  · refine go_blk h.1 (is := [.aload_n 0, .iload 5]) (pc' := 105) (ls' := [some (.inr (.inr (0, 0))), o1, some (.inr (.inr (70, 0))), some (.inl x3), some (.inl x4), some (.inl x5), some (.inl r81)]) (st' := [.inl x5, .inr (.inr (0, 0))]) (m' := m90) (by decide +kernel) rfl ?_
    refine go_callV h.1 (index := 31) (n := 1) (t := 0) (i := 0) (ci := 6) (nf := 7) (cz := (RX6, TX6, 7)) (as := [.inl x5]) (rest := []) (ctr_X6_hear (xZ X) x5 m90) (by decide +kernel) rfl rfl wd_v_L_31 rfl (h.room (by first | decide | omega) (by decide)) h.cl (Nat.le_of_ble_eq_true rfl) puI_ok rfl (fun r105 m105 _ => ?_)
    show Go X (Em X puI) 108 [some (.inr (.inr (0, 0))), o1, some (.inr (.inr (70, 0))), some (.inl x3), some (.inl x4), some (.inl x5), some (.inl r81)] [.inl r105] m105 _
    refine go_blk h.1 (is := [.aload_n 2, .iconst 2]) (pc' := 110) (ls' := [some (.inr (.inr (0, 0))), o1, some (.inr (.inr (70, 0))), some (.inl x3), some (.inl x4), some (.inl x5), some (.inl r81)]) (st' := [.inl (2 : Int32), .inr (.inr (70, 0)), .inl r105]) (m' := m105) (by decide +kernel) rfl ?_
    refine go_iald h.1 (by decide +kernel) rfl rfl (fun b110 => ?_)
    show Go X (Em X puI) 111 [some (.inr (.inr (0, 0))), o1, some (.inr (.inr (70, 0))), some (.inl x3), some (.inl x4), some (.inl x5), some (.inl r81)] [.inl (m105 70 0 (ix (2 : Int32))), .inl r105] m105 _
    refine go_icmpne h.1 (off := 15) 126 (by decide +kernel) (by decide) (fun c111 => ?_) (fun c111 => ?_)
    · refine go_blk h.1 (is := [.iconst 0]) (pc' := 127) (ls' := [some (.inr (.inr (0, 0))), o1, some (.inr (.inr (70, 0))), some (.inl x3), some (.inl x4), some (.inl x5), some (.inl r81)]) (st' := [.inl (0 : Int32)]) (m' := m105) (by decide +kernel) rfl ?_
      exact go_zret h.1 h.2.2.2.2 (Or.inl rfl) (by decide +kernel)
    · refine go_blk h.1 (is := [.aload_n 0, .iload 6]) (pc' := 117) (ls' := [some (.inr (.inr (0, 0))), o1, some (.inr (.inr (70, 0))), some (.inl x3), some (.inl x4), some (.inl x5), some (.inl r81)]) (st' := [.inl r81, .inr (.inr (0, 0))]) (m' := m105) (by decide +kernel) rfl ?_
      refine go_callV h.1 (index := 35) (n := 1) (t := 0) (i := 0) (ci := 6) (nf := 7) (cz := (RX6, TX6, 7)) (as := [.inl r81]) (rest := []) (ctr_X6_dear (xZ X) r81 m105) (by decide +kernel) rfl rfl wd_v_L_35 rfl (h.room (by first | decide | omega) (by decide)) h.cl (Nat.le_of_ble_eq_true rfl) puI_ok rfl (fun r117 m117 _ => ?_)
      show Go X (Em X puI) 120 [some (.inr (.inr (0, 0))), o1, some (.inr (.inr (70, 0))), some (.inl x3), some (.inl x4), some (.inl x5), some (.inl r81)] [.inl r117] m117 _
      refine go_blk h.1 (is := [.aload_n 2, .iconst 0]) (pc' := 122) (ls' := [some (.inr (.inr (0, 0))), o1, some (.inr (.inr (70, 0))), some (.inl x3), some (.inl x4), some (.inl x5), some (.inl r81)]) (st' := [.inl (0 : Int32), .inr (.inr (70, 0)), .inl r117]) (m' := m117) (by decide +kernel) rfl ?_
      refine go_iald h.1 (by decide +kernel) rfl rfl (fun b122 => ?_)
      show Go X (Em X puI) 123 [some (.inr (.inr (0, 0))), o1, some (.inr (.inr (70, 0))), some (.inl x3), some (.inl x4), some (.inl x5), some (.inl r81)] [.inl (m117 70 0 (ix (0 : Int32))), .inl r117] m117 _
      refine go_icmpeq h.1 (off := 5) 128 (by decide +kernel) (by decide) (fun c123 => ?_) (fun c123 => ?_)
      · refine go_blk h.1 (is := [.aload_n 2, .bipush 13, .iload_n 3, .iadd, .iload 4]) (pc' := 135) (ls' := [some (.inr (.inr (0, 0))), o1, some (.inr (.inr (70, 0))), some (.inl x3), some (.inl x4), some (.inl x5), some (.inl r81)]) (st' := [.inl x4, .inl ((13 : Int32) + x3), .inr (.inr (70, 0))]) (m' := m117) (by decide +kernel) rfl ?_
        refine go_iast h.1 (by decide +kernel) rfl rfl (fun b135 => ?_)
        refine go_blk h.1 (is := [.aload_n 2, .iconst 2, .iload 5]) (pc' := 140) (ls' := [some (.inr (.inr (0, 0))), o1, some (.inr (.inr (70, 0))), some (.inl x3), some (.inl x4), some (.inl x5), some (.inl r81)]) (st' := [.inl x5, .inl (2 : Int32), .inr (.inr (70, 0))]) (m' := (mset m117 70 0 (ix ((13 : Int32) + x3)) x4)) (by decide +kernel) rfl ?_
        refine go_iast h.1 (by decide +kernel) rfl rfl (fun b140 => ?_)
        refine go_blk h.1 (is := [.aload_n 2, .iconst 0, .iload 6]) (pc' := 145) (ls' := [some (.inr (.inr (0, 0))), o1, some (.inr (.inr (70, 0))), some (.inl x3), some (.inl x4), some (.inl x5), some (.inl r81)]) (st' := [.inl r81, .inl (0 : Int32), .inr (.inr (70, 0))]) (m' := (mset (mset m117 70 0 (ix ((13 : Int32) + x3)) x4) 70 0 (ix (2 : Int32)) x5)) (by decide +kernel) rfl ?_
        refine go_iast h.1 (by decide +kernel) rfl rfl (fun b145 => ?_)
        refine go_blk h.1 (is := [.iconst 1]) (pc' := 147) (ls' := [some (.inr (.inr (0, 0))), o1, some (.inr (.inr (70, 0))), some (.inl x3), some (.inl x4), some (.inl x5), some (.inl r81)]) (st' := [.inl (1 : Int32)]) (m' := (mset (mset (mset m117 70 0 (ix ((13 : Int32) + x3)) x4) 70 0 (ix (2 : Int32)) x5) 70 0 (ix (0 : Int32)) r81)) (by decide +kernel) rfl ?_
        exact go_zret h.1 h.2.2.2.2 (Or.inr rfl) (by decide +kernel)
      · refine go_blk h.1 (is := [.iconst 0]) (pc' := 127) (ls' := [some (.inr (.inr (0, 0))), o1, some (.inr (.inr (70, 0))), some (.inl x3), some (.inl x4), some (.inl x5), some (.inl r81)]) (st' := [.inl (0 : Int32)]) (m' := m117) (by decide +kernel) rfl ?_
        exact go_zret h.1 h.2.2.2.2 (Or.inl rfl) (by decide +kernel)

def f_L_change_j58 (L : Nat) (xsc : Nat → Int32) (s0 : Int32) (x1 : Int32) (x3 : Int32) (x4 : Int32) (m : Mem) : Option (Int32 × Mem) :=
  bnd (f_L_some L xsc (x1 >>> ((13 : Int32) &&& 31)) (2 : Int32) m) (fun r69 m69 =>
    if r69 = 0 then
      f_L_change_j81 L xsc (10 : Int32) (x1 >>> ((9 : Int32) &&& 31)) x3 x4 s0 m69
    else
      f_L_change_j81 L xsc (3 : Int32) (x1 >>> ((9 : Int32) &&& 31)) x3 x4 s0 m69)
theorem g_L_change_j58 {X : XT} (h : MX X method_5_code P_L 2 (some .boolean)) (s0 : Int32) (x1 : Int32) (x3 : Int32) (x4 : Int32) (m : Mem) (o5 : Option AV) (o6 : Option AV) : Go X (Em X puI) 58 [some (.inr (.inr (0, 0))), some (.inl x1), some (.inr (.inr (70, 0))), some (.inl x3), some (.inl x4), o5, o6] [.inl s0] m (f_L_change_j58 (xL X) (xx X) s0 x1 x3 x4 m) := by
  unfold f_L_change_j58
  refine go_blk h.1 (is := [.istore 5, .iload_n 1, .bipush 9, .ishr, .iload_n 1, .bipush 13, .ishr, .iconst 2]) (pc' := 69) (ls' := [some (.inr (.inr (0, 0))), some (.inl x1), some (.inr (.inr (70, 0))), some (.inl x3), some (.inl x4), some (.inl s0), o6]) (st' := [.inl (2 : Int32), .inl (x1 >>> ((13 : Int32) &&& 31)), .inl (x1 >>> ((9 : Int32) &&& 31))]) (m' := m) (by decide +kernel) rfl ?_
  refine go_callS h.1 (index := 15) (n := 2) (as := [.inl (x1 >>> ((13 : Int32) &&& 31)), .inl (2 : Int32)]) (rest := [.inl (x1 >>> ((9 : Int32) &&& 31))]) (ctr_L_some (xZ X) (x1 >>> ((13 : Int32) &&& 31)) (2 : Int32) m) (by decide +kernel) wd_s_L_15 rfl (h.room (by first | decide | omega) (by decide)) h.cl (Nat.le_of_ble_eq_true rfl) puI_ok rfl (fun r69 m69 _ => ?_)
  show Go X (Em X puI) 72 [some (.inr (.inr (0, 0))), some (.inl x1), some (.inr (.inr (70, 0))), some (.inl x3), some (.inl x4), some (.inl s0), o6] [.inl r69, .inl (x1 >>> ((9 : Int32) &&& 31))] m69 _
  refine go_ifne h.1 (off := 8) 80 (by decide +kernel) (by decide) (fun c72 => ?_) (fun c72 => ?_)
  · refine go_blk h.1 (is := [.iconst 3]) (pc' := 81) (ls' := [some (.inr (.inr (0, 0))), some (.inl x1), some (.inr (.inr (70, 0))), some (.inl x3), some (.inl x4), some (.inl s0), o6]) (st' := [.inl (3 : Int32), .inl (x1 >>> ((9 : Int32) &&& 31))]) (m' := m69) (by decide +kernel) rfl ?_
    exact g_L_change_j81 h (3 : Int32) (x1 >>> ((9 : Int32) &&& 31)) x3 x4 s0 m69 (some (.inl x1)) (o6)
  · refine go_blk h.1 (is := [.bipush 10]) (pc' := 77) (ls' := [some (.inr (.inr (0, 0))), some (.inl x1), some (.inr (.inr (70, 0))), some (.inl x3), some (.inl x4), some (.inl s0), o6]) (st' := [.inl (10 : Int32), .inl (x1 >>> ((9 : Int32) &&& 31))]) (m' := m69) (by decide +kernel) rfl ?_
    refine go_goto h.1 (off := 4) 81 (by decide +kernel) (by decide) ?_
    exact g_L_change_j81 h (10 : Int32) (x1 >>> ((9 : Int32) &&& 31)) x3 x4 s0 m69 (some (.inl x1)) (o6)

def f_L_change_j29 (L : Nat) (xsc : Nat → Int32) (s0 : Int32) (s1 : Int32) (x1 : Int32) (x3 : Int32) (m : Mem) : Option (Int32 × Mem) :=
  bnd (f_L_some L xsc s1 s0 m) (fun r29 m29 =>
    bnd (f_L_some L xsc (x1 >>> ((6 : Int32) &&& 31)) (2 : Int32) m29) (fun r39 m39 =>
      if r39 = 0 then
        bnd (f_L_some L xsc (x1 >>> ((7 : Int32) &&& 31)) (64 : Int32) m39) (fun r51 m51 =>
          f_L_change_j58 L xsc r51 x1 x3 r29 m51)
      else
        f_L_change_j58 L xsc (0 : Int32) x1 x3 r29 m39))
theorem g_L_change_j29 {X : XT} (h : MX X method_5_code P_L 2 (some .boolean)) (s0 : Int32) (s1 : Int32) (x1 : Int32) (x3 : Int32) (m : Mem) (o4 : Option AV) (o5 : Option AV) (o6 : Option AV) : Go X (Em X puI) 29 [some (.inr (.inr (0, 0))), some (.inl x1), some (.inr (.inr (70, 0))), some (.inl x3), o4, o5, o6] [.inl s0, .inl s1] m (f_L_change_j29 (xL X) (xx X) s0 s1 x1 x3 m) := by
  unfold f_L_change_j29
  refine go_callS h.1 (index := 15) (n := 2) (as := [.inl s1, .inl s0]) (rest := []) (ctr_L_some (xZ X) s1 s0 m) (by decide +kernel) wd_s_L_15 rfl (h.room (by first | decide | omega) (by decide)) h.cl (Nat.le_of_ble_eq_true rfl) puI_ok rfl (fun r29 m29 _ => ?_)
  show Go X (Em X puI) 32 [some (.inr (.inr (0, 0))), some (.inl x1), some (.inr (.inr (70, 0))), some (.inl x3), o4, o5, o6] [.inl r29] m29 _
  refine go_blk h.1 (is := [.istore 4, .iload_n 1, .bipush 6, .ishr, .iconst 2]) (pc' := 39) (ls' := [some (.inr (.inr (0, 0))), some (.inl x1), some (.inr (.inr (70, 0))), some (.inl x3), some (.inl r29), o5, o6]) (st' := [.inl (2 : Int32), .inl (x1 >>> ((6 : Int32) &&& 31))]) (m' := m29) (by decide +kernel) rfl ?_
  refine go_callS h.1 (index := 15) (n := 2) (as := [.inl (x1 >>> ((6 : Int32) &&& 31)), .inl (2 : Int32)]) (rest := []) (ctr_L_some (xZ X) (x1 >>> ((6 : Int32) &&& 31)) (2 : Int32) m29) (by decide +kernel) wd_s_L_15 rfl (h.room (by first | decide | omega) (by decide)) h.cl (Nat.le_of_ble_eq_true rfl) puI_ok rfl (fun r39 m39 _ => ?_)
  show Go X (Em X puI) 42 [some (.inr (.inr (0, 0))), some (.inl x1), some (.inr (.inr (70, 0))), some (.inl x3), some (.inl r29), o5, o6] [.inl r39] m39 _
  refine go_ifne h.1 (off := 15) 57 (by decide +kernel) (by decide) (fun c42 => ?_) (fun c42 => ?_)
  · refine go_blk h.1 (is := [.iconst 0]) (pc' := 58) (ls' := [some (.inr (.inr (0, 0))), some (.inl x1), some (.inr (.inr (70, 0))), some (.inl x3), some (.inl r29), o5, o6]) (st' := [.inl (0 : Int32)]) (m' := m39) (by decide +kernel) rfl ?_
    exact g_L_change_j58 h (0 : Int32) x1 x3 r29 m39 (o5) (o6)
  · refine go_blk h.1 (is := [.iload_n 1, .bipush 7, .ishr, .bipush 64]) (pc' := 51) (ls' := [some (.inr (.inr (0, 0))), some (.inl x1), some (.inr (.inr (70, 0))), some (.inl x3), some (.inl r29), o5, o6]) (st' := [.inl (64 : Int32), .inl (x1 >>> ((7 : Int32) &&& 31))]) (m' := m39) (by decide +kernel) rfl ?_
    refine go_callS h.1 (index := 15) (n := 2) (as := [.inl (x1 >>> ((7 : Int32) &&& 31)), .inl (64 : Int32)]) (rest := []) (ctr_L_some (xZ X) (x1 >>> ((7 : Int32) &&& 31)) (64 : Int32) m39) (by decide +kernel) wd_s_L_15 rfl (h.room (by first | decide | omega) (by decide)) h.cl (Nat.le_of_ble_eq_true rfl) puI_ok rfl (fun r51 m51 _ => ?_)
    show Go X (Em X puI) 54 [some (.inr (.inr (0, 0))), some (.inl x1), some (.inr (.inr (70, 0))), some (.inl x3), some (.inl r29), o5, o6] [.inl r51] m51 _
    refine go_goto h.1 (off := 4) 58 (by decide +kernel) (by decide) ?_
    exact g_L_change_j58 h r51 x1 x3 r29 m51 (o5) (o6)

def f_L_change (L : Nat) (xsc : Nat → Int32) (x1 : Int32) (m : Mem) : Option (Int32 × Mem) :=
  if inB (1 : Int32) 28 = true then
    bnd (f_L_some L xsc x1 (m 70 0 (ix (1 : Int32))) m) (fun r4 m4 =>
      bnd (f_L_some L xsc (x1 >>> ((12 : Int32) &&& 31)) (3 : Int32) m4) (fun r16 m16 =>
        if r16 = 0 then
          f_L_change_j29 L xsc (100 : Int32) (x1 >>> ((2 : Int32) &&& 31)) x1 r4 m16
        else
          f_L_change_j29 L xsc (16 : Int32) (x1 >>> ((2 : Int32) &&& 31)) x1 r4 m16))
  else none
theorem g_L_change {X : XT} (h : MX X method_5_code P_L 2 (some .boolean)) (x1 : Int32) (m : Mem) : Go X (Em X puI) 0 [some (.inr (.inr (0, 0))), some (.inl x1), some (.inr (.inr (70, 0))), none, none, none, none] [] m (f_L_change (xL X) (xx X) x1 m) := by
  unfold f_L_change
  refine go_blk h.1 (is := [.iload_n 1, .aload_n 2, .iconst 1]) (pc' := 3) (ls' := [some (.inr (.inr (0, 0))), some (.inl x1), some (.inr (.inr (70, 0))), none, none, none, none]) (st' := [.inl (1 : Int32), .inr (.inr (70, 0)), .inl x1]) (m' := m) (by decide +kernel) rfl ?_
  refine go_iald h.1 (by decide +kernel) rfl rfl (fun b3 => ?_)
  show Go X (Em X puI) 4 [some (.inr (.inr (0, 0))), some (.inl x1), some (.inr (.inr (70, 0))), none, none, none, none] [.inl (m 70 0 (ix (1 : Int32))), .inl x1] m _
  refine go_callS h.1 (index := 15) (n := 2) (as := [.inl x1, .inl (m 70 0 (ix (1 : Int32)))]) (rest := []) (ctr_L_some (xZ X) x1 (m 70 0 (ix (1 : Int32))) m) (by decide +kernel) wd_s_L_15 rfl (h.room (by first | decide | omega) (by decide)) h.cl (Nat.le_of_ble_eq_true rfl) puI_ok rfl (fun r4 m4 _ => ?_)
  show Go X (Em X puI) 7 [some (.inr (.inr (0, 0))), some (.inl x1), some (.inr (.inr (70, 0))), none, none, none, none] [.inl r4] m4 _
  refine go_blk h.1 (is := [.istore_n 3, .iload_n 1, .iconst 2, .ishr, .iload_n 1, .bipush 12, .ishr, .iconst 3]) (pc' := 16) (ls' := [some (.inr (.inr (0, 0))), some (.inl x1), some (.inr (.inr (70, 0))), some (.inl r4), none, none, none]) (st' := [.inl (3 : Int32), .inl (x1 >>> ((12 : Int32) &&& 31)), .inl (x1 >>> ((2 : Int32) &&& 31))]) (m' := m4) (by decide +kernel) rfl ?_
  refine go_callS h.1 (index := 15) (n := 2) (as := [.inl (x1 >>> ((12 : Int32) &&& 31)), .inl (3 : Int32)]) (rest := [.inl (x1 >>> ((2 : Int32) &&& 31))]) (ctr_L_some (xZ X) (x1 >>> ((12 : Int32) &&& 31)) (3 : Int32) m4) (by decide +kernel) wd_s_L_15 rfl (h.room (by first | decide | omega) (by decide)) h.cl (Nat.le_of_ble_eq_true rfl) puI_ok rfl (fun r16 m16 _ => ?_)
  show Go X (Em X puI) 19 [some (.inr (.inr (0, 0))), some (.inl x1), some (.inr (.inr (70, 0))), some (.inl r4), none, none, none] [.inl r16, .inl (x1 >>> ((2 : Int32) &&& 31))] m16 _
  refine go_ifne h.1 (off := 8) 27 (by decide +kernel) (by decide) (fun c19 => ?_) (fun c19 => ?_)
  · refine go_blk h.1 (is := [.bipush 16]) (pc' := 29) (ls' := [some (.inr (.inr (0, 0))), some (.inl x1), some (.inr (.inr (70, 0))), some (.inl r4), none, none, none]) (st' := [.inl (16 : Int32), .inl (x1 >>> ((2 : Int32) &&& 31))]) (m' := m16) (by decide +kernel) rfl ?_
    exact g_L_change_j29 h (16 : Int32) (x1 >>> ((2 : Int32) &&& 31)) x1 r4 m16 (none) (none) (none)
  · refine go_blk h.1 (is := [.bipush 100]) (pc' := 24) (ls' := [some (.inr (.inr (0, 0))), some (.inl x1), some (.inr (.inr (70, 0))), some (.inl r4), none, none, none]) (st' := [.inl (100 : Int32), .inl (x1 >>> ((2 : Int32) &&& 31))]) (m' := m16) (by decide +kernel) rfl ?_
    refine go_goto h.1 (off := 5) 29 (by decide +kernel) (by decide) ?_
    exact g_L_change_j29 h (100 : Int32) (x1 >>> ((2 : Int32) &&& 31)) x1 r4 m16 (none) (none) (none)
theorem ctr_L_change (Z : ZT) (x1 : Int32) (m : Mem) : Ctr Z yL_change method_5_code 7 (some .boolean) 2 puI [.inr (.inr (0, 0)), .inl x1, .inr (.inr (70, 0))] m (f_L_change (zL Z) (zx Z) x1 m) :=
  ctr_of (P := P_L) (by decide +kernel) rfl pt_L rfl rfl (fun X hC hZ hR h0 h1 hr => by subst hZ; exact g_L_change ⟨hC, hR, h0, h1, hr⟩ x1 m)
end
section
/-! ===== the law's own rows ===== -/
/-- what stands in the law's body, with all its cells or all but the last three -/
def MW (X : XT) : Prop := GC X code P_L ∧ (xR X = room_1 ∧ xcl X ≤ 600000 ∧ xsl X ≤ 7302250) ∧ (∀ q, frA (xV X) (xA X) q → (xs X).heap.size ≤ q) ∧ (xM X).sig.returnType = ret ∧ (∃ b : Nat, xa X = #[Value.ref b])
def El (X : XT) (r : Int32) (_ : Mem) : State → Prop := fun t => r = 1 → lw_Z (xb X) (xa X) (xs X) t
/-- the first piece: if behind it, with these codes and fish, the law ends well, it does -/
def EA (X : XT) (r : Int32 × Int32) (m' : Mem) : State → Prop := fun t => GG X (lw_Z (xb X) (xa X) (xs X)) 59 [some (.inr (.inr (60, 0))), some (.inr (.inr (0, 0))), some (.inr (.inr (70, 0))), some (.inl r.1), some (.inl r.2), none, none, none, none, none, none, none, none, none, none, none, none] [] m' → lw_Z (xb X) (xa X) (xs X) t
theorem MW.room {X : XT} (h : MW X) {d maxL : Nat} (h1 : d + 1 ≤ 7) (h2 : maxL ≤ 21) : d + 1 ≤ (xR X).frames ∧ 8 + (maxL + 11) + 40 * d ≤ (xR X).locals := by
  rw [h.2.1.1]
  show d + 1 ≤ 9 ∧ 8 + (maxL + 11) + 40 * d ≤ 328
  omega
theorem MW.cl {X : XT} (h : MW X) : xcl X ≤ (xR X).cells ∧ xsl X ≤ (xR X).slots := by
  rw [h.2.1.1]
  exact h.2.1.2
section GLAW
variable {X : XT} {pc : Nat} {ls : ALs} {m : Mem}
theorem go_law0 : Go X (El X) pc ls [.inl (0 : Int32)] m (some ((0 : Int32), m)) := by
  intro r m2 ho hS hL H locs lsa hP hSt hl
  cases ho
  intro T hT Xs
  exact ⟨_, Steps.refl _, fun q => absurd q (by decide)⟩
theorem go_law1 (h : MW X) (hd : decode code pc = .ok (.ireturn, 1)) : Go X (El X) pc ls [.inl (1 : Int32)] m (some ((1 : Int32), m)) := by
  intro r m2 ho hS hL H locs lsa hP hSt hl
  cases ho
  obtain ⟨b, hb⟩ := h.2.2.2.2
  have k : xW X (lw_Z (xb X) (xa X) (xs X)) H locs (F0 (xm X) pc lsa [.int 1]) := by
    have hrow := lw_ret (p := xp X) (l := xl X) (e := xe X) (s := xs X) (m := xm X) (below := xb X) (meth := xM X) (c := xc X) (b := b) (pc := pc) (H := H) (ls := lsa) h.1.1 h.1.2.1 h.2.2.2.1 h.1.2.2.2.2.2.2.2.2.1 hd
    have h2 := W.widen h.2.1.2.1 h.2.1.2.2 hrow
    have h3 := va_forget (fun q hq => h.2.2.1 _ (hSt.2.2 q hq)) h2
    show W (xp X) (xl X) (xe X) (xR X) (xs X) (xm X) (xa X) (xb X) (xM X) (xc X) H locs (xcl X) (xsl X) _ _
    rw [h.2.1.1, hb]
    exact h3
  intro T hT Xs
  obtain ⟨t, a1, b1⟩ := k T hT Xs
  exact ⟨t, a1, fun _ => b1⟩
theorem go_stop {x y : Int32} : Go X (EA X) 59 [some (.inr (.inr (60, 0))), some (.inr (.inr (0, 0))), some (.inr (.inr (70, 0))), some (.inl x), some (.inl y), none, none, none, none, none, none, none, none, none, none, none, none] [] m (some ((x, y), m)) := by
  intro r m2 ho hS hL H locs lsa hP hSt hl
  cases ho
  intro T hT Xs
  by_cases hg : GG X (lw_Z (xb X) (xa X) (xs X)) 59 [some (.inr (.inr (60, 0))), some (.inr (.inr (0, 0))), some (.inr (.inr (70, 0))), some (.inl x), some (.inl y), none, none, none, none, none, none, none, none, none, none, none, none] [] m
  · obtain ⟨t, a1, b1⟩ := hg hS hL H locs lsa hP hSt hl T hT Xs
    exact ⟨t, a1, fun _ => b1⟩
  · exact ⟨_, Steps.refl _, fun q => absurd q hg⟩
end GLAW
end
section
/-! ===== printed by wip/p31/tr.py out of the listing ===== -/
def f_L_lawA (L : Nat) (xsc : Nat → Int32) (m : Mem) : Option ((Int32 × Int32) × Mem) :=
  bnd (f_L_put L xsc (0 : Int32) (5 : Int32) m) (fun r18 m18 =>
    if inB (1 : Int32) 28 = true then
      if r18 < (8 : Int32) then
        none
      else
        bnd (f_X6_ford (0 : Int32) (0 : Int32) (0 : Int32) r18 m18) (fun r38 m38 =>
          if r38 = (m18 70 0 (ix (1 : Int32))) then
            bnd (f_X6_many (1 : Int32) m38) (fun r48 m48 =>
              if inB (0 : Int32) 28 = true then
                if r48 = (m48 70 0 (ix (0 : Int32))) then
                  some ((r18, (m18 70 0 (ix (1 : Int32)))), m48)
                else
                  none
              else none)
          else
            none)
    else none)
theorem g_L_lawA {X : XT} (h : MW X) (m : Mem) : Go X (EA X) 13 [some (.inr (.inr (60, 0))), some (.inr (.inr (0, 0))), some (.inr (.inr (70, 0))), none, none, none, none, none, none, none, none, none, none, none, none, none, none] [] m (f_L_lawA (xL X) (xx X) m) := by
  unfold f_L_lawA
  refine go_blk h.1 (is := [.aload_n 1, .aload_n 0, .iconst 0, .iconst 5, .aload_n 2]) (pc' := 18) (ls' := [some (.inr (.inr (60, 0))), some (.inr (.inr (0, 0))), some (.inr (.inr (70, 0))), none, none, none, none, none, none, none, none, none, none, none, none, none, none]) (st' := [.inr (.inr (70, 0)), .inl (5 : Int32), .inl (0 : Int32), .inr (.inr (60, 0)), .inr (.inr (0, 0))]) (m' := m) (by decide +kernel) rfl ?_
  refine go_callS h.1 (index := 54) (n := 5) (as := [.inr (.inr (0, 0)), .inr (.inr (60, 0)), .inl (0 : Int32), .inl (5 : Int32), .inr (.inr (70, 0))]) (rest := []) (ctr_L_put (xZ X) (0 : Int32) (5 : Int32) m) (by decide +kernel) wd_s_L_54 rfl (h.room (by first | decide | omega) (by decide)) h.cl (Nat.le_of_ble_eq_true rfl) puI_ok rfl (fun r18 m18 _ => ?_)
  show Go X (EA X) 21 [some (.inr (.inr (60, 0))), some (.inr (.inr (0, 0))), some (.inr (.inr (70, 0))), none, none, none, none, none, none, none, none, none, none, none, none, none, none] [.inl r18] m18 _
  refine go_blk h.1 (is := [.istore_n 3, .aload_n 2, .iconst 1]) (pc' := 24) (ls' := [some (.inr (.inr (60, 0))), some (.inr (.inr (0, 0))), some (.inr (.inr (70, 0))), some (.inl r18), none, none, none, none, none, none, none, none, none, none, none, none, none]) (st' := [.inl (1 : Int32), .inr (.inr (70, 0))]) (m' := m18) (by decide +kernel) rfl ?_
  refine go_iald h.1 (by decide +kernel) rfl rfl (fun b24 => ?_)
  show Go X (EA X) 25 [some (.inr (.inr (60, 0))), some (.inr (.inr (0, 0))), some (.inr (.inr (70, 0))), some (.inl r18), none, none, none, none, none, none, none, none, none, none, none, none, none] [.inl (m18 70 0 (ix (1 : Int32)))] m18 _
  refine go_blk h.1 (is := [.istore 4, .iload_n 3, .bipush 8]) (pc' := 30) (ls' := [some (.inr (.inr (60, 0))), some (.inr (.inr (0, 0))), some (.inr (.inr (70, 0))), some (.inl r18), some (.inl (m18 70 0 (ix (1 : Int32)))), none, none, none, none, none, none, none, none, none, none, none, none]) (st' := [.inl (8 : Int32), .inl r18]) (m' := m18) (by decide +kernel) rfl ?_
  refine go_icmplt h.1 (off := 27) 57 (by decide +kernel) (by decide) (fun c30 => ?_) (fun c30 => ?_)
  · refine go_blk h.1 (is := [.iconst 0]) (pc' := 58) (ls' := [some (.inr (.inr (60, 0))), some (.inr (.inr (0, 0))), some (.inr (.inr (70, 0))), some (.inl r18), some (.inl (m18 70 0 (ix (1 : Int32)))), none, none, none, none, none, none, none, none, none, none, none, none]) (st' := [.inl (0 : Int32)]) (m' := m18) (by decide +kernel) rfl ?_
    exact go_none
  · refine go_blk h.1 (is := [.aload_n 1, .iconst 0, .iconst 0, .iconst 0, .iload_n 3]) (pc' := 38) (ls' := [some (.inr (.inr (60, 0))), some (.inr (.inr (0, 0))), some (.inr (.inr (70, 0))), some (.inl r18), some (.inl (m18 70 0 (ix (1 : Int32)))), none, none, none, none, none, none, none, none, none, none, none, none]) (st' := [.inl r18, .inl (0 : Int32), .inl (0 : Int32), .inl (0 : Int32), .inr (.inr (0, 0))]) (m' := m18) (by decide +kernel) rfl ?_
    refine go_callV h.1 (index := 57) (n := 4) (t := 0) (i := 0) (ci := 6) (nf := 7) (cz := (RX6, TX6, 7)) (as := [.inl (0 : Int32), .inl (0 : Int32), .inl (0 : Int32), .inl r18]) (rest := []) (ctr_X6_ford (xZ X) (0 : Int32) (0 : Int32) (0 : Int32) r18 m18) (by decide +kernel) rfl rfl wd_v_L_57 rfl (h.room (by first | decide | omega) (by decide)) h.cl (Nat.le_of_ble_eq_true rfl) puI_ok rfl (fun r38 m38 _ => ?_)
    show Go X (EA X) 41 [some (.inr (.inr (60, 0))), some (.inr (.inr (0, 0))), some (.inr (.inr (70, 0))), some (.inl r18), some (.inl (m18 70 0 (ix (1 : Int32)))), none, none, none, none, none, none, none, none, none, none, none, none] [.inl r38] m38 _
    refine go_blk h.1 (is := [.iload 4]) (pc' := 43) (ls' := [some (.inr (.inr (60, 0))), some (.inr (.inr (0, 0))), some (.inr (.inr (70, 0))), some (.inl r18), some (.inl (m18 70 0 (ix (1 : Int32)))), none, none, none, none, none, none, none, none, none, none, none, none]) (st' := [.inl (m18 70 0 (ix (1 : Int32))), .inl r38]) (m' := m38) (by decide +kernel) rfl ?_
    refine go_icmpne h.1 (off := 14) 57 (by decide +kernel) (by decide) (fun c43 => ?_) (fun c43 => ?_)
    · refine go_blk h.1 (is := [.iconst 0]) (pc' := 58) (ls' := [some (.inr (.inr (60, 0))), some (.inr (.inr (0, 0))), some (.inr (.inr (70, 0))), some (.inl r18), some (.inl (m18 70 0 (ix (1 : Int32)))), none, none, none, none, none, none, none, none, none, none, none, none]) (st' := [.inl (0 : Int32)]) (m' := m38) (by decide +kernel) rfl ?_
      exact go_none
    · refine go_blk h.1 (is := [.aload_n 1, .iconst 1]) (pc' := 48) (ls' := [some (.inr (.inr (60, 0))), some (.inr (.inr (0, 0))), some (.inr (.inr (70, 0))), some (.inl r18), some (.inl (m18 70 0 (ix (1 : Int32)))), none, none, none, none, none, none, none, none, none, none, none, none]) (st' := [.inl (1 : Int32), .inr (.inr (0, 0))]) (m' := m38) (by decide +kernel) rfl ?_
      refine go_callV h.1 (index := 61) (n := 1) (t := 0) (i := 0) (ci := 6) (nf := 7) (cz := (RX6, TX6, 7)) (as := [.inl (1 : Int32)]) (rest := []) (ctr_X6_many (xZ X) (1 : Int32) m38) (by decide +kernel) rfl rfl wd_v_L_61 rfl (h.room (by first | decide | omega) (by decide)) h.cl (Nat.le_of_ble_eq_true rfl) puI_ok rfl (fun r48 m48 _ => ?_)
      show Go X (EA X) 51 [some (.inr (.inr (60, 0))), some (.inr (.inr (0, 0))), some (.inr (.inr (70, 0))), some (.inl r18), some (.inl (m18 70 0 (ix (1 : Int32)))), none, none, none, none, none, none, none, none, none, none, none, none] [.inl r48] m48 _
      refine go_blk h.1 (is := [.aload_n 2, .iconst 0]) (pc' := 53) (ls' := [some (.inr (.inr (60, 0))), some (.inr (.inr (0, 0))), some (.inr (.inr (70, 0))), some (.inl r18), some (.inl (m18 70 0 (ix (1 : Int32)))), none, none, none, none, none, none, none, none, none, none, none, none]) (st' := [.inl (0 : Int32), .inr (.inr (70, 0)), .inl r48]) (m' := m48) (by decide +kernel) rfl ?_
      refine go_iald h.1 (by decide +kernel) rfl rfl (fun b53 => ?_)
      show Go X (EA X) 54 [some (.inr (.inr (60, 0))), some (.inr (.inr (0, 0))), some (.inr (.inr (70, 0))), some (.inl r18), some (.inl (m18 70 0 (ix (1 : Int32)))), none, none, none, none, none, none, none, none, none, none, none, none] [.inl (m48 70 0 (ix (0 : Int32))), .inl r48] m48 _
      refine go_icmpeq h.1 (off := 5) 59 (by decide +kernel) (by decide) (fun c54 => ?_) (fun c54 => ?_)
      · exact go_stop
      · refine go_blk h.1 (is := [.iconst 0]) (pc' := 58) (ls' := [some (.inr (.inr (60, 0))), some (.inr (.inr (0, 0))), some (.inr (.inr (70, 0))), some (.inl r18), some (.inl (m18 70 0 (ix (1 : Int32)))), none, none, none, none, none, none, none, none, none, none, none, none]) (st' := [.inl (0 : Int32)]) (m' := m48) (by decide +kernel) rfl ?_
        exact go_none
end
section
/-! ===== printed by wip/p31/tr.py out of the listing ===== -/
def f_L_lawB_j336 (L : Nat) (xsc : Nat → Int32) (next : Int32 × Mem → Option (Int32 × Mem)) (exit : Mem → Option (Int32 × Mem)) (s0 : Int32) (s1 : Int32) (x4 : Int32) (x8 : Int32) (x9 : Int32) (x10 : Int32) (x11 : Int32) (x12 : Int32) (m : Mem) : Option (Int32 × Mem) :=
  if s1 = s0 then
    next ((x12 + (1 : Int32)), m)
  else
    some ((0 : Int32), m)
theorem g_L_lawB_j336 {X : XT} (h : MW X) (next : Int32 × Mem → Option (Int32 × Mem)) (exit : Mem → Option (Int32 × Mem)) (s0 : Int32) (s1 : Int32) (x4 : Int32) (x8 : Int32) (x9 : Int32) (x10 : Int32) (x11 : Int32) (x12 : Int32) (m : Mem) (o3 : Option AV) (o13 : Option AV) (o14 : Option AV) (o15 : Option AV) (o16 : Option AV) (hn : ∀ (y12 : Int32) (n : Mem) (o3 : Option AV) (o13 : Option AV) (o14 : Option AV) (o15 : Option AV) (o16 : Option AV), Go X (El X) 289 [some (.inr (.inr (60, 0))), some (.inr (.inr (0, 0))), some (.inr (.inr (70, 0))), o3, some (.inl x4), some (.inr (.inr (71, 0))), some (.inr (.inr (72, 0))), some (.inr (.inr (73, 0))), some (.inl x8), some (.inl x9), some (.inl x10), some (.inl x11), some (.inl y12), o13, o14, o15, o16] [] n (next (y12, n))) (hx : ∀ (n : Mem) (o3 : Option AV) (o12 : Option AV) (o13 : Option AV) (o14 : Option AV) (o15 : Option AV) (o16 : Option AV), Go X (El X) 347 [some (.inr (.inr (60, 0))), some (.inr (.inr (0, 0))), some (.inr (.inr (70, 0))), o3, some (.inl x4), some (.inr (.inr (71, 0))), some (.inr (.inr (72, 0))), some (.inr (.inr (73, 0))), some (.inl x8), some (.inl x9), some (.inl x10), some (.inl x11), o12, o13, o14, o15, o16] [] n (exit (n))) : Go X (El X) 336 [some (.inr (.inr (60, 0))), some (.inr (.inr (0, 0))), some (.inr (.inr (70, 0))), o3, some (.inl x4), some (.inr (.inr (71, 0))), some (.inr (.inr (72, 0))), some (.inr (.inr (73, 0))), some (.inl x8), some (.inl x9), some (.inl x10), some (.inl x11), some (.inl x12), o13, o14, o15, o16] [.inl s0, .inl s1] m (f_L_lawB_j336 (xL X) (xx X) next exit s0 s1 x4 x8 x9 x10 x11 x12 m) := by
  unfold f_L_lawB_j336
  refine go_icmpeq h.1 (off := 5) 341 (by decide +kernel) (by decide) (fun c336 => ?_) (fun c336 => ?_)
  · refine go_blk h.1 (is := [.iinc 12 1]) (pc' := 344) (ls' := [some (.inr (.inr (60, 0))), some (.inr (.inr (0, 0))), some (.inr (.inr (70, 0))), o3, some (.inl x4), some (.inr (.inr (71, 0))), some (.inr (.inr (72, 0))), some (.inr (.inr (73, 0))), some (.inl x8), some (.inl x9), some (.inl x10), some (.inl x11), some (.inl (x12 + (1 : Int32))), o13, o14, o15, o16]) (st' := []) (m' := m) (by decide +kernel) rfl ?_
    refine go_goto h.1 (off := -55) 289 (by decide +kernel) (by decide) ?_
    exact hn (x12 + (1 : Int32)) m (o3) (o13) (o14) (o15) (o16)
  · refine go_blk h.1 (is := [.iconst 0]) (pc' := 340) (ls' := [some (.inr (.inr (60, 0))), some (.inr (.inr (0, 0))), some (.inr (.inr (70, 0))), o3, some (.inl x4), some (.inr (.inr (71, 0))), some (.inr (.inr (72, 0))), some (.inr (.inr (73, 0))), some (.inl x8), some (.inl x9), some (.inl x10), some (.inl x11), some (.inl x12), o13, o14, o15, o16]) (st' := [.inl (0 : Int32)]) (m' := m) (by decide +kernel) rfl ?_
    exact go_law0

def f_L_lawB_b289 (L : Nat) (xsc : Nat → Int32) (x4 : Int32) (x8 : Int32) (x9 : Int32) (x10 : Int32) (x11 : Int32) (next : Int32 × Mem → Option (Int32 × Mem)) (exit : Mem → Option (Int32 × Mem)) (s : Int32 × Mem) : Option (Int32 × Mem) :=
  if (5 : Int32) ≤ s.1 then
    exit (s.2)
  else
    bnd (f_X6_passes (1 : Int32) (0 : Int32) (2 : Int32) x9 ((10 : Int32) + s.1) s.2) (fun r306 m306 =>
      if x10 < 0 then
        if x4 ≤ s.1 then
          f_L_lawB_j336 L xsc next exit (-9 : Int32) r306 x4 x8 x9 x10 x11 s.1 m306
        else
          if inB s.1 9 = true then
            f_L_lawB_j336 L xsc next exit (m306 72 0 (ix s.1)) r306 x4 x8 x9 x10 x11 s.1 m306
          else none
      else
        f_L_lawB_j336 L xsc next exit x11 r306 x4 x8 x9 x10 x11 s.1 m306)
theorem g_L_lawB_b289 {X : XT} (h : MW X) (x4 : Int32) (x8 : Int32) (x9 : Int32) (x10 : Int32) (x11 : Int32) (next : Int32 × Mem → Option (Int32 × Mem)) (exit : Mem → Option (Int32 × Mem)) (hn : ∀ (y12 : Int32) (n : Mem) (o3 : Option AV) (o13 : Option AV) (o14 : Option AV) (o15 : Option AV) (o16 : Option AV), Go X (El X) 289 [some (.inr (.inr (60, 0))), some (.inr (.inr (0, 0))), some (.inr (.inr (70, 0))), o3, some (.inl x4), some (.inr (.inr (71, 0))), some (.inr (.inr (72, 0))), some (.inr (.inr (73, 0))), some (.inl x8), some (.inl x9), some (.inl x10), some (.inl x11), some (.inl y12), o13, o14, o15, o16] [] n (next (y12, n))) (hx : ∀ (n : Mem) (o3 : Option AV) (o12 : Option AV) (o13 : Option AV) (o14 : Option AV) (o15 : Option AV) (o16 : Option AV), Go X (El X) 347 [some (.inr (.inr (60, 0))), some (.inr (.inr (0, 0))), some (.inr (.inr (70, 0))), o3, some (.inl x4), some (.inr (.inr (71, 0))), some (.inr (.inr (72, 0))), some (.inr (.inr (73, 0))), some (.inl x8), some (.inl x9), some (.inl x10), some (.inl x11), o12, o13, o14, o15, o16] [] n (exit (n))) (s : Int32 × Mem) (o3 : Option AV) (o13 : Option AV) (o14 : Option AV) (o15 : Option AV) (o16 : Option AV) : Go X (El X) 289 [some (.inr (.inr (60, 0))), some (.inr (.inr (0, 0))), some (.inr (.inr (70, 0))), o3, some (.inl x4), some (.inr (.inr (71, 0))), some (.inr (.inr (72, 0))), some (.inr (.inr (73, 0))), some (.inl x8), some (.inl x9), some (.inl x10), some (.inl x11), some (.inl s.1), o13, o14, o15, o16] [] s.2 (f_L_lawB_b289 (xL X) (xx X) x4 x8 x9 x10 x11 next exit s) := by
  unfold f_L_lawB_b289
  refine go_blk h.1 (is := [.iload 12, .iconst 5]) (pc' := 292) (ls' := [some (.inr (.inr (60, 0))), some (.inr (.inr (0, 0))), some (.inr (.inr (70, 0))), o3, some (.inl x4), some (.inr (.inr (71, 0))), some (.inr (.inr (72, 0))), some (.inr (.inr (73, 0))), some (.inl x8), some (.inl x9), some (.inl x10), some (.inl x11), some (.inl s.1), o13, o14, o15, o16]) (st' := [.inl (5 : Int32), .inl s.1]) (m' := s.2) (by decide +kernel) rfl ?_
  refine go_icmpge h.1 (off := 55) 347 (by decide +kernel) (by decide) (fun c292 => ?_) (fun c292 => ?_)
  · exact hx s.2 (o3) (some (.inl s.1)) (o13) (o14) (o15) (o16)
  · refine go_blk h.1 (is := [.aload_n 1, .iconst 1, .iconst 0, .iconst 2, .iload 9, .bipush 10, .iload 12, .iadd]) (pc' := 306) (ls' := [some (.inr (.inr (60, 0))), some (.inr (.inr (0, 0))), some (.inr (.inr (70, 0))), o3, some (.inl x4), some (.inr (.inr (71, 0))), some (.inr (.inr (72, 0))), some (.inr (.inr (73, 0))), some (.inl x8), some (.inl x9), some (.inl x10), some (.inl x11), some (.inl s.1), o13, o14, o15, o16]) (st' := [.inl ((10 : Int32) + s.1), .inl x9, .inl (2 : Int32), .inl (0 : Int32), .inl (1 : Int32), .inr (.inr (0, 0))]) (m' := s.2) (by decide +kernel) rfl ?_
    refine go_callV h.1 (index := 76) (n := 5) (t := 0) (i := 0) (ci := 6) (nf := 7) (cz := (RX6, TX6, 7)) (as := [.inl (1 : Int32), .inl (0 : Int32), .inl (2 : Int32), .inl x9, .inl ((10 : Int32) + s.1)]) (rest := []) (ctr_X6_passes (xZ X) (1 : Int32) (0 : Int32) (2 : Int32) x9 ((10 : Int32) + s.1) s.2) (by decide +kernel) rfl rfl wd_v_L_76 rfl (h.room (by first | decide | omega) (by decide)) h.cl (Nat.le_of_ble_eq_true rfl) puI_ok rfl (fun r306 m306 _ => ?_)
    show Go X (El X) 309 [some (.inr (.inr (60, 0))), some (.inr (.inr (0, 0))), some (.inr (.inr (70, 0))), o3, some (.inl x4), some (.inr (.inr (71, 0))), some (.inr (.inr (72, 0))), some (.inr (.inr (73, 0))), some (.inl x8), some (.inl x9), some (.inl x10), some (.inl x11), some (.inl s.1), o13, o14, o15, o16] [.inl r306] m306 _
    refine go_blk h.1 (is := [.iload 10]) (pc' := 311) (ls' := [some (.inr (.inr (60, 0))), some (.inr (.inr (0, 0))), some (.inr (.inr (70, 0))), o3, some (.inl x4), some (.inr (.inr (71, 0))), some (.inr (.inr (72, 0))), some (.inr (.inr (73, 0))), some (.inl x8), some (.inl x9), some (.inl x10), some (.inl x11), some (.inl s.1), o13, o14, o15, o16]) (st' := [.inl x10, .inl r306]) (m' := m306) (by decide +kernel) rfl ?_
    refine go_iflt h.1 (off := 8) 319 (by decide +kernel) (by decide) (fun c311 => ?_) (fun c311 => ?_)
    · refine go_blk h.1 (is := [.iload 12, .iload 4]) (pc' := 323) (ls' := [some (.inr (.inr (60, 0))), some (.inr (.inr (0, 0))), some (.inr (.inr (70, 0))), o3, some (.inl x4), some (.inr (.inr (71, 0))), some (.inr (.inr (72, 0))), some (.inr (.inr (73, 0))), some (.inl x8), some (.inl x9), some (.inl x10), some (.inl x11), some (.inl s.1), o13, o14, o15, o16]) (st' := [.inl x4, .inl s.1, .inl r306]) (m' := m306) (by decide +kernel) rfl ?_
      refine go_icmpge h.1 (off := 11) 334 (by decide +kernel) (by decide) (fun c323 => ?_) (fun c323 => ?_)
      · refine go_blk h.1 (is := [.bipush (-9)]) (pc' := 336) (ls' := [some (.inr (.inr (60, 0))), some (.inr (.inr (0, 0))), some (.inr (.inr (70, 0))), o3, some (.inl x4), some (.inr (.inr (71, 0))), some (.inr (.inr (72, 0))), some (.inr (.inr (73, 0))), some (.inl x8), some (.inl x9), some (.inl x10), some (.inl x11), some (.inl s.1), o13, o14, o15, o16]) (st' := [.inl (-9 : Int32), .inl r306]) (m' := m306) (by decide +kernel) rfl ?_
        exact g_L_lawB_j336 h next exit (-9 : Int32) r306 x4 x8 x9 x10 x11 s.1 m306 (o3) (o13) (o14) (o15) (o16) hn hx
      · refine go_blk h.1 (is := [.aload 6, .iload 12]) (pc' := 330) (ls' := [some (.inr (.inr (60, 0))), some (.inr (.inr (0, 0))), some (.inr (.inr (70, 0))), o3, some (.inl x4), some (.inr (.inr (71, 0))), some (.inr (.inr (72, 0))), some (.inr (.inr (73, 0))), some (.inl x8), some (.inl x9), some (.inl x10), some (.inl x11), some (.inl s.1), o13, o14, o15, o16]) (st' := [.inl s.1, .inr (.inr (72, 0)), .inl r306]) (m' := m306) (by decide +kernel) rfl ?_
        refine go_iald h.1 (by decide +kernel) rfl rfl (fun b330 => ?_)
        show Go X (El X) 331 [some (.inr (.inr (60, 0))), some (.inr (.inr (0, 0))), some (.inr (.inr (70, 0))), o3, some (.inl x4), some (.inr (.inr (71, 0))), some (.inr (.inr (72, 0))), some (.inr (.inr (73, 0))), some (.inl x8), some (.inl x9), some (.inl x10), some (.inl x11), some (.inl s.1), o13, o14, o15, o16] [.inl (m306 72 0 (ix s.1)), .inl r306] m306 _
        refine go_goto h.1 (off := 5) 336 (by decide +kernel) (by decide) ?_
        exact g_L_lawB_j336 h next exit (m306 72 0 (ix s.1)) r306 x4 x8 x9 x10 x11 s.1 m306 (o3) (o13) (o14) (o15) (o16) hn hx
    · refine go_blk h.1 (is := [.iload 11]) (pc' := 316) (ls' := [some (.inr (.inr (60, 0))), some (.inr (.inr (0, 0))), some (.inr (.inr (70, 0))), o3, some (.inl x4), some (.inr (.inr (71, 0))), some (.inr (.inr (72, 0))), some (.inr (.inr (73, 0))), some (.inl x8), some (.inl x9), some (.inl x10), some (.inl x11), some (.inl s.1), o13, o14, o15, o16]) (st' := [.inl x11, .inl r306]) (m' := m306) (by decide +kernel) rfl ?_
      refine go_goto h.1 (off := 20) 336 (by decide +kernel) (by decide) ?_
      exact g_L_lawB_j336 h next exit x11 r306 x4 x8 x9 x10 x11 s.1 m306 (o3) (o13) (o14) (o15) (o16) hn hx

def f_L_lawB_j434 (L : Nat) (xsc : Nat → Int32) (next : Int32 × Mem → Option (Int32 × Mem)) (exit : Mem → Option (Int32 × Mem)) (s0 : Int32) (s1 : Int32) (x4 : Int32) (x8 : Int32) (x9 : Int32) (x10 : Int32) (x11 : Int32) (x12 : Int32) (x13 : Int32) (m : Mem) : Option (Int32 × Mem) :=
  if s1 = s0 then
    next ((x13 + (1 : Int32)), m)
  else
    some ((0 : Int32), m)
theorem g_L_lawB_j434 {X : XT} (h : MW X) (next : Int32 × Mem → Option (Int32 × Mem)) (exit : Mem → Option (Int32 × Mem)) (s0 : Int32) (s1 : Int32) (x4 : Int32) (x8 : Int32) (x9 : Int32) (x10 : Int32) (x11 : Int32) (x12 : Int32) (x13 : Int32) (m : Mem) (o3 : Option AV) (o14 : Option AV) (o15 : Option AV) (o16 : Option AV) (hn : ∀ (y13 : Int32) (n : Mem) (o3 : Option AV) (o14 : Option AV) (o15 : Option AV) (o16 : Option AV), Go X (El X) 394 [some (.inr (.inr (60, 0))), some (.inr (.inr (0, 0))), some (.inr (.inr (70, 0))), o3, some (.inl x4), some (.inr (.inr (71, 0))), some (.inr (.inr (72, 0))), some (.inr (.inr (73, 0))), some (.inl x8), some (.inl x9), some (.inl x10), some (.inl x11), some (.inl x12), some (.inl y13), o14, o15, o16] [] n (next (y13, n))) (hx : ∀ (n : Mem) (o3 : Option AV) (o13 : Option AV) (o14 : Option AV) (o15 : Option AV) (o16 : Option AV), Go X (El X) 445 [some (.inr (.inr (60, 0))), some (.inr (.inr (0, 0))), some (.inr (.inr (70, 0))), o3, some (.inl x4), some (.inr (.inr (71, 0))), some (.inr (.inr (72, 0))), some (.inr (.inr (73, 0))), some (.inl x8), some (.inl x9), some (.inl x10), some (.inl x11), some (.inl x12), o13, o14, o15, o16] [] n (exit (n))) : Go X (El X) 434 [some (.inr (.inr (60, 0))), some (.inr (.inr (0, 0))), some (.inr (.inr (70, 0))), o3, some (.inl x4), some (.inr (.inr (71, 0))), some (.inr (.inr (72, 0))), some (.inr (.inr (73, 0))), some (.inl x8), some (.inl x9), some (.inl x10), some (.inl x11), some (.inl x12), some (.inl x13), o14, o15, o16] [.inl s0, .inl s1] m (f_L_lawB_j434 (xL X) (xx X) next exit s0 s1 x4 x8 x9 x10 x11 x12 x13 m) := by
  unfold f_L_lawB_j434
  refine go_icmpeq h.1 (off := 5) 439 (by decide +kernel) (by decide) (fun c434 => ?_) (fun c434 => ?_)
  · refine go_blk h.1 (is := [.iinc 13 1]) (pc' := 442) (ls' := [some (.inr (.inr (60, 0))), some (.inr (.inr (0, 0))), some (.inr (.inr (70, 0))), o3, some (.inl x4), some (.inr (.inr (71, 0))), some (.inr (.inr (72, 0))), some (.inr (.inr (73, 0))), some (.inl x8), some (.inl x9), some (.inl x10), some (.inl x11), some (.inl x12), some (.inl (x13 + (1 : Int32))), o14, o15, o16]) (st' := []) (m' := m) (by decide +kernel) rfl ?_
    refine go_goto h.1 (off := -48) 394 (by decide +kernel) (by decide) ?_
    exact hn (x13 + (1 : Int32)) m (o3) (o14) (o15) (o16)
  · refine go_blk h.1 (is := [.iconst 0]) (pc' := 438) (ls' := [some (.inr (.inr (60, 0))), some (.inr (.inr (0, 0))), some (.inr (.inr (70, 0))), o3, some (.inl x4), some (.inr (.inr (71, 0))), some (.inr (.inr (72, 0))), some (.inr (.inr (73, 0))), some (.inl x8), some (.inl x9), some (.inl x10), some (.inl x11), some (.inl x12), some (.inl x13), o14, o15, o16]) (st' := [.inl (0 : Int32)]) (m' := m) (by decide +kernel) rfl ?_
    exact go_law0

def f_L_lawB_b394 (L : Nat) (xsc : Nat → Int32) (x4 : Int32) (x8 : Int32) (x9 : Int32) (x10 : Int32) (x11 : Int32) (x12 : Int32) (next : Int32 × Mem → Option (Int32 × Mem)) (exit : Mem → Option (Int32 × Mem)) (s : Int32 × Mem) : Option (Int32 × Mem) :=
  if x4 ≤ s.1 then
    exit (s.2)
  else
    bnd (f_X6_owes x12 s.1 (1 : Int32) (0 : Int32) (2 : Int32) x9 s.2) (fun r411 m411 =>
      if 0 ≤ x10 then
        f_L_lawB_j434 L xsc next exit x11 r411 x4 x8 x9 x10 x11 x12 s.1 m411
      else
        if inB (((5 : Int32) * x12) + s.1) 25 = true then
          f_L_lawB_j434 L xsc next exit (m411 73 0 (ix (((5 : Int32) * x12) + s.1))) r411 x4 x8 x9 x10 x11 x12 s.1 m411
        else none)
theorem g_L_lawB_b394 {X : XT} (h : MW X) (x4 : Int32) (x8 : Int32) (x9 : Int32) (x10 : Int32) (x11 : Int32) (x12 : Int32) (next : Int32 × Mem → Option (Int32 × Mem)) (exit : Mem → Option (Int32 × Mem)) (hn : ∀ (y13 : Int32) (n : Mem) (o3 : Option AV) (o14 : Option AV) (o15 : Option AV) (o16 : Option AV), Go X (El X) 394 [some (.inr (.inr (60, 0))), some (.inr (.inr (0, 0))), some (.inr (.inr (70, 0))), o3, some (.inl x4), some (.inr (.inr (71, 0))), some (.inr (.inr (72, 0))), some (.inr (.inr (73, 0))), some (.inl x8), some (.inl x9), some (.inl x10), some (.inl x11), some (.inl x12), some (.inl y13), o14, o15, o16] [] n (next (y13, n))) (hx : ∀ (n : Mem) (o3 : Option AV) (o13 : Option AV) (o14 : Option AV) (o15 : Option AV) (o16 : Option AV), Go X (El X) 445 [some (.inr (.inr (60, 0))), some (.inr (.inr (0, 0))), some (.inr (.inr (70, 0))), o3, some (.inl x4), some (.inr (.inr (71, 0))), some (.inr (.inr (72, 0))), some (.inr (.inr (73, 0))), some (.inl x8), some (.inl x9), some (.inl x10), some (.inl x11), some (.inl x12), o13, o14, o15, o16] [] n (exit (n))) (s : Int32 × Mem) (o3 : Option AV) (o14 : Option AV) (o15 : Option AV) (o16 : Option AV) : Go X (El X) 394 [some (.inr (.inr (60, 0))), some (.inr (.inr (0, 0))), some (.inr (.inr (70, 0))), o3, some (.inl x4), some (.inr (.inr (71, 0))), some (.inr (.inr (72, 0))), some (.inr (.inr (73, 0))), some (.inl x8), some (.inl x9), some (.inl x10), some (.inl x11), some (.inl x12), some (.inl s.1), o14, o15, o16] [] s.2 (f_L_lawB_b394 (xL X) (xx X) x4 x8 x9 x10 x11 x12 next exit s) := by
  unfold f_L_lawB_b394
  refine go_blk h.1 (is := [.iload 13, .iload 4]) (pc' := 398) (ls' := [some (.inr (.inr (60, 0))), some (.inr (.inr (0, 0))), some (.inr (.inr (70, 0))), o3, some (.inl x4), some (.inr (.inr (71, 0))), some (.inr (.inr (72, 0))), some (.inr (.inr (73, 0))), some (.inl x8), some (.inl x9), some (.inl x10), some (.inl x11), some (.inl x12), some (.inl s.1), o14, o15, o16]) (st' := [.inl x4, .inl s.1]) (m' := s.2) (by decide +kernel) rfl ?_
  refine go_icmpge h.1 (off := 47) 445 (by decide +kernel) (by decide) (fun c398 => ?_) (fun c398 => ?_)
  · exact hx s.2 (o3) (some (.inl s.1)) (o14) (o15) (o16)
  · refine go_blk h.1 (is := [.aload_n 1, .iload 12, .iload 13, .iconst 1, .iconst 0, .iconst 2, .iload 9]) (pc' := 411) (ls' := [some (.inr (.inr (60, 0))), some (.inr (.inr (0, 0))), some (.inr (.inr (70, 0))), o3, some (.inl x4), some (.inr (.inr (71, 0))), some (.inr (.inr (72, 0))), some (.inr (.inr (73, 0))), some (.inl x8), some (.inl x9), some (.inl x10), some (.inl x11), some (.inl x12), some (.inl s.1), o14, o15, o16]) (st' := [.inl x9, .inl (2 : Int32), .inl (0 : Int32), .inl (1 : Int32), .inl s.1, .inl x12, .inr (.inr (0, 0))]) (m' := s.2) (by decide +kernel) rfl ?_
    refine go_callV h.1 (index := 82) (n := 6) (t := 0) (i := 0) (ci := 6) (nf := 7) (cz := (RX6, TX6, 7)) (as := [.inl x12, .inl s.1, .inl (1 : Int32), .inl (0 : Int32), .inl (2 : Int32), .inl x9]) (rest := []) (ctr_X6_owes (xZ X) x12 s.1 (1 : Int32) (0 : Int32) (2 : Int32) x9 s.2) (by decide +kernel) rfl rfl wd_v_L_82 rfl (h.room (by first | decide | omega) (by decide)) h.cl (Nat.le_of_ble_eq_true rfl) puI_ok rfl (fun r411 m411 _ => ?_)
    show Go X (El X) 414 [some (.inr (.inr (60, 0))), some (.inr (.inr (0, 0))), some (.inr (.inr (70, 0))), o3, some (.inl x4), some (.inr (.inr (71, 0))), some (.inr (.inr (72, 0))), some (.inr (.inr (73, 0))), some (.inl x8), some (.inl x9), some (.inl x10), some (.inl x11), some (.inl x12), some (.inl s.1), o14, o15, o16] [.inl r411] m411 _
    refine go_blk h.1 (is := [.iload 10]) (pc' := 416) (ls' := [some (.inr (.inr (60, 0))), some (.inr (.inr (0, 0))), some (.inr (.inr (70, 0))), o3, some (.inl x4), some (.inr (.inr (71, 0))), some (.inr (.inr (72, 0))), some (.inr (.inr (73, 0))), some (.inl x8), some (.inl x9), some (.inl x10), some (.inl x11), some (.inl x12), some (.inl s.1), o14, o15, o16]) (st' := [.inl x10, .inl r411]) (m' := m411) (by decide +kernel) rfl ?_
    refine go_ifge h.1 (off := 16) 432 (by decide +kernel) (by decide) (fun c416 => ?_) (fun c416 => ?_)
    · refine go_blk h.1 (is := [.iload 11]) (pc' := 434) (ls' := [some (.inr (.inr (60, 0))), some (.inr (.inr (0, 0))), some (.inr (.inr (70, 0))), o3, some (.inl x4), some (.inr (.inr (71, 0))), some (.inr (.inr (72, 0))), some (.inr (.inr (73, 0))), some (.inl x8), some (.inl x9), some (.inl x10), some (.inl x11), some (.inl x12), some (.inl s.1), o14, o15, o16]) (st' := [.inl x11, .inl r411]) (m' := m411) (by decide +kernel) rfl ?_
      exact g_L_lawB_j434 h next exit x11 r411 x4 x8 x9 x10 x11 x12 s.1 m411 (o3) (o14) (o15) (o16) hn hx
    · refine go_blk h.1 (is := [.aload 7, .iconst 5, .iload 12, .imul, .iload 13, .iadd]) (pc' := 428) (ls' := [some (.inr (.inr (60, 0))), some (.inr (.inr (0, 0))), some (.inr (.inr (70, 0))), o3, some (.inl x4), some (.inr (.inr (71, 0))), some (.inr (.inr (72, 0))), some (.inr (.inr (73, 0))), some (.inl x8), some (.inl x9), some (.inl x10), some (.inl x11), some (.inl x12), some (.inl s.1), o14, o15, o16]) (st' := [.inl (((5 : Int32) * x12) + s.1), .inr (.inr (73, 0)), .inl r411]) (m' := m411) (by decide +kernel) rfl ?_
      refine go_iald h.1 (by decide +kernel) rfl rfl (fun b428 => ?_)
      show Go X (El X) 429 [some (.inr (.inr (60, 0))), some (.inr (.inr (0, 0))), some (.inr (.inr (70, 0))), o3, some (.inl x4), some (.inr (.inr (71, 0))), some (.inr (.inr (72, 0))), some (.inr (.inr (73, 0))), some (.inl x8), some (.inl x9), some (.inl x10), some (.inl x11), some (.inl x12), some (.inl s.1), o14, o15, o16] [.inl (m411 73 0 (ix (((5 : Int32) * x12) + s.1))), .inl r411] m411 _
      refine go_goto h.1 (off := 5) 434 (by decide +kernel) (by decide) ?_
      exact g_L_lawB_j434 h next exit (m411 73 0 (ix (((5 : Int32) * x12) + s.1))) r411 x4 x8 x9 x10 x11 x12 s.1 m411 (o3) (o14) (o15) (o16) hn hx

def f_L_lawB_j386 (L : Nat) (xsc : Nat → Int32) (next : Int32 × Mem → Option (Int32 × Mem)) (exit : Mem → Option (Int32 × Mem)) (s0 : Int32) (s1 : Int32) (x4 : Int32) (x8 : Int32) (x9 : Int32) (x10 : Int32) (x11 : Int32) (x12 : Int32) (m : Mem) : Option (Int32 × Mem) :=
  if s1 = s0 then
    lpk (f_L_lawB_b394 L xsc x4 x8 x9 x10 x11 x12) fuelN ((0 : Int32), m) (fun t394 =>
      next ((x12 + (1 : Int32)), t394))
  else
    some ((0 : Int32), m)
theorem g_L_lawB_j386 {X : XT} (h : MW X) (next : Int32 × Mem → Option (Int32 × Mem)) (exit : Mem → Option (Int32 × Mem)) (s0 : Int32) (s1 : Int32) (x4 : Int32) (x8 : Int32) (x9 : Int32) (x10 : Int32) (x11 : Int32) (x12 : Int32) (m : Mem) (o3 : Option AV) (o13 : Option AV) (o14 : Option AV) (o15 : Option AV) (o16 : Option AV) (hn : ∀ (y12 : Int32) (n : Mem) (o3 : Option AV) (o13 : Option AV) (o14 : Option AV) (o15 : Option AV) (o16 : Option AV), Go X (El X) 350 [some (.inr (.inr (60, 0))), some (.inr (.inr (0, 0))), some (.inr (.inr (70, 0))), o3, some (.inl x4), some (.inr (.inr (71, 0))), some (.inr (.inr (72, 0))), some (.inr (.inr (73, 0))), some (.inl x8), some (.inl x9), some (.inl x10), some (.inl x11), some (.inl y12), o13, o14, o15, o16] [] n (next (y12, n))) (hx : ∀ (n : Mem) (o3 : Option AV) (o10 : Option AV) (o11 : Option AV) (o12 : Option AV) (o13 : Option AV) (o14 : Option AV) (o15 : Option AV) (o16 : Option AV), Go X (El X) 451 [some (.inr (.inr (60, 0))), some (.inr (.inr (0, 0))), some (.inr (.inr (70, 0))), o3, some (.inl x4), some (.inr (.inr (71, 0))), some (.inr (.inr (72, 0))), some (.inr (.inr (73, 0))), some (.inl x8), some (.inl x9), o10, o11, o12, o13, o14, o15, o16] [] n (exit (n))) : Go X (El X) 386 [some (.inr (.inr (60, 0))), some (.inr (.inr (0, 0))), some (.inr (.inr (70, 0))), o3, some (.inl x4), some (.inr (.inr (71, 0))), some (.inr (.inr (72, 0))), some (.inr (.inr (73, 0))), some (.inl x8), some (.inl x9), some (.inl x10), some (.inl x11), some (.inl x12), o13, o14, o15, o16] [.inl s0, .inl s1] m (f_L_lawB_j386 (xL X) (xx X) next exit s0 s1 x4 x8 x9 x10 x11 x12 m) := by
  unfold f_L_lawB_j386
  refine go_icmpeq h.1 (off := 5) 391 (by decide +kernel) (by decide) (fun c386 => ?_) (fun c386 => ?_)
  · refine go_blk h.1 (is := [.iconst 0, .istore 13]) (pc' := 394) (ls' := [some (.inr (.inr (60, 0))), some (.inr (.inr (0, 0))), some (.inr (.inr (70, 0))), o3, some (.inl x4), some (.inr (.inr (71, 0))), some (.inr (.inr (72, 0))), some (.inr (.inr (73, 0))), some (.inl x8), some (.inl x9), some (.inl x10), some (.inl x11), some (.inl x12), some (.inl (0 : Int32)), o14, o15, o16]) (st' := []) (m' := m) (by decide +kernel) rfl ?_
    refine go_lp1 (hd := fun (y13 : Int32) (n : Mem) o => ∀ (o3 : Option AV) (o14 : Option AV) (o15 : Option AV) (o16 : Option AV), Go X (El X) 394 [some (.inr (.inr (60, 0))), some (.inr (.inr (0, 0))), some (.inr (.inr (70, 0))), o3, some (.inl x4), some (.inr (.inr (71, 0))), some (.inr (.inr (72, 0))), some (.inr (.inr (73, 0))), some (.inl x8), some (.inl x9), some (.inl x10), some (.inl x11), some (.inl x12), some (.inl y13), o14, o15, o16] [] n o) (fun _ _ _ _ _ _ => go_none) (fun y13 n nx_ hn_ => g_L_lawB_b394 h x4 x8 x9 x10 x11 x12 nx_ _ hn_ (fun z_394 o3_394 o13_394 o14_394 o15_394 o16_394 => ?_) (y13, n)) fuelN (0 : Int32) m (o3) (o14) (o15) (o16)
    refine go_blk h.1 (is := [.iinc 12 1]) (pc' := 448) (ls' := [some (.inr (.inr (60, 0))), some (.inr (.inr (0, 0))), some (.inr (.inr (70, 0))), o3_394, some (.inl x4), some (.inr (.inr (71, 0))), some (.inr (.inr (72, 0))), some (.inr (.inr (73, 0))), some (.inl x8), some (.inl x9), some (.inl x10), some (.inl x11), some (.inl (x12 + (1 : Int32))), o13_394, o14_394, o15_394, o16_394]) (st' := []) (m' := z_394) (by decide +kernel) rfl ?_
    refine go_goto h.1 (off := -98) 350 (by decide +kernel) (by decide) ?_
    exact hn (x12 + (1 : Int32)) z_394 (o3_394) (o13_394) (o14_394) (o15_394) (o16_394)
  · refine go_blk h.1 (is := [.iconst 0]) (pc' := 390) (ls' := [some (.inr (.inr (60, 0))), some (.inr (.inr (0, 0))), some (.inr (.inr (70, 0))), o3, some (.inl x4), some (.inr (.inr (71, 0))), some (.inr (.inr (72, 0))), some (.inr (.inr (73, 0))), some (.inl x8), some (.inl x9), some (.inl x10), some (.inl x11), some (.inl x12), o13, o14, o15, o16]) (st' := [.inl (0 : Int32)]) (m' := m) (by decide +kernel) rfl ?_
    exact go_law0

def f_L_lawB_b350 (L : Nat) (xsc : Nat → Int32) (x4 : Int32) (x8 : Int32) (x9 : Int32) (x10 : Int32) (x11 : Int32) (next : Int32 × Mem → Option (Int32 × Mem)) (exit : Mem → Option (Int32 × Mem)) (s : Int32 × Mem) : Option (Int32 × Mem) :=
  if x4 ≤ s.1 then
    exit (s.2)
  else
    bnd (f_X6_toll s.1 (1 : Int32) (0 : Int32) (2 : Int32) x9 s.2) (fun r365 m365 =>
      if 0 ≤ x10 then
        f_L_lawB_j386 L xsc next exit x11 r365 x4 x8 x9 x10 x11 s.1 m365
      else
        bnd (f_L_toll L xsc s.1 m365) (fun r378 m378 =>
          f_L_lawB_j386 L xsc next exit r378 r365 x4 x8 x9 x10 x11 s.1 m378))
theorem g_L_lawB_b350 {X : XT} (h : MW X) (x4 : Int32) (x8 : Int32) (x9 : Int32) (x10 : Int32) (x11 : Int32) (next : Int32 × Mem → Option (Int32 × Mem)) (exit : Mem → Option (Int32 × Mem)) (hn : ∀ (y12 : Int32) (n : Mem) (o3 : Option AV) (o13 : Option AV) (o14 : Option AV) (o15 : Option AV) (o16 : Option AV), Go X (El X) 350 [some (.inr (.inr (60, 0))), some (.inr (.inr (0, 0))), some (.inr (.inr (70, 0))), o3, some (.inl x4), some (.inr (.inr (71, 0))), some (.inr (.inr (72, 0))), some (.inr (.inr (73, 0))), some (.inl x8), some (.inl x9), some (.inl x10), some (.inl x11), some (.inl y12), o13, o14, o15, o16] [] n (next (y12, n))) (hx : ∀ (n : Mem) (o3 : Option AV) (o10 : Option AV) (o11 : Option AV) (o12 : Option AV) (o13 : Option AV) (o14 : Option AV) (o15 : Option AV) (o16 : Option AV), Go X (El X) 451 [some (.inr (.inr (60, 0))), some (.inr (.inr (0, 0))), some (.inr (.inr (70, 0))), o3, some (.inl x4), some (.inr (.inr (71, 0))), some (.inr (.inr (72, 0))), some (.inr (.inr (73, 0))), some (.inl x8), some (.inl x9), o10, o11, o12, o13, o14, o15, o16] [] n (exit (n))) (s : Int32 × Mem) (o3 : Option AV) (o13 : Option AV) (o14 : Option AV) (o15 : Option AV) (o16 : Option AV) : Go X (El X) 350 [some (.inr (.inr (60, 0))), some (.inr (.inr (0, 0))), some (.inr (.inr (70, 0))), o3, some (.inl x4), some (.inr (.inr (71, 0))), some (.inr (.inr (72, 0))), some (.inr (.inr (73, 0))), some (.inl x8), some (.inl x9), some (.inl x10), some (.inl x11), some (.inl s.1), o13, o14, o15, o16] [] s.2 (f_L_lawB_b350 (xL X) (xx X) x4 x8 x9 x10 x11 next exit s) := by
  unfold f_L_lawB_b350
  refine go_blk h.1 (is := [.iload 12, .iload 4]) (pc' := 354) (ls' := [some (.inr (.inr (60, 0))), some (.inr (.inr (0, 0))), some (.inr (.inr (70, 0))), o3, some (.inl x4), some (.inr (.inr (71, 0))), some (.inr (.inr (72, 0))), some (.inr (.inr (73, 0))), some (.inl x8), some (.inl x9), some (.inl x10), some (.inl x11), some (.inl s.1), o13, o14, o15, o16]) (st' := [.inl x4, .inl s.1]) (m' := s.2) (by decide +kernel) rfl ?_
  refine go_icmpge h.1 (off := 97) 451 (by decide +kernel) (by decide) (fun c354 => ?_) (fun c354 => ?_)
  · exact hx s.2 (o3) (some (.inl x10)) (some (.inl x11)) (some (.inl s.1)) (o13) (o14) (o15) (o16)
  · refine go_blk h.1 (is := [.aload_n 1, .iload 12, .iconst 1, .iconst 0, .iconst 2, .iload 9]) (pc' := 365) (ls' := [some (.inr (.inr (60, 0))), some (.inr (.inr (0, 0))), some (.inr (.inr (70, 0))), o3, some (.inl x4), some (.inr (.inr (71, 0))), some (.inr (.inr (72, 0))), some (.inr (.inr (73, 0))), some (.inl x8), some (.inl x9), some (.inl x10), some (.inl x11), some (.inl s.1), o13, o14, o15, o16]) (st' := [.inl x9, .inl (2 : Int32), .inl (0 : Int32), .inl (1 : Int32), .inl s.1, .inr (.inr (0, 0))]) (m' := s.2) (by decide +kernel) rfl ?_
    refine go_callV h.1 (index := 80) (n := 5) (t := 0) (i := 0) (ci := 6) (nf := 7) (cz := (RX6, TX6, 7)) (as := [.inl s.1, .inl (1 : Int32), .inl (0 : Int32), .inl (2 : Int32), .inl x9]) (rest := []) (ctr_X6_toll (xZ X) s.1 (1 : Int32) (0 : Int32) (2 : Int32) x9 s.2) (by decide +kernel) rfl rfl wd_v_L_80 rfl (h.room (by first | decide | omega) (by decide)) h.cl (Nat.le_of_ble_eq_true rfl) puI_ok rfl (fun r365 m365 _ => ?_)
    show Go X (El X) 368 [some (.inr (.inr (60, 0))), some (.inr (.inr (0, 0))), some (.inr (.inr (70, 0))), o3, some (.inl x4), some (.inr (.inr (71, 0))), some (.inr (.inr (72, 0))), some (.inr (.inr (73, 0))), some (.inl x8), some (.inl x9), some (.inl x10), some (.inl x11), some (.inl s.1), o13, o14, o15, o16] [.inl r365] m365 _
    refine go_blk h.1 (is := [.iload 10]) (pc' := 370) (ls' := [some (.inr (.inr (60, 0))), some (.inr (.inr (0, 0))), some (.inr (.inr (70, 0))), o3, some (.inl x4), some (.inr (.inr (71, 0))), some (.inr (.inr (72, 0))), some (.inr (.inr (73, 0))), some (.inl x8), some (.inl x9), some (.inl x10), some (.inl x11), some (.inl s.1), o13, o14, o15, o16]) (st' := [.inl x10, .inl r365]) (m' := m365) (by decide +kernel) rfl ?_
    refine go_ifge h.1 (off := 14) 384 (by decide +kernel) (by decide) (fun c370 => ?_) (fun c370 => ?_)
    · refine go_blk h.1 (is := [.iload 11]) (pc' := 386) (ls' := [some (.inr (.inr (60, 0))), some (.inr (.inr (0, 0))), some (.inr (.inr (70, 0))), o3, some (.inl x4), some (.inr (.inr (71, 0))), some (.inr (.inr (72, 0))), some (.inr (.inr (73, 0))), some (.inl x8), some (.inl x9), some (.inl x10), some (.inl x11), some (.inl s.1), o13, o14, o15, o16]) (st' := [.inl x11, .inl r365]) (m' := m365) (by decide +kernel) rfl ?_
      exact g_L_lawB_j386 h next exit x11 r365 x4 x8 x9 x10 x11 s.1 m365 (o3) (o13) (o14) (o15) (o16) hn hx
    · refine go_blk h.1 (is := [.aload_n 2, .iload 12, .aload 6]) (pc' := 378) (ls' := [some (.inr (.inr (60, 0))), some (.inr (.inr (0, 0))), some (.inr (.inr (70, 0))), o3, some (.inl x4), some (.inr (.inr (71, 0))), some (.inr (.inr (72, 0))), some (.inr (.inr (73, 0))), some (.inl x8), some (.inl x9), some (.inl x10), some (.inl x11), some (.inl s.1), o13, o14, o15, o16]) (st' := [.inr (.inr (72, 0)), .inl s.1, .inr (.inr (70, 0)), .inl r365]) (m' := m365) (by decide +kernel) rfl ?_
      refine go_callS h.1 (index := 41) (n := 3) (as := [.inr (.inr (70, 0)), .inl s.1, .inr (.inr (72, 0))]) (rest := [.inl r365]) (ctr_L_toll (xZ X) s.1 m365) (by decide +kernel) wd_s_L_41 rfl (h.room (by first | decide | omega) (by decide)) h.cl (Nat.le_of_ble_eq_true rfl) puI_ok rfl (fun r378 m378 _ => ?_)
      show Go X (El X) 381 [some (.inr (.inr (60, 0))), some (.inr (.inr (0, 0))), some (.inr (.inr (70, 0))), o3, some (.inl x4), some (.inr (.inr (71, 0))), some (.inr (.inr (72, 0))), some (.inr (.inr (73, 0))), some (.inl x8), some (.inl x9), some (.inl x10), some (.inl x11), some (.inl s.1), o13, o14, o15, o16] [.inl r378, .inl r365] m378 _
      refine go_goto h.1 (off := 5) 386 (by decide +kernel) (by decide) ?_
      exact g_L_lawB_j386 h next exit r378 r365 x4 x8 x9 x10 x11 s.1 m378 (o3) (o13) (o14) (o15) (o16) hn hx

def f_L_lawB_j520 (L : Nat) (xsc : Nat → Int32) (next : Int32 × Int32 × Mem → Option (Int32 × Mem)) (exit : Int32 × Mem → Option (Int32 × Mem)) (x4 : Int32) (x8 : Int32) (x9 : Int32) (x12 : Int32) (x13 : Int32) (x14 : Int32) (x15 : Int32) (m : Mem) : Option (Int32 × Mem) :=
  next (x14, (x15 + (-1 : Int32)), m)
theorem g_L_lawB_j520 {X : XT} (h : MW X) (next : Int32 × Int32 × Mem → Option (Int32 × Mem)) (exit : Int32 × Mem → Option (Int32 × Mem)) (x4 : Int32) (x8 : Int32) (x9 : Int32) (x12 : Int32) (x13 : Int32) (x14 : Int32) (x15 : Int32) (m : Mem) (o3 : Option AV) (o10 : Option AV) (o11 : Option AV) (o16 : Option AV) (hn : ∀ (y14 : Int32) (y15 : Int32) (n : Mem) (o3 : Option AV) (o10 : Option AV) (o11 : Option AV) (o16 : Option AV), Go X (El X) 484 [some (.inr (.inr (60, 0))), some (.inr (.inr (0, 0))), some (.inr (.inr (70, 0))), o3, some (.inl x4), some (.inr (.inr (71, 0))), some (.inr (.inr (72, 0))), some (.inr (.inr (73, 0))), some (.inl x8), some (.inl x9), o10, o11, some (.inl x12), some (.inl x13), some (.inl y14), some (.inl y15), o16] [] n (next (y14, y15, n))) (hx : ∀ (y14 : Int32) (n : Mem) (o3 : Option AV) (o10 : Option AV) (o11 : Option AV) (o15 : Option AV) (o16 : Option AV), Go X (El X) 526 [some (.inr (.inr (60, 0))), some (.inr (.inr (0, 0))), some (.inr (.inr (70, 0))), o3, some (.inl x4), some (.inr (.inr (71, 0))), some (.inr (.inr (72, 0))), some (.inr (.inr (73, 0))), some (.inl x8), some (.inl x9), o10, o11, some (.inl x12), some (.inl x13), some (.inl y14), o15, o16] [] n (exit (y14, n))) : Go X (El X) 520 [some (.inr (.inr (60, 0))), some (.inr (.inr (0, 0))), some (.inr (.inr (70, 0))), o3, some (.inl x4), some (.inr (.inr (71, 0))), some (.inr (.inr (72, 0))), some (.inr (.inr (73, 0))), some (.inl x8), some (.inl x9), o10, o11, some (.inl x12), some (.inl x13), some (.inl x14), some (.inl x15), o16] [] m (f_L_lawB_j520 (xL X) (xx X) next exit x4 x8 x9 x12 x13 x14 x15 m) := by
  unfold f_L_lawB_j520
  refine go_blk h.1 (is := [.iinc 15 (-1)]) (pc' := 523) (ls' := [some (.inr (.inr (60, 0))), some (.inr (.inr (0, 0))), some (.inr (.inr (70, 0))), o3, some (.inl x4), some (.inr (.inr (71, 0))), some (.inr (.inr (72, 0))), some (.inr (.inr (73, 0))), some (.inl x8), some (.inl x9), o10, o11, some (.inl x12), some (.inl x13), some (.inl x14), some (.inl (x15 + (-1 : Int32))), o16]) (st' := []) (m' := m) (by decide +kernel) rfl ?_
  refine go_goto h.1 (off := -39) 484 (by decide +kernel) (by decide) ?_
  exact hn x14 (x15 + (-1 : Int32)) m (o3) (o10) (o11) (o16)

def f_L_lawB_b484 (L : Nat) (xsc : Nat → Int32) (x4 : Int32) (x8 : Int32) (x9 : Int32) (x12 : Int32) (x13 : Int32) (next : Int32 × Int32 × Mem → Option (Int32 × Mem)) (exit : Int32 × Mem → Option (Int32 × Mem)) (s : Int32 × Int32 × Mem) : Option (Int32 × Mem) :=
  if s.2.1 < 0 then
    exit (s.1, s.2.2)
  else
    if inB ((13 : Int32) + x12) 28 = true then
      bnd (f_L_go L xsc x9 (mset s.2.2 70 0 (ix ((13 : Int32) + x12)) (x13 + s.2.1))) (fun r510 m510 =>
        if 0 ≤ r510 then
          f_L_lawB_j520 L xsc next exit x4 x8 x9 x12 x13 s.1 s.2.1 m510
        else
          f_L_lawB_j520 L xsc next exit x4 x8 x9 x12 x13 s.2.1 s.2.1 m510)
    else none
theorem g_L_lawB_b484 {X : XT} (h : MW X) (x4 : Int32) (x8 : Int32) (x9 : Int32) (x12 : Int32) (x13 : Int32) (next : Int32 × Int32 × Mem → Option (Int32 × Mem)) (exit : Int32 × Mem → Option (Int32 × Mem)) (hn : ∀ (y14 : Int32) (y15 : Int32) (n : Mem) (o3 : Option AV) (o10 : Option AV) (o11 : Option AV) (o16 : Option AV), Go X (El X) 484 [some (.inr (.inr (60, 0))), some (.inr (.inr (0, 0))), some (.inr (.inr (70, 0))), o3, some (.inl x4), some (.inr (.inr (71, 0))), some (.inr (.inr (72, 0))), some (.inr (.inr (73, 0))), some (.inl x8), some (.inl x9), o10, o11, some (.inl x12), some (.inl x13), some (.inl y14), some (.inl y15), o16] [] n (next (y14, y15, n))) (hx : ∀ (y14 : Int32) (n : Mem) (o3 : Option AV) (o10 : Option AV) (o11 : Option AV) (o15 : Option AV) (o16 : Option AV), Go X (El X) 526 [some (.inr (.inr (60, 0))), some (.inr (.inr (0, 0))), some (.inr (.inr (70, 0))), o3, some (.inl x4), some (.inr (.inr (71, 0))), some (.inr (.inr (72, 0))), some (.inr (.inr (73, 0))), some (.inl x8), some (.inl x9), o10, o11, some (.inl x12), some (.inl x13), some (.inl y14), o15, o16] [] n (exit (y14, n))) (s : Int32 × Int32 × Mem) (o3 : Option AV) (o10 : Option AV) (o11 : Option AV) (o16 : Option AV) : Go X (El X) 484 [some (.inr (.inr (60, 0))), some (.inr (.inr (0, 0))), some (.inr (.inr (70, 0))), o3, some (.inl x4), some (.inr (.inr (71, 0))), some (.inr (.inr (72, 0))), some (.inr (.inr (73, 0))), some (.inl x8), some (.inl x9), o10, o11, some (.inl x12), some (.inl x13), some (.inl s.1), some (.inl s.2.1), o16] [] s.2.2 (f_L_lawB_b484 (xL X) (xx X) x4 x8 x9 x12 x13 next exit s) := by
  unfold f_L_lawB_b484
  refine go_blk h.1 (is := [.iload 15]) (pc' := 486) (ls' := [some (.inr (.inr (60, 0))), some (.inr (.inr (0, 0))), some (.inr (.inr (70, 0))), o3, some (.inl x4), some (.inr (.inr (71, 0))), some (.inr (.inr (72, 0))), some (.inr (.inr (73, 0))), some (.inl x8), some (.inl x9), o10, o11, some (.inl x12), some (.inl x13), some (.inl s.1), some (.inl s.2.1), o16]) (st' := [.inl s.2.1]) (m' := s.2.2) (by decide +kernel) rfl ?_
  refine go_iflt h.1 (off := 40) 526 (by decide +kernel) (by decide) (fun c486 => ?_) (fun c486 => ?_)
  · exact hx s.1 s.2.2 (o3) (o10) (o11) (some (.inl s.2.1)) (o16)
  · refine go_blk h.1 (is := [.aload_n 2, .bipush 13, .iload 12, .iadd, .iload 13, .iload 15, .iadd]) (pc' := 500) (ls' := [some (.inr (.inr (60, 0))), some (.inr (.inr (0, 0))), some (.inr (.inr (70, 0))), o3, some (.inl x4), some (.inr (.inr (71, 0))), some (.inr (.inr (72, 0))), some (.inr (.inr (73, 0))), some (.inl x8), some (.inl x9), o10, o11, some (.inl x12), some (.inl x13), some (.inl s.1), some (.inl s.2.1), o16]) (st' := [.inl (x13 + s.2.1), .inl ((13 : Int32) + x12), .inr (.inr (70, 0))]) (m' := s.2.2) (by decide +kernel) rfl ?_
    refine go_iast h.1 (by decide +kernel) rfl rfl (fun b500 => ?_)
    refine go_blk h.1 (is := [.aload_n 2, .aload 5, .iload 9, .aload 6, .aload 7]) (pc' := 510) (ls' := [some (.inr (.inr (60, 0))), some (.inr (.inr (0, 0))), some (.inr (.inr (70, 0))), o3, some (.inl x4), some (.inr (.inr (71, 0))), some (.inr (.inr (72, 0))), some (.inr (.inr (73, 0))), some (.inl x8), some (.inl x9), o10, o11, some (.inl x12), some (.inl x13), some (.inl s.1), some (.inl s.2.1), o16]) (st' := [.inr (.inr (73, 0)), .inr (.inr (72, 0)), .inl x9, .inr (.inr (71, 0)), .inr (.inr (70, 0))]) (m' := (mset s.2.2 70 0 (ix ((13 : Int32) + x12)) (x13 + s.2.1))) (by decide +kernel) rfl ?_
    refine go_callS h.1 (index := 72) (n := 5) (as := [.inr (.inr (70, 0)), .inr (.inr (71, 0)), .inl x9, .inr (.inr (72, 0)), .inr (.inr (73, 0))]) (rest := []) (ctr_L_go (xZ X) x9 (mset s.2.2 70 0 (ix ((13 : Int32) + x12)) (x13 + s.2.1))) (by decide +kernel) wd_s_L_72 rfl (h.room (by first | decide | omega) (by decide)) h.cl (Nat.le_of_ble_eq_true rfl) puI_ok rfl (fun r510 m510 _ => ?_)
    show Go X (El X) 513 [some (.inr (.inr (60, 0))), some (.inr (.inr (0, 0))), some (.inr (.inr (70, 0))), o3, some (.inl x4), some (.inr (.inr (71, 0))), some (.inr (.inr (72, 0))), some (.inr (.inr (73, 0))), some (.inl x8), some (.inl x9), o10, o11, some (.inl x12), some (.inl x13), some (.inl s.1), some (.inl s.2.1), o16] [.inl r510] m510 _
    refine go_ifge h.1 (off := 7) 520 (by decide +kernel) (by decide) (fun c513 => ?_) (fun c513 => ?_)
    · exact g_L_lawB_j520 h next exit x4 x8 x9 x12 x13 s.1 s.2.1 m510 (o3) (o10) (o11) (o16) hn hx
    · refine go_blk h.1 (is := [.iload 15, .istore 14]) (pc' := 520) (ls' := [some (.inr (.inr (60, 0))), some (.inr (.inr (0, 0))), some (.inr (.inr (70, 0))), o3, some (.inl x4), some (.inr (.inr (71, 0))), some (.inr (.inr (72, 0))), some (.inr (.inr (73, 0))), some (.inl x8), some (.inl x9), o10, o11, some (.inl x12), some (.inl x13), some (.inl s.2.1), some (.inl s.2.1), o16]) (st' := []) (m' := m510) (by decide +kernel) rfl ?_
      exact g_L_lawB_j520 h next exit x4 x8 x9 x12 x13 s.2.1 s.2.1 m510 (o3) (o10) (o11) (o16) hn hx

def f_L_lawB_b578 (L : Nat) (xsc : Nat → Int32) (x4 : Int32) (x8 : Int32) (x15 : Int32) (next : Int32 × Mem → Option (Int32 × Mem)) (exit : Mem → Option (Int32 × Mem)) (s : Int32 × Mem) : Option (Int32 × Mem) :=
  if (5 : Int32) ≤ s.1 then
    exit (s.2)
  else
    bnd (f_X6_ofFish x15 s.1 s.2) (fun r589 m589 =>
      if inB (((3 : Int32) + ((5 : Int32) * s.1)) + x15) 28 = true then
        if r589 = (m589 70 0 (ix (((3 : Int32) + ((5 : Int32) * s.1)) + x15))) then
          next ((s.1 + (1 : Int32)), m589)
        else
          some ((0 : Int32), m589)
      else none)
theorem g_L_lawB_b578 {X : XT} (h : MW X) (x4 : Int32) (x8 : Int32) (x15 : Int32) (next : Int32 × Mem → Option (Int32 × Mem)) (exit : Mem → Option (Int32 × Mem)) (hn : ∀ (y16 : Int32) (n : Mem) (o3 : Option AV) (o9 : Option AV) (o10 : Option AV) (o11 : Option AV) (o12 : Option AV) (o13 : Option AV) (o14 : Option AV), Go X (El X) 578 [some (.inr (.inr (60, 0))), some (.inr (.inr (0, 0))), some (.inr (.inr (70, 0))), o3, some (.inl x4), some (.inr (.inr (71, 0))), some (.inr (.inr (72, 0))), some (.inr (.inr (73, 0))), some (.inl x8), o9, o10, o11, o12, o13, o14, some (.inl x15), some (.inl y16)] [] n (next (y16, n))) (hx : ∀ (n : Mem) (o3 : Option AV) (o9 : Option AV) (o10 : Option AV) (o11 : Option AV) (o12 : Option AV) (o13 : Option AV) (o14 : Option AV) (o16 : Option AV), Go X (El X) 614 [some (.inr (.inr (60, 0))), some (.inr (.inr (0, 0))), some (.inr (.inr (70, 0))), o3, some (.inl x4), some (.inr (.inr (71, 0))), some (.inr (.inr (72, 0))), some (.inr (.inr (73, 0))), some (.inl x8), o9, o10, o11, o12, o13, o14, some (.inl x15), o16] [] n (exit (n))) (s : Int32 × Mem) (o3 : Option AV) (o9 : Option AV) (o10 : Option AV) (o11 : Option AV) (o12 : Option AV) (o13 : Option AV) (o14 : Option AV) : Go X (El X) 578 [some (.inr (.inr (60, 0))), some (.inr (.inr (0, 0))), some (.inr (.inr (70, 0))), o3, some (.inl x4), some (.inr (.inr (71, 0))), some (.inr (.inr (72, 0))), some (.inr (.inr (73, 0))), some (.inl x8), o9, o10, o11, o12, o13, o14, some (.inl x15), some (.inl s.1)] [] s.2 (f_L_lawB_b578 (xL X) (xx X) x4 x8 x15 next exit s) := by
  unfold f_L_lawB_b578
  refine go_blk h.1 (is := [.iload 16, .iconst 5]) (pc' := 581) (ls' := [some (.inr (.inr (60, 0))), some (.inr (.inr (0, 0))), some (.inr (.inr (70, 0))), o3, some (.inl x4), some (.inr (.inr (71, 0))), some (.inr (.inr (72, 0))), some (.inr (.inr (73, 0))), some (.inl x8), o9, o10, o11, o12, o13, o14, some (.inl x15), some (.inl s.1)]) (st' := [.inl (5 : Int32), .inl s.1]) (m' := s.2) (by decide +kernel) rfl ?_
  refine go_icmpge h.1 (off := 33) 614 (by decide +kernel) (by decide) (fun c581 => ?_) (fun c581 => ?_)
  · exact hx s.2 (o3) (o9) (o10) (o11) (o12) (o13) (o14) (some (.inl s.1))
  · refine go_blk h.1 (is := [.aload_n 1, .iload 15, .iload 16]) (pc' := 589) (ls' := [some (.inr (.inr (60, 0))), some (.inr (.inr (0, 0))), some (.inr (.inr (70, 0))), o3, some (.inl x4), some (.inr (.inr (71, 0))), some (.inr (.inr (72, 0))), some (.inr (.inr (73, 0))), some (.inl x8), o9, o10, o11, o12, o13, o14, some (.inl x15), some (.inl s.1)]) (st' := [.inl s.1, .inl x15, .inr (.inr (0, 0))]) (m' := s.2) (by decide +kernel) rfl ?_
    refine go_callV h.1 (index := 89) (n := 2) (t := 0) (i := 0) (ci := 6) (nf := 7) (cz := (RX6, TX6, 7)) (as := [.inl x15, .inl s.1]) (rest := []) (ctr_X6_ofFish (xZ X) x15 s.1 s.2) (by decide +kernel) rfl rfl wd_v_L_89 rfl (h.room (by first | decide | omega) (by decide)) h.cl (Nat.le_of_ble_eq_true rfl) puI_ok rfl (fun r589 m589 _ => ?_)
    show Go X (El X) 592 [some (.inr (.inr (60, 0))), some (.inr (.inr (0, 0))), some (.inr (.inr (70, 0))), o3, some (.inl x4), some (.inr (.inr (71, 0))), some (.inr (.inr (72, 0))), some (.inr (.inr (73, 0))), some (.inl x8), o9, o10, o11, o12, o13, o14, some (.inl x15), some (.inl s.1)] [.inl r589] m589 _
    refine go_blk h.1 (is := [.aload_n 2, .iconst 3, .iconst 5, .iload 16, .imul, .iadd, .iload 15, .iadd]) (pc' := 602) (ls' := [some (.inr (.inr (60, 0))), some (.inr (.inr (0, 0))), some (.inr (.inr (70, 0))), o3, some (.inl x4), some (.inr (.inr (71, 0))), some (.inr (.inr (72, 0))), some (.inr (.inr (73, 0))), some (.inl x8), o9, o10, o11, o12, o13, o14, some (.inl x15), some (.inl s.1)]) (st' := [.inl (((3 : Int32) + ((5 : Int32) * s.1)) + x15), .inr (.inr (70, 0)), .inl r589]) (m' := m589) (by decide +kernel) rfl ?_
    refine go_iald h.1 (by decide +kernel) rfl rfl (fun b602 => ?_)
    show Go X (El X) 603 [some (.inr (.inr (60, 0))), some (.inr (.inr (0, 0))), some (.inr (.inr (70, 0))), o3, some (.inl x4), some (.inr (.inr (71, 0))), some (.inr (.inr (72, 0))), some (.inr (.inr (73, 0))), some (.inl x8), o9, o10, o11, o12, o13, o14, some (.inl x15), some (.inl s.1)] [.inl (m589 70 0 (ix (((3 : Int32) + ((5 : Int32) * s.1)) + x15))), .inl r589] m589 _
    refine go_icmpeq h.1 (off := 5) 608 (by decide +kernel) (by decide) (fun c603 => ?_) (fun c603 => ?_)
    · refine go_blk h.1 (is := [.iinc 16 1]) (pc' := 611) (ls' := [some (.inr (.inr (60, 0))), some (.inr (.inr (0, 0))), some (.inr (.inr (70, 0))), o3, some (.inl x4), some (.inr (.inr (71, 0))), some (.inr (.inr (72, 0))), some (.inr (.inr (73, 0))), some (.inl x8), o9, o10, o11, o12, o13, o14, some (.inl x15), some (.inl (s.1 + (1 : Int32)))]) (st' := []) (m' := m589) (by decide +kernel) rfl ?_
      refine go_goto h.1 (off := -33) 578 (by decide +kernel) (by decide) ?_
      exact hn (s.1 + (1 : Int32)) m589 (o3) (o9) (o10) (o11) (o12) (o13) (o14)
    · refine go_blk h.1 (is := [.iconst 0]) (pc' := 607) (ls' := [some (.inr (.inr (60, 0))), some (.inr (.inr (0, 0))), some (.inr (.inr (70, 0))), o3, some (.inl x4), some (.inr (.inr (71, 0))), some (.inr (.inr (72, 0))), some (.inr (.inr (73, 0))), some (.inl x8), o9, o10, o11, o12, o13, o14, some (.inl x15), some (.inl s.1)]) (st' := [.inl (0 : Int32)]) (m' := m589) (by decide +kernel) rfl ?_
      exact go_law0

def f_L_lawB_b568 (L : Nat) (xsc : Nat → Int32) (x4 : Int32) (x8 : Int32) (next : Int32 × Mem → Option (Int32 × Mem)) (exit : Mem → Option (Int32 × Mem)) (s : Int32 × Mem) : Option (Int32 × Mem) :=
  if x4 ≤ s.1 then
    exit (s.2)
  else
    lpk (f_L_lawB_b578 L xsc x4 x8 s.1) fuelN ((0 : Int32), s.2) (fun t578 =>
      bnd (f_X6_ofFish s.1 (5 : Int32) t578) (fun r618 m618 =>
        bnd (f_L_share L xsc s.1 m618) (fun r624 m624 =>
          if r618 = r624 then
            next ((s.1 + (1 : Int32)), m624)
          else
            some ((0 : Int32), m624))))
theorem g_L_lawB_b568 {X : XT} (h : MW X) (x4 : Int32) (x8 : Int32) (next : Int32 × Mem → Option (Int32 × Mem)) (exit : Mem → Option (Int32 × Mem)) (hn : ∀ (y15 : Int32) (n : Mem) (o3 : Option AV) (o9 : Option AV) (o10 : Option AV) (o11 : Option AV) (o12 : Option AV) (o13 : Option AV) (o14 : Option AV) (o16 : Option AV), Go X (El X) 568 [some (.inr (.inr (60, 0))), some (.inr (.inr (0, 0))), some (.inr (.inr (70, 0))), o3, some (.inl x4), some (.inr (.inr (71, 0))), some (.inr (.inr (72, 0))), some (.inr (.inr (73, 0))), some (.inl x8), o9, o10, o11, o12, o13, o14, some (.inl y15), o16] [] n (next (y15, n))) (hx : ∀ (n : Mem) (o3 : Option AV) (o9 : Option AV) (o10 : Option AV) (o11 : Option AV) (o12 : Option AV) (o13 : Option AV) (o14 : Option AV) (o15 : Option AV) (o16 : Option AV), Go X (El X) 638 [some (.inr (.inr (60, 0))), some (.inr (.inr (0, 0))), some (.inr (.inr (70, 0))), o3, some (.inl x4), some (.inr (.inr (71, 0))), some (.inr (.inr (72, 0))), some (.inr (.inr (73, 0))), some (.inl x8), o9, o10, o11, o12, o13, o14, o15, o16] [] n (exit (n))) (s : Int32 × Mem) (o3 : Option AV) (o9 : Option AV) (o10 : Option AV) (o11 : Option AV) (o12 : Option AV) (o13 : Option AV) (o14 : Option AV) (o16 : Option AV) : Go X (El X) 568 [some (.inr (.inr (60, 0))), some (.inr (.inr (0, 0))), some (.inr (.inr (70, 0))), o3, some (.inl x4), some (.inr (.inr (71, 0))), some (.inr (.inr (72, 0))), some (.inr (.inr (73, 0))), some (.inl x8), o9, o10, o11, o12, o13, o14, some (.inl s.1), o16] [] s.2 (f_L_lawB_b568 (xL X) (xx X) x4 x8 next exit s) := by
  unfold f_L_lawB_b568
  refine go_blk h.1 (is := [.iload 15, .iload 4]) (pc' := 572) (ls' := [some (.inr (.inr (60, 0))), some (.inr (.inr (0, 0))), some (.inr (.inr (70, 0))), o3, some (.inl x4), some (.inr (.inr (71, 0))), some (.inr (.inr (72, 0))), some (.inr (.inr (73, 0))), some (.inl x8), o9, o10, o11, o12, o13, o14, some (.inl s.1), o16]) (st' := [.inl x4, .inl s.1]) (m' := s.2) (by decide +kernel) rfl ?_
  refine go_icmpge h.1 (off := 66) 638 (by decide +kernel) (by decide) (fun c572 => ?_) (fun c572 => ?_)
  · exact hx s.2 (o3) (o9) (o10) (o11) (o12) (o13) (o14) (some (.inl s.1)) (o16)
  · refine go_blk h.1 (is := [.iconst 0, .istore 16]) (pc' := 578) (ls' := [some (.inr (.inr (60, 0))), some (.inr (.inr (0, 0))), some (.inr (.inr (70, 0))), o3, some (.inl x4), some (.inr (.inr (71, 0))), some (.inr (.inr (72, 0))), some (.inr (.inr (73, 0))), some (.inl x8), o9, o10, o11, o12, o13, o14, some (.inl s.1), some (.inl (0 : Int32))]) (st' := []) (m' := s.2) (by decide +kernel) rfl ?_
    refine go_lp1 (hd := fun (y16 : Int32) (n : Mem) o => ∀ (o3 : Option AV) (o9 : Option AV) (o10 : Option AV) (o11 : Option AV) (o12 : Option AV) (o13 : Option AV) (o14 : Option AV), Go X (El X) 578 [some (.inr (.inr (60, 0))), some (.inr (.inr (0, 0))), some (.inr (.inr (70, 0))), o3, some (.inl x4), some (.inr (.inr (71, 0))), some (.inr (.inr (72, 0))), some (.inr (.inr (73, 0))), some (.inl x8), o9, o10, o11, o12, o13, o14, some (.inl s.1), some (.inl y16)] [] n o) (fun _ _ _ _ _ _ _ _ _ => go_none) (fun y16 n nx_ hn_ => g_L_lawB_b578 h x4 x8 s.1 nx_ _ hn_ (fun z_578 o3_578 o9_578 o10_578 o11_578 o12_578 o13_578 o14_578 o16_578 => ?_) (y16, n)) fuelN (0 : Int32) s.2 (o3) (o9) (o10) (o11) (o12) (o13) (o14)
    refine go_blk h.1 (is := [.aload_n 1, .iload 15, .iconst 5]) (pc' := 618) (ls' := [some (.inr (.inr (60, 0))), some (.inr (.inr (0, 0))), some (.inr (.inr (70, 0))), o3_578, some (.inl x4), some (.inr (.inr (71, 0))), some (.inr (.inr (72, 0))), some (.inr (.inr (73, 0))), some (.inl x8), o9_578, o10_578, o11_578, o12_578, o13_578, o14_578, some (.inl s.1), o16_578]) (st' := [.inl (5 : Int32), .inl s.1, .inr (.inr (0, 0))]) (m' := z_578) (by decide +kernel) rfl ?_
    refine go_callV h.1 (index := 89) (n := 2) (t := 0) (i := 0) (ci := 6) (nf := 7) (cz := (RX6, TX6, 7)) (as := [.inl s.1, .inl (5 : Int32)]) (rest := []) (ctr_X6_ofFish (xZ X) s.1 (5 : Int32) z_578) (by decide +kernel) rfl rfl wd_v_L_89 rfl (h.room (by first | decide | omega) (by decide)) h.cl (Nat.le_of_ble_eq_true rfl) puI_ok rfl (fun r618 m618 _ => ?_)
    show Go X (El X) 621 [some (.inr (.inr (60, 0))), some (.inr (.inr (0, 0))), some (.inr (.inr (70, 0))), o3_578, some (.inl x4), some (.inr (.inr (71, 0))), some (.inr (.inr (72, 0))), some (.inr (.inr (73, 0))), some (.inl x8), o9_578, o10_578, o11_578, o12_578, o13_578, o14_578, some (.inl s.1), o16_578] [.inl r618] m618 _
    refine go_blk h.1 (is := [.aload_n 2, .iload 15]) (pc' := 624) (ls' := [some (.inr (.inr (60, 0))), some (.inr (.inr (0, 0))), some (.inr (.inr (70, 0))), o3_578, some (.inl x4), some (.inr (.inr (71, 0))), some (.inr (.inr (72, 0))), some (.inr (.inr (73, 0))), some (.inl x8), o9_578, o10_578, o11_578, o12_578, o13_578, o14_578, some (.inl s.1), o16_578]) (st' := [.inl s.1, .inr (.inr (70, 0)), .inl r618]) (m' := m618) (by decide +kernel) rfl ?_
    refine go_callS h.1 (index := 38) (n := 2) (as := [.inr (.inr (70, 0)), .inl s.1]) (rest := [.inl r618]) (ctr_L_share (xZ X) s.1 m618) (by decide +kernel) wd_s_L_38 rfl (h.room (by first | decide | omega) (by decide)) h.cl (Nat.le_of_ble_eq_true rfl) puI_ok rfl (fun r624 m624 _ => ?_)
    show Go X (El X) 627 [some (.inr (.inr (60, 0))), some (.inr (.inr (0, 0))), some (.inr (.inr (70, 0))), o3_578, some (.inl x4), some (.inr (.inr (71, 0))), some (.inr (.inr (72, 0))), some (.inr (.inr (73, 0))), some (.inl x8), o9_578, o10_578, o11_578, o12_578, o13_578, o14_578, some (.inl s.1), o16_578] [.inl r624, .inl r618] m624 _
    refine go_icmpeq h.1 (off := 5) 632 (by decide +kernel) (by decide) (fun c627 => ?_) (fun c627 => ?_)
    · refine go_blk h.1 (is := [.iinc 15 1]) (pc' := 635) (ls' := [some (.inr (.inr (60, 0))), some (.inr (.inr (0, 0))), some (.inr (.inr (70, 0))), o3_578, some (.inl x4), some (.inr (.inr (71, 0))), some (.inr (.inr (72, 0))), some (.inr (.inr (73, 0))), some (.inl x8), o9_578, o10_578, o11_578, o12_578, o13_578, (clrL o14_578), some (.inl (s.1 + (1 : Int32))), o16_578]) (st' := []) (m' := m624) (by decide +kernel) rfl ?_
      refine go_goto h.1 (off := -67) 568 (by decide +kernel) (by decide) ?_
      exact hn (s.1 + (1 : Int32)) m624 (o3_578) (o9_578) (o10_578) (o11_578) (o12_578) (o13_578) ((clrL o14_578)) (o16_578)
    · refine go_blk h.1 (is := [.iconst 0]) (pc' := 631) (ls' := [some (.inr (.inr (60, 0))), some (.inr (.inr (0, 0))), some (.inr (.inr (70, 0))), o3_578, some (.inl x4), some (.inr (.inr (71, 0))), some (.inr (.inr (72, 0))), some (.inr (.inr (73, 0))), some (.inl x8), o9_578, o10_578, o11_578, o12_578, o13_578, o14_578, some (.inl s.1), o16_578]) (st' := [.inl (0 : Int32)]) (m' := m624) (by decide +kernel) rfl ?_
      exact go_law0

def f_L_lawB_j281 (L : Nat) (xsc : Nat → Int32) (next : Int32 × Mem → Option (Int32 × Mem)) (exit : Mem → Option (Int32 × Mem)) (s0 : Int32) (s1 : Int32) (x4 : Int32) (x8 : Int32) (x9 : Int32) (x10 : Int32) (x11 : Int32) (m : Mem) : Option (Int32 × Mem) :=
  if s1 = s0 then
    lpk (f_L_lawB_b289 L xsc x4 x8 x9 x10 x11) fuelN ((0 : Int32), m) (fun t289 =>
      lpk (f_L_lawB_b350 L xsc x4 x8 x9 x10 x11) fuelN ((0 : Int32), t289) (fun t350 =>
        bnd (f_L_cell L xsc ((29 : Int32) + x8) t350) (fun r457 m457 =>
          bnd (f_L_some L xsc r457 x4 m457) (fun r462 m462 =>
            if inB ((13 : Int32) + r462) 28 = true then
              lpk (f_L_lawB_b484 L xsc x4 x8 x9 r462 (m462 70 0 (ix ((13 : Int32) + r462)))) fuelN ((-9 : Int32), (99 : Int32), m462) (fun t484 =>
                if inB ((13 : Int32) + r462) 28 = true then
                  bnd (f_X6_wants r462 (1 : Int32) (0 : Int32) (2 : Int32) x9 (mset t484.2 70 0 (ix ((13 : Int32) + r462)) (m462 70 0 (ix ((13 : Int32) + r462))))) (fun r543 m543 =>
                    if r543 = t484.1 then
                      bnd (f_X6_ofFish r462 (2 : Int32) m543) (fun r555 m555 =>
                        if r555 = (m462 70 0 (ix ((13 : Int32) + r462))) then
                          lpk (f_L_lawB_b568 L xsc x4 x8) fuelN ((0 : Int32), m555) (fun t568 =>
                            bnd (f_X6_many (1 : Int32) t568) (fun r640 m640 =>
                              if inB (0 : Int32) 28 = true then
                                if r640 = (m640 70 0 (ix (0 : Int32))) then
                                  bnd (f_X6_many (2 : Int32) m640) (fun r651 m651 =>
                                    if inB (2 : Int32) 28 = true then
                                      if r651 = (m651 70 0 (ix (2 : Int32))) then
                                        next ((x8 + (1 : Int32)), m651)
                                      else
                                        some ((0 : Int32), m651)
                                    else none)
                                else
                                  some ((0 : Int32), m640)
                              else none))
                        else
                          some ((0 : Int32), m555))
                    else
                      some ((0 : Int32), m543))
                else none)
            else none))))
  else
    some ((0 : Int32), m)
theorem g_L_lawB_j281 {X : XT} (h : MW X) (next : Int32 × Mem → Option (Int32 × Mem)) (exit : Mem → Option (Int32 × Mem)) (s0 : Int32) (s1 : Int32) (x4 : Int32) (x8 : Int32) (x9 : Int32) (x10 : Int32) (x11 : Int32) (m : Mem) (o3 : Option AV) (o12 : Option AV) (o13 : Option AV) (o14 : Option AV) (o15 : Option AV) (o16 : Option AV) (hn : ∀ (y8 : Int32) (n : Mem) (o3 : Option AV) (o9 : Option AV) (o10 : Option AV) (o11 : Option AV) (o12 : Option AV) (o13 : Option AV) (o14 : Option AV) (o15 : Option AV) (o16 : Option AV), Go X (El X) 80 [some (.inr (.inr (60, 0))), some (.inr (.inr (0, 0))), some (.inr (.inr (70, 0))), o3, some (.inl x4), some (.inr (.inr (71, 0))), some (.inr (.inr (72, 0))), some (.inr (.inr (73, 0))), some (.inl y8), o9, o10, o11, o12, o13, o14, o15, o16] [] n (next (y8, n))) (hx : ∀ (n : Mem) (o0 : Option AV) (o2 : Option AV) (o3 : Option AV) (o5 : Option AV) (o6 : Option AV) (o7 : Option AV) (o8 : Option AV) (o9 : Option AV) (o10 : Option AV) (o11 : Option AV) (o12 : Option AV) (o13 : Option AV) (o14 : Option AV) (o15 : Option AV) (o16 : Option AV), Go X (El X) 668 [o0, some (.inr (.inr (0, 0))), o2, o3, some (.inl x4), o5, o6, o7, o8, o9, o10, o11, o12, o13, o14, o15, o16] [] n (exit (n))) : Go X (El X) 281 [some (.inr (.inr (60, 0))), some (.inr (.inr (0, 0))), some (.inr (.inr (70, 0))), o3, some (.inl x4), some (.inr (.inr (71, 0))), some (.inr (.inr (72, 0))), some (.inr (.inr (73, 0))), some (.inl x8), some (.inl x9), some (.inl x10), some (.inl x11), o12, o13, o14, o15, o16] [.inl s0, .inl s1] m (f_L_lawB_j281 (xL X) (xx X) next exit s0 s1 x4 x8 x9 x10 x11 m) := by
  unfold f_L_lawB_j281
  refine go_icmpeq h.1 (off := 5) 286 (by decide +kernel) (by decide) (fun c281 => ?_) (fun c281 => ?_)
  · refine go_blk h.1 (is := [.iconst 0, .istore 12]) (pc' := 289) (ls' := [some (.inr (.inr (60, 0))), some (.inr (.inr (0, 0))), some (.inr (.inr (70, 0))), o3, some (.inl x4), some (.inr (.inr (71, 0))), some (.inr (.inr (72, 0))), some (.inr (.inr (73, 0))), some (.inl x8), some (.inl x9), some (.inl x10), some (.inl x11), some (.inl (0 : Int32)), o13, o14, o15, o16]) (st' := []) (m' := m) (by decide +kernel) rfl ?_
    refine go_lp1 (hd := fun (y12 : Int32) (n : Mem) o => ∀ (o3 : Option AV) (o13 : Option AV) (o14 : Option AV) (o15 : Option AV) (o16 : Option AV), Go X (El X) 289 [some (.inr (.inr (60, 0))), some (.inr (.inr (0, 0))), some (.inr (.inr (70, 0))), o3, some (.inl x4), some (.inr (.inr (71, 0))), some (.inr (.inr (72, 0))), some (.inr (.inr (73, 0))), some (.inl x8), some (.inl x9), some (.inl x10), some (.inl x11), some (.inl y12), o13, o14, o15, o16] [] n o) (fun _ _ _ _ _ _ _ => go_none) (fun y12 n nx_ hn_ => g_L_lawB_b289 h x4 x8 x9 x10 x11 nx_ _ hn_ (fun z_289 o3_289 o12_289 o13_289 o14_289 o15_289 o16_289 => ?_) (y12, n)) fuelN (0 : Int32) m (o3) (o13) (o14) (o15) (o16)
    refine go_blk h.1 (is := [.iconst 0, .istore 12]) (pc' := 350) (ls' := [some (.inr (.inr (60, 0))), some (.inr (.inr (0, 0))), some (.inr (.inr (70, 0))), o3_289, some (.inl x4), some (.inr (.inr (71, 0))), some (.inr (.inr (72, 0))), some (.inr (.inr (73, 0))), some (.inl x8), some (.inl x9), some (.inl x10), some (.inl x11), some (.inl (0 : Int32)), o13_289, o14_289, o15_289, o16_289]) (st' := []) (m' := z_289) (by decide +kernel) rfl ?_
    refine go_lp1 (hd := fun (y12 : Int32) (n : Mem) o => ∀ (o3 : Option AV) (o13 : Option AV) (o14 : Option AV) (o15 : Option AV) (o16 : Option AV), Go X (El X) 350 [some (.inr (.inr (60, 0))), some (.inr (.inr (0, 0))), some (.inr (.inr (70, 0))), o3, some (.inl x4), some (.inr (.inr (71, 0))), some (.inr (.inr (72, 0))), some (.inr (.inr (73, 0))), some (.inl x8), some (.inl x9), some (.inl x10), some (.inl x11), some (.inl y12), o13, o14, o15, o16] [] n o) (fun _ _ _ _ _ _ _ => go_none) (fun y12 n nx_ hn_ => g_L_lawB_b350 h x4 x8 x9 x10 x11 nx_ _ hn_ (fun z_350 o3_350 o10_350 o11_350 o12_350 o13_350 o14_350 o15_350 o16_350 => ?_) (y12, n)) fuelN (0 : Int32) z_289 (o3_289) (o13_289) (o14_289) (o15_289) (o16_289)
    refine go_blk h.1 (is := [.aload_n 0, .bipush 29, .iload 8, .iadd]) (pc' := 457) (ls' := [some (.inr (.inr (60, 0))), some (.inr (.inr (0, 0))), some (.inr (.inr (70, 0))), o3_350, some (.inl x4), some (.inr (.inr (71, 0))), some (.inr (.inr (72, 0))), some (.inr (.inr (73, 0))), some (.inl x8), some (.inl x9), o10_350, o11_350, o12_350, o13_350, o14_350, o15_350, o16_350]) (st' := [.inl ((29 : Int32) + x8), .inr (.inr (60, 0))]) (m' := z_350) (by decide +kernel) rfl ?_
    refine go_callS h.1 (index := 9) (n := 2) (as := [.inr (.inr (60, 0)), .inl ((29 : Int32) + x8)]) (rest := []) (ctr_L_cell (xZ X) ((29 : Int32) + x8) z_350) (by decide +kernel) wd_s_L_9 rfl (h.room (by first | decide | omega) (by decide)) h.cl (Nat.le_of_ble_eq_true rfl) puI_ok rfl (fun r457 m457 _ => ?_)
    show Go X (El X) 460 [some (.inr (.inr (60, 0))), some (.inr (.inr (0, 0))), some (.inr (.inr (70, 0))), o3_350, some (.inl x4), some (.inr (.inr (71, 0))), some (.inr (.inr (72, 0))), some (.inr (.inr (73, 0))), some (.inl x8), some (.inl x9), o10_350, o11_350, o12_350, o13_350, o14_350, o15_350, o16_350] [.inl r457] m457 _
    refine go_blk h.1 (is := [.iload 4]) (pc' := 462) (ls' := [some (.inr (.inr (60, 0))), some (.inr (.inr (0, 0))), some (.inr (.inr (70, 0))), o3_350, some (.inl x4), some (.inr (.inr (71, 0))), some (.inr (.inr (72, 0))), some (.inr (.inr (73, 0))), some (.inl x8), some (.inl x9), o10_350, o11_350, o12_350, o13_350, o14_350, o15_350, o16_350]) (st' := [.inl x4, .inl r457]) (m' := m457) (by decide +kernel) rfl ?_
    refine go_callS h.1 (index := 15) (n := 2) (as := [.inl r457, .inl x4]) (rest := []) (ctr_L_some (xZ X) r457 x4 m457) (by decide +kernel) wd_s_L_15 rfl (h.room (by first | decide | omega) (by decide)) h.cl (Nat.le_of_ble_eq_true rfl) puI_ok rfl (fun r462 m462 _ => ?_)
    show Go X (El X) 465 [some (.inr (.inr (60, 0))), some (.inr (.inr (0, 0))), some (.inr (.inr (70, 0))), o3_350, some (.inl x4), some (.inr (.inr (71, 0))), some (.inr (.inr (72, 0))), some (.inr (.inr (73, 0))), some (.inl x8), some (.inl x9), o10_350, o11_350, o12_350, o13_350, o14_350, o15_350, o16_350] [.inl r462] m462 _
    refine go_blk h.1 (is := [.istore 12, .aload_n 2, .bipush 13, .iload 12, .iadd]) (pc' := 473) (ls' := [some (.inr (.inr (60, 0))), some (.inr (.inr (0, 0))), some (.inr (.inr (70, 0))), o3_350, some (.inl x4), some (.inr (.inr (71, 0))), some (.inr (.inr (72, 0))), some (.inr (.inr (73, 0))), some (.inl x8), some (.inl x9), o10_350, (clrL o11_350), some (.inl r462), o13_350, o14_350, o15_350, o16_350]) (st' := [.inl ((13 : Int32) + r462), .inr (.inr (70, 0))]) (m' := m462) (by decide +kernel) rfl ?_
    refine go_iald h.1 (by decide +kernel) rfl rfl (fun b473 => ?_)
    show Go X (El X) 474 [some (.inr (.inr (60, 0))), some (.inr (.inr (0, 0))), some (.inr (.inr (70, 0))), o3_350, some (.inl x4), some (.inr (.inr (71, 0))), some (.inr (.inr (72, 0))), some (.inr (.inr (73, 0))), some (.inl x8), some (.inl x9), o10_350, (clrL o11_350), some (.inl r462), o13_350, o14_350, o15_350, o16_350] [.inl (m462 70 0 (ix ((13 : Int32) + r462)))] m462 _
    refine go_blk h.1 (is := [.istore 13, .bipush (-9), .istore 14, .bipush 99, .istore 15]) (pc' := 484) (ls' := [some (.inr (.inr (60, 0))), some (.inr (.inr (0, 0))), some (.inr (.inr (70, 0))), o3_350, some (.inl x4), some (.inr (.inr (71, 0))), some (.inr (.inr (72, 0))), some (.inr (.inr (73, 0))), some (.inl x8), some (.inl x9), o10_350, (clrL o11_350), some (.inl r462), some (.inl (m462 70 0 (ix ((13 : Int32) + r462)))), some (.inl (-9 : Int32)), some (.inl (99 : Int32)), o16_350]) (st' := []) (m' := m462) (by decide +kernel) rfl ?_
    refine go_lp2 (hd := fun (y14 : Int32) (y15 : Int32) (n : Mem) o => ∀ (o3 : Option AV) (o10 : Option AV) (o11 : Option AV) (o16 : Option AV), Go X (El X) 484 [some (.inr (.inr (60, 0))), some (.inr (.inr (0, 0))), some (.inr (.inr (70, 0))), o3, some (.inl x4), some (.inr (.inr (71, 0))), some (.inr (.inr (72, 0))), some (.inr (.inr (73, 0))), some (.inl x8), some (.inl x9), o10, o11, some (.inl r462), some (.inl (m462 70 0 (ix ((13 : Int32) + r462)))), some (.inl y14), some (.inl y15), o16] [] n o) (fun _ _ _ _ _ _ _ => go_none) (fun y14 y15 n nx_ hn_ => g_L_lawB_b484 h x4 x8 x9 r462 (m462 70 0 (ix ((13 : Int32) + r462))) nx_ _ hn_ (fun z14_484 z_484 o3_484 o10_484 o11_484 o15_484 o16_484 => ?_) (y14, y15, n)) fuelN (-9 : Int32) (99 : Int32) m462 (o3_350) (o10_350) ((clrL o11_350)) (o16_350)
    refine go_blk h.1 (is := [.aload_n 2, .bipush 13, .iload 12, .iadd, .iload 13]) (pc' := 534) (ls' := [some (.inr (.inr (60, 0))), some (.inr (.inr (0, 0))), some (.inr (.inr (70, 0))), o3_484, some (.inl x4), some (.inr (.inr (71, 0))), some (.inr (.inr (72, 0))), some (.inr (.inr (73, 0))), some (.inl x8), some (.inl x9), o10_484, o11_484, some (.inl r462), some (.inl (m462 70 0 (ix ((13 : Int32) + r462)))), some (.inl z14_484), o15_484, o16_484]) (st' := [.inl (m462 70 0 (ix ((13 : Int32) + r462))), .inl ((13 : Int32) + r462), .inr (.inr (70, 0))]) (m' := z_484) (by decide +kernel) rfl ?_
    refine go_iast h.1 (by decide +kernel) rfl rfl (fun b534 => ?_)
    refine go_blk h.1 (is := [.aload_n 1, .iload 12, .iconst 1, .iconst 0, .iconst 2, .iload 9]) (pc' := 543) (ls' := [some (.inr (.inr (60, 0))), some (.inr (.inr (0, 0))), some (.inr (.inr (70, 0))), o3_484, some (.inl x4), some (.inr (.inr (71, 0))), some (.inr (.inr (72, 0))), some (.inr (.inr (73, 0))), some (.inl x8), some (.inl x9), o10_484, o11_484, some (.inl r462), some (.inl (m462 70 0 (ix ((13 : Int32) + r462)))), some (.inl z14_484), o15_484, o16_484]) (st' := [.inl x9, .inl (2 : Int32), .inl (0 : Int32), .inl (1 : Int32), .inl r462, .inr (.inr (0, 0))]) (m' := (mset z_484 70 0 (ix ((13 : Int32) + r462)) (m462 70 0 (ix ((13 : Int32) + r462))))) (by decide +kernel) rfl ?_
    refine go_callV h.1 (index := 86) (n := 5) (t := 0) (i := 0) (ci := 6) (nf := 7) (cz := (RX6, TX6, 7)) (as := [.inl r462, .inl (1 : Int32), .inl (0 : Int32), .inl (2 : Int32), .inl x9]) (rest := []) (ctr_X6_wants (xZ X) r462 (1 : Int32) (0 : Int32) (2 : Int32) x9 (mset z_484 70 0 (ix ((13 : Int32) + r462)) (m462 70 0 (ix ((13 : Int32) + r462))))) (by decide +kernel) rfl rfl wd_v_L_86 rfl (h.room (by first | decide | omega) (by decide)) h.cl (Nat.le_of_ble_eq_true rfl) puI_ok rfl (fun r543 m543 _ => ?_)
    show Go X (El X) 546 [some (.inr (.inr (60, 0))), some (.inr (.inr (0, 0))), some (.inr (.inr (70, 0))), o3_484, some (.inl x4), some (.inr (.inr (71, 0))), some (.inr (.inr (72, 0))), some (.inr (.inr (73, 0))), some (.inl x8), some (.inl x9), o10_484, o11_484, some (.inl r462), some (.inl (m462 70 0 (ix ((13 : Int32) + r462)))), some (.inl z14_484), o15_484, o16_484] [.inl r543] m543 _
    refine go_blk h.1 (is := [.iload 14]) (pc' := 548) (ls' := [some (.inr (.inr (60, 0))), some (.inr (.inr (0, 0))), some (.inr (.inr (70, 0))), o3_484, some (.inl x4), some (.inr (.inr (71, 0))), some (.inr (.inr (72, 0))), some (.inr (.inr (73, 0))), some (.inl x8), some (.inl x9), o10_484, o11_484, some (.inl r462), some (.inl (m462 70 0 (ix ((13 : Int32) + r462)))), some (.inl z14_484), o15_484, o16_484]) (st' := [.inl z14_484, .inl r543]) (m' := m543) (by decide +kernel) rfl ?_
    refine go_icmpne h.1 (off := 15) 563 (by decide +kernel) (by decide) (fun c548 => ?_) (fun c548 => ?_)
    · refine go_blk h.1 (is := [.iconst 0]) (pc' := 564) (ls' := [some (.inr (.inr (60, 0))), some (.inr (.inr (0, 0))), some (.inr (.inr (70, 0))), o3_484, some (.inl x4), some (.inr (.inr (71, 0))), some (.inr (.inr (72, 0))), some (.inr (.inr (73, 0))), some (.inl x8), some (.inl x9), o10_484, o11_484, some (.inl r462), some (.inl (m462 70 0 (ix ((13 : Int32) + r462)))), some (.inl z14_484), o15_484, o16_484]) (st' := [.inl (0 : Int32)]) (m' := m543) (by decide +kernel) rfl ?_
      exact go_law0
    · refine go_blk h.1 (is := [.aload_n 1, .iload 12, .iconst 2]) (pc' := 555) (ls' := [some (.inr (.inr (60, 0))), some (.inr (.inr (0, 0))), some (.inr (.inr (70, 0))), o3_484, some (.inl x4), some (.inr (.inr (71, 0))), some (.inr (.inr (72, 0))), some (.inr (.inr (73, 0))), some (.inl x8), some (.inl x9), o10_484, o11_484, some (.inl r462), some (.inl (m462 70 0 (ix ((13 : Int32) + r462)))), some (.inl z14_484), o15_484, o16_484]) (st' := [.inl (2 : Int32), .inl r462, .inr (.inr (0, 0))]) (m' := m543) (by decide +kernel) rfl ?_
      refine go_callV h.1 (index := 89) (n := 2) (t := 0) (i := 0) (ci := 6) (nf := 7) (cz := (RX6, TX6, 7)) (as := [.inl r462, .inl (2 : Int32)]) (rest := []) (ctr_X6_ofFish (xZ X) r462 (2 : Int32) m543) (by decide +kernel) rfl rfl wd_v_L_89 rfl (h.room (by first | decide | omega) (by decide)) h.cl (Nat.le_of_ble_eq_true rfl) puI_ok rfl (fun r555 m555 _ => ?_)
      show Go X (El X) 558 [some (.inr (.inr (60, 0))), some (.inr (.inr (0, 0))), some (.inr (.inr (70, 0))), o3_484, some (.inl x4), some (.inr (.inr (71, 0))), some (.inr (.inr (72, 0))), some (.inr (.inr (73, 0))), some (.inl x8), some (.inl x9), o10_484, o11_484, some (.inl r462), some (.inl (m462 70 0 (ix ((13 : Int32) + r462)))), some (.inl z14_484), o15_484, o16_484] [.inl r555] m555 _
      refine go_blk h.1 (is := [.iload 13]) (pc' := 560) (ls' := [some (.inr (.inr (60, 0))), some (.inr (.inr (0, 0))), some (.inr (.inr (70, 0))), o3_484, some (.inl x4), some (.inr (.inr (71, 0))), some (.inr (.inr (72, 0))), some (.inr (.inr (73, 0))), some (.inl x8), some (.inl x9), o10_484, o11_484, some (.inl r462), some (.inl (m462 70 0 (ix ((13 : Int32) + r462)))), some (.inl z14_484), o15_484, o16_484]) (st' := [.inl (m462 70 0 (ix ((13 : Int32) + r462))), .inl r555]) (m' := m555) (by decide +kernel) rfl ?_
      refine go_icmpeq h.1 (off := 5) 565 (by decide +kernel) (by decide) (fun c560 => ?_) (fun c560 => ?_)
      · refine go_blk h.1 (is := [.iconst 0, .istore 15]) (pc' := 568) (ls' := [some (.inr (.inr (60, 0))), some (.inr (.inr (0, 0))), some (.inr (.inr (70, 0))), o3_484, some (.inl x4), some (.inr (.inr (71, 0))), some (.inr (.inr (72, 0))), some (.inr (.inr (73, 0))), some (.inl x8), some (.inl x9), o10_484, o11_484, some (.inl r462), some (.inl (m462 70 0 (ix ((13 : Int32) + r462)))), some (.inl z14_484), some (.inl (0 : Int32)), o16_484]) (st' := []) (m' := m555) (by decide +kernel) rfl ?_
        refine go_lp1 (hd := fun (y15 : Int32) (n : Mem) o => ∀ (o3 : Option AV) (o9 : Option AV) (o10 : Option AV) (o11 : Option AV) (o12 : Option AV) (o13 : Option AV) (o14 : Option AV) (o16 : Option AV), Go X (El X) 568 [some (.inr (.inr (60, 0))), some (.inr (.inr (0, 0))), some (.inr (.inr (70, 0))), o3, some (.inl x4), some (.inr (.inr (71, 0))), some (.inr (.inr (72, 0))), some (.inr (.inr (73, 0))), some (.inl x8), o9, o10, o11, o12, o13, o14, some (.inl y15), o16] [] n o) (fun _ _ _ _ _ _ _ _ _ _ => go_none) (fun y15 n nx_ hn_ => g_L_lawB_b568 h x4 x8 nx_ _ hn_ (fun z_568 o3_568 o9_568 o10_568 o11_568 o12_568 o13_568 o14_568 o15_568 o16_568 => ?_) (y15, n)) fuelN (0 : Int32) m555 (o3_484) (some (.inl x9)) (o10_484) (o11_484) (some (.inl r462)) (some (.inl (m462 70 0 (ix ((13 : Int32) + r462))))) (some (.inl z14_484)) (o16_484)
        refine go_blk h.1 (is := [.aload_n 1, .iconst 1]) (pc' := 640) (ls' := [some (.inr (.inr (60, 0))), some (.inr (.inr (0, 0))), some (.inr (.inr (70, 0))), o3_568, some (.inl x4), some (.inr (.inr (71, 0))), some (.inr (.inr (72, 0))), some (.inr (.inr (73, 0))), some (.inl x8), o9_568, o10_568, o11_568, o12_568, o13_568, o14_568, o15_568, o16_568]) (st' := [.inl (1 : Int32), .inr (.inr (0, 0))]) (m' := z_568) (by decide +kernel) rfl ?_
        refine go_callV h.1 (index := 61) (n := 1) (t := 0) (i := 0) (ci := 6) (nf := 7) (cz := (RX6, TX6, 7)) (as := [.inl (1 : Int32)]) (rest := []) (ctr_X6_many (xZ X) (1 : Int32) z_568) (by decide +kernel) rfl rfl wd_v_L_61 rfl (h.room (by first | decide | omega) (by decide)) h.cl (Nat.le_of_ble_eq_true rfl) puI_ok rfl (fun r640 m640 _ => ?_)
        show Go X (El X) 643 [some (.inr (.inr (60, 0))), some (.inr (.inr (0, 0))), some (.inr (.inr (70, 0))), o3_568, some (.inl x4), some (.inr (.inr (71, 0))), some (.inr (.inr (72, 0))), some (.inr (.inr (73, 0))), some (.inl x8), o9_568, o10_568, o11_568, o12_568, o13_568, o14_568, o15_568, o16_568] [.inl r640] m640 _
        refine go_blk h.1 (is := [.aload_n 2, .iconst 0]) (pc' := 645) (ls' := [some (.inr (.inr (60, 0))), some (.inr (.inr (0, 0))), some (.inr (.inr (70, 0))), o3_568, some (.inl x4), some (.inr (.inr (71, 0))), some (.inr (.inr (72, 0))), some (.inr (.inr (73, 0))), some (.inl x8), o9_568, o10_568, o11_568, o12_568, o13_568, o14_568, o15_568, o16_568]) (st' := [.inl (0 : Int32), .inr (.inr (70, 0)), .inl r640]) (m' := m640) (by decide +kernel) rfl ?_
        refine go_iald h.1 (by decide +kernel) rfl rfl (fun b645 => ?_)
        show Go X (El X) 646 [some (.inr (.inr (60, 0))), some (.inr (.inr (0, 0))), some (.inr (.inr (70, 0))), o3_568, some (.inl x4), some (.inr (.inr (71, 0))), some (.inr (.inr (72, 0))), some (.inr (.inr (73, 0))), some (.inl x8), o9_568, o10_568, o11_568, o12_568, o13_568, o14_568, o15_568, o16_568] [.inl (m640 70 0 (ix (0 : Int32))), .inl r640] m640 _
        refine go_icmpne h.1 (off := 14) 660 (by decide +kernel) (by decide) (fun c646 => ?_) (fun c646 => ?_)
        · refine go_blk h.1 (is := [.iconst 0]) (pc' := 661) (ls' := [some (.inr (.inr (60, 0))), some (.inr (.inr (0, 0))), some (.inr (.inr (70, 0))), o3_568, some (.inl x4), some (.inr (.inr (71, 0))), some (.inr (.inr (72, 0))), some (.inr (.inr (73, 0))), some (.inl x8), o9_568, o10_568, o11_568, o12_568, o13_568, o14_568, o15_568, o16_568]) (st' := [.inl (0 : Int32)]) (m' := m640) (by decide +kernel) rfl ?_
          exact go_law0
        · refine go_blk h.1 (is := [.aload_n 1, .iconst 2]) (pc' := 651) (ls' := [some (.inr (.inr (60, 0))), some (.inr (.inr (0, 0))), some (.inr (.inr (70, 0))), o3_568, some (.inl x4), some (.inr (.inr (71, 0))), some (.inr (.inr (72, 0))), some (.inr (.inr (73, 0))), some (.inl x8), o9_568, o10_568, o11_568, o12_568, o13_568, o14_568, o15_568, o16_568]) (st' := [.inl (2 : Int32), .inr (.inr (0, 0))]) (m' := m640) (by decide +kernel) rfl ?_
          refine go_callV h.1 (index := 61) (n := 1) (t := 0) (i := 0) (ci := 6) (nf := 7) (cz := (RX6, TX6, 7)) (as := [.inl (2 : Int32)]) (rest := []) (ctr_X6_many (xZ X) (2 : Int32) m640) (by decide +kernel) rfl rfl wd_v_L_61 rfl (h.room (by first | decide | omega) (by decide)) h.cl (Nat.le_of_ble_eq_true rfl) puI_ok rfl (fun r651 m651 _ => ?_)
          show Go X (El X) 654 [some (.inr (.inr (60, 0))), some (.inr (.inr (0, 0))), some (.inr (.inr (70, 0))), o3_568, some (.inl x4), some (.inr (.inr (71, 0))), some (.inr (.inr (72, 0))), some (.inr (.inr (73, 0))), some (.inl x8), o9_568, o10_568, o11_568, o12_568, o13_568, o14_568, o15_568, o16_568] [.inl r651] m651 _
          refine go_blk h.1 (is := [.aload_n 2, .iconst 2]) (pc' := 656) (ls' := [some (.inr (.inr (60, 0))), some (.inr (.inr (0, 0))), some (.inr (.inr (70, 0))), o3_568, some (.inl x4), some (.inr (.inr (71, 0))), some (.inr (.inr (72, 0))), some (.inr (.inr (73, 0))), some (.inl x8), o9_568, o10_568, o11_568, o12_568, o13_568, o14_568, o15_568, o16_568]) (st' := [.inl (2 : Int32), .inr (.inr (70, 0)), .inl r651]) (m' := m651) (by decide +kernel) rfl ?_
          refine go_iald h.1 (by decide +kernel) rfl rfl (fun b656 => ?_)
          show Go X (El X) 657 [some (.inr (.inr (60, 0))), some (.inr (.inr (0, 0))), some (.inr (.inr (70, 0))), o3_568, some (.inl x4), some (.inr (.inr (71, 0))), some (.inr (.inr (72, 0))), some (.inr (.inr (73, 0))), some (.inl x8), o9_568, o10_568, o11_568, o12_568, o13_568, o14_568, o15_568, o16_568] [.inl (m651 70 0 (ix (2 : Int32))), .inl r651] m651 _
          refine go_icmpeq h.1 (off := 5) 662 (by decide +kernel) (by decide) (fun c657 => ?_) (fun c657 => ?_)
          · refine go_blk h.1 (is := [.iinc 8 1]) (pc' := 665) (ls' := [some (.inr (.inr (60, 0))), some (.inr (.inr (0, 0))), some (.inr (.inr (70, 0))), o3_568, some (.inl x4), some (.inr (.inr (71, 0))), some (.inr (.inr (72, 0))), some (.inr (.inr (73, 0))), some (.inl (x8 + (1 : Int32))), o9_568, o10_568, o11_568, o12_568, o13_568, o14_568, o15_568, o16_568]) (st' := []) (m' := m651) (by decide +kernel) rfl ?_
            refine go_goto h.1 (off := -585) 80 (by decide +kernel) (by decide) ?_
            exact hn (x8 + (1 : Int32)) m651 (o3_568) (o9_568) (o10_568) (o11_568) (o12_568) (o13_568) (o14_568) (o15_568) (o16_568)
          · refine go_blk h.1 (is := [.iconst 0]) (pc' := 661) (ls' := [some (.inr (.inr (60, 0))), some (.inr (.inr (0, 0))), some (.inr (.inr (70, 0))), o3_568, some (.inl x4), some (.inr (.inr (71, 0))), some (.inr (.inr (72, 0))), some (.inr (.inr (73, 0))), some (.inl x8), o9_568, o10_568, o11_568, o12_568, o13_568, o14_568, o15_568, o16_568]) (st' := [.inl (0 : Int32)]) (m' := m651) (by decide +kernel) rfl ?_
            exact go_law0
      · refine go_blk h.1 (is := [.iconst 0]) (pc' := 564) (ls' := [some (.inr (.inr (60, 0))), some (.inr (.inr (0, 0))), some (.inr (.inr (70, 0))), o3_484, some (.inl x4), some (.inr (.inr (71, 0))), some (.inr (.inr (72, 0))), some (.inr (.inr (73, 0))), some (.inl x8), some (.inl x9), o10_484, o11_484, some (.inl r462), some (.inl (m462 70 0 (ix ((13 : Int32) + r462)))), some (.inl z14_484), o15_484, o16_484]) (st' := [.inl (0 : Int32)]) (m' := m555) (by decide +kernel) rfl ?_
        exact go_law0
  · refine go_blk h.1 (is := [.iconst 0]) (pc' := 285) (ls' := [some (.inr (.inr (60, 0))), some (.inr (.inr (0, 0))), some (.inr (.inr (70, 0))), o3, some (.inl x4), some (.inr (.inr (71, 0))), some (.inr (.inr (72, 0))), some (.inr (.inr (73, 0))), some (.inl x8), some (.inl x9), some (.inl x10), some (.inl x11), o12, o13, o14, o15, o16]) (st' := [.inl (0 : Int32)]) (m' := m) (by decide +kernel) rfl ?_
    exact go_law0

def f_L_lawB_j254 (L : Nat) (xsc : Nat → Int32) (next : Int32 × Mem → Option (Int32 × Mem)) (exit : Mem → Option (Int32 × Mem)) (s0 : Int32) (s1 : Int32) (x4 : Int32) (x8 : Int32) (x9 : Int32) (x10 : Int32) (x11 : Int32) (m : Mem) : Option (Int32 × Mem) :=
  if s1 = s0 then
    bnd (f_X6_passes (1 : Int32) (0 : Int32) (2 : Int32) x9 (4 : Int32) m) (fun r264 m264 =>
      if 0 ≤ x10 then
        f_L_lawB_j281 L xsc next exit x11 r264 x4 x8 x9 x10 x11 m264
      else
        if inB (5 : Int32) 9 = true then
          f_L_lawB_j281 L xsc next exit (m264 72 0 (ix (5 : Int32))) r264 x4 x8 x9 x10 x11 m264
        else none)
  else
    some ((0 : Int32), m)
theorem g_L_lawB_j254 {X : XT} (h : MW X) (next : Int32 × Mem → Option (Int32 × Mem)) (exit : Mem → Option (Int32 × Mem)) (s0 : Int32) (s1 : Int32) (x4 : Int32) (x8 : Int32) (x9 : Int32) (x10 : Int32) (x11 : Int32) (m : Mem) (o3 : Option AV) (o12 : Option AV) (o13 : Option AV) (o14 : Option AV) (o15 : Option AV) (o16 : Option AV) (hn : ∀ (y8 : Int32) (n : Mem) (o3 : Option AV) (o9 : Option AV) (o10 : Option AV) (o11 : Option AV) (o12 : Option AV) (o13 : Option AV) (o14 : Option AV) (o15 : Option AV) (o16 : Option AV), Go X (El X) 80 [some (.inr (.inr (60, 0))), some (.inr (.inr (0, 0))), some (.inr (.inr (70, 0))), o3, some (.inl x4), some (.inr (.inr (71, 0))), some (.inr (.inr (72, 0))), some (.inr (.inr (73, 0))), some (.inl y8), o9, o10, o11, o12, o13, o14, o15, o16] [] n (next (y8, n))) (hx : ∀ (n : Mem) (o0 : Option AV) (o2 : Option AV) (o3 : Option AV) (o5 : Option AV) (o6 : Option AV) (o7 : Option AV) (o8 : Option AV) (o9 : Option AV) (o10 : Option AV) (o11 : Option AV) (o12 : Option AV) (o13 : Option AV) (o14 : Option AV) (o15 : Option AV) (o16 : Option AV), Go X (El X) 668 [o0, some (.inr (.inr (0, 0))), o2, o3, some (.inl x4), o5, o6, o7, o8, o9, o10, o11, o12, o13, o14, o15, o16] [] n (exit (n))) : Go X (El X) 254 [some (.inr (.inr (60, 0))), some (.inr (.inr (0, 0))), some (.inr (.inr (70, 0))), o3, some (.inl x4), some (.inr (.inr (71, 0))), some (.inr (.inr (72, 0))), some (.inr (.inr (73, 0))), some (.inl x8), some (.inl x9), some (.inl x10), some (.inl x11), o12, o13, o14, o15, o16] [.inl s0, .inl s1] m (f_L_lawB_j254 (xL X) (xx X) next exit s0 s1 x4 x8 x9 x10 x11 m) := by
  unfold f_L_lawB_j254
  refine go_icmpne h.1 (off := 30) 284 (by decide +kernel) (by decide) (fun c254 => ?_) (fun c254 => ?_)
  · refine go_blk h.1 (is := [.iconst 0]) (pc' := 285) (ls' := [some (.inr (.inr (60, 0))), some (.inr (.inr (0, 0))), some (.inr (.inr (70, 0))), o3, some (.inl x4), some (.inr (.inr (71, 0))), some (.inr (.inr (72, 0))), some (.inr (.inr (73, 0))), some (.inl x8), some (.inl x9), some (.inl x10), some (.inl x11), o12, o13, o14, o15, o16]) (st' := [.inl (0 : Int32)]) (m' := m) (by decide +kernel) rfl ?_
    exact go_law0
  · refine go_blk h.1 (is := [.aload_n 1, .iconst 1, .iconst 0, .iconst 2, .iload 9, .iconst 4]) (pc' := 264) (ls' := [some (.inr (.inr (60, 0))), some (.inr (.inr (0, 0))), some (.inr (.inr (70, 0))), o3, some (.inl x4), some (.inr (.inr (71, 0))), some (.inr (.inr (72, 0))), some (.inr (.inr (73, 0))), some (.inl x8), some (.inl x9), some (.inl x10), some (.inl x11), o12, o13, o14, o15, o16]) (st' := [.inl (4 : Int32), .inl x9, .inl (2 : Int32), .inl (0 : Int32), .inl (1 : Int32), .inr (.inr (0, 0))]) (m' := m) (by decide +kernel) rfl ?_
    refine go_callV h.1 (index := 76) (n := 5) (t := 0) (i := 0) (ci := 6) (nf := 7) (cz := (RX6, TX6, 7)) (as := [.inl (1 : Int32), .inl (0 : Int32), .inl (2 : Int32), .inl x9, .inl (4 : Int32)]) (rest := []) (ctr_X6_passes (xZ X) (1 : Int32) (0 : Int32) (2 : Int32) x9 (4 : Int32) m) (by decide +kernel) rfl rfl wd_v_L_76 rfl (h.room (by first | decide | omega) (by decide)) h.cl (Nat.le_of_ble_eq_true rfl) puI_ok rfl (fun r264 m264 _ => ?_)
    show Go X (El X) 267 [some (.inr (.inr (60, 0))), some (.inr (.inr (0, 0))), some (.inr (.inr (70, 0))), o3, some (.inl x4), some (.inr (.inr (71, 0))), some (.inr (.inr (72, 0))), some (.inr (.inr (73, 0))), some (.inl x8), some (.inl x9), some (.inl x10), some (.inl x11), o12, o13, o14, o15, o16] [.inl r264] m264 _
    refine go_blk h.1 (is := [.iload 10]) (pc' := 269) (ls' := [some (.inr (.inr (60, 0))), some (.inr (.inr (0, 0))), some (.inr (.inr (70, 0))), o3, some (.inl x4), some (.inr (.inr (71, 0))), some (.inr (.inr (72, 0))), some (.inr (.inr (73, 0))), some (.inl x8), some (.inl x9), some (.inl x10), some (.inl x11), o12, o13, o14, o15, o16]) (st' := [.inl x10, .inl r264]) (m' := m264) (by decide +kernel) rfl ?_
    refine go_ifge h.1 (off := 10) 279 (by decide +kernel) (by decide) (fun c269 => ?_) (fun c269 => ?_)
    · refine go_blk h.1 (is := [.iload 11]) (pc' := 281) (ls' := [some (.inr (.inr (60, 0))), some (.inr (.inr (0, 0))), some (.inr (.inr (70, 0))), o3, some (.inl x4), some (.inr (.inr (71, 0))), some (.inr (.inr (72, 0))), some (.inr (.inr (73, 0))), some (.inl x8), some (.inl x9), some (.inl x10), some (.inl x11), o12, o13, o14, o15, o16]) (st' := [.inl x11, .inl r264]) (m' := m264) (by decide +kernel) rfl ?_
      exact g_L_lawB_j281 h next exit x11 r264 x4 x8 x9 x10 x11 m264 (o3) (o12) (o13) (o14) (o15) (o16) hn hx
    · refine go_blk h.1 (is := [.aload 6, .iconst 5]) (pc' := 275) (ls' := [some (.inr (.inr (60, 0))), some (.inr (.inr (0, 0))), some (.inr (.inr (70, 0))), o3, some (.inl x4), some (.inr (.inr (71, 0))), some (.inr (.inr (72, 0))), some (.inr (.inr (73, 0))), some (.inl x8), some (.inl x9), some (.inl x10), some (.inl x11), o12, o13, o14, o15, o16]) (st' := [.inl (5 : Int32), .inr (.inr (72, 0)), .inl r264]) (m' := m264) (by decide +kernel) rfl ?_
      refine go_iald h.1 (by decide +kernel) rfl rfl (fun b275 => ?_)
      show Go X (El X) 276 [some (.inr (.inr (60, 0))), some (.inr (.inr (0, 0))), some (.inr (.inr (70, 0))), o3, some (.inl x4), some (.inr (.inr (71, 0))), some (.inr (.inr (72, 0))), some (.inr (.inr (73, 0))), some (.inl x8), some (.inl x9), some (.inl x10), some (.inl x11), o12, o13, o14, o15, o16] [.inl (m264 72 0 (ix (5 : Int32))), .inl r264] m264 _
      refine go_goto h.1 (off := 5) 281 (by decide +kernel) (by decide) ?_
      exact g_L_lawB_j281 h next exit (m264 72 0 (ix (5 : Int32))) r264 x4 x8 x9 x10 x11 m264 (o3) (o12) (o13) (o14) (o15) (o16) hn hx

def f_L_lawB_j226 (L : Nat) (xsc : Nat → Int32) (next : Int32 × Mem → Option (Int32 × Mem)) (exit : Mem → Option (Int32 × Mem)) (s0 : Int32) (s1 : Int32) (x4 : Int32) (x8 : Int32) (x9 : Int32) (x10 : Int32) (x11 : Int32) (m : Mem) : Option (Int32 × Mem) :=
  if s1 = s0 then
    bnd (f_X6_passes (1 : Int32) (0 : Int32) (2 : Int32) x9 (3 : Int32) m) (fun r236 m236 =>
      if 0 ≤ x10 then
        f_L_lawB_j254 L xsc next exit x11 r236 x4 x8 x9 x10 x11 m236
      else
        if inB (6 : Int32) 9 = true then
          f_L_lawB_j254 L xsc next exit (m236 72 0 (ix (6 : Int32))) r236 x4 x8 x9 x10 x11 m236
        else none)
  else
    some ((0 : Int32), m)
theorem g_L_lawB_j226 {X : XT} (h : MW X) (next : Int32 × Mem → Option (Int32 × Mem)) (exit : Mem → Option (Int32 × Mem)) (s0 : Int32) (s1 : Int32) (x4 : Int32) (x8 : Int32) (x9 : Int32) (x10 : Int32) (x11 : Int32) (m : Mem) (o3 : Option AV) (o12 : Option AV) (o13 : Option AV) (o14 : Option AV) (o15 : Option AV) (o16 : Option AV) (hn : ∀ (y8 : Int32) (n : Mem) (o3 : Option AV) (o9 : Option AV) (o10 : Option AV) (o11 : Option AV) (o12 : Option AV) (o13 : Option AV) (o14 : Option AV) (o15 : Option AV) (o16 : Option AV), Go X (El X) 80 [some (.inr (.inr (60, 0))), some (.inr (.inr (0, 0))), some (.inr (.inr (70, 0))), o3, some (.inl x4), some (.inr (.inr (71, 0))), some (.inr (.inr (72, 0))), some (.inr (.inr (73, 0))), some (.inl y8), o9, o10, o11, o12, o13, o14, o15, o16] [] n (next (y8, n))) (hx : ∀ (n : Mem) (o0 : Option AV) (o2 : Option AV) (o3 : Option AV) (o5 : Option AV) (o6 : Option AV) (o7 : Option AV) (o8 : Option AV) (o9 : Option AV) (o10 : Option AV) (o11 : Option AV) (o12 : Option AV) (o13 : Option AV) (o14 : Option AV) (o15 : Option AV) (o16 : Option AV), Go X (El X) 668 [o0, some (.inr (.inr (0, 0))), o2, o3, some (.inl x4), o5, o6, o7, o8, o9, o10, o11, o12, o13, o14, o15, o16] [] n (exit (n))) : Go X (El X) 226 [some (.inr (.inr (60, 0))), some (.inr (.inr (0, 0))), some (.inr (.inr (70, 0))), o3, some (.inl x4), some (.inr (.inr (71, 0))), some (.inr (.inr (72, 0))), some (.inr (.inr (73, 0))), some (.inl x8), some (.inl x9), some (.inl x10), some (.inl x11), o12, o13, o14, o15, o16] [.inl s0, .inl s1] m (f_L_lawB_j226 (xL X) (xx X) next exit s0 s1 x4 x8 x9 x10 x11 m) := by
  unfold f_L_lawB_j226
  refine go_icmpne h.1 (off := 58) 284 (by decide +kernel) (by decide) (fun c226 => ?_) (fun c226 => ?_)
  · refine go_blk h.1 (is := [.iconst 0]) (pc' := 285) (ls' := [some (.inr (.inr (60, 0))), some (.inr (.inr (0, 0))), some (.inr (.inr (70, 0))), o3, some (.inl x4), some (.inr (.inr (71, 0))), some (.inr (.inr (72, 0))), some (.inr (.inr (73, 0))), some (.inl x8), some (.inl x9), some (.inl x10), some (.inl x11), o12, o13, o14, o15, o16]) (st' := [.inl (0 : Int32)]) (m' := m) (by decide +kernel) rfl ?_
    exact go_law0
  · refine go_blk h.1 (is := [.aload_n 1, .iconst 1, .iconst 0, .iconst 2, .iload 9, .iconst 3]) (pc' := 236) (ls' := [some (.inr (.inr (60, 0))), some (.inr (.inr (0, 0))), some (.inr (.inr (70, 0))), o3, some (.inl x4), some (.inr (.inr (71, 0))), some (.inr (.inr (72, 0))), some (.inr (.inr (73, 0))), some (.inl x8), some (.inl x9), some (.inl x10), some (.inl x11), o12, o13, o14, o15, o16]) (st' := [.inl (3 : Int32), .inl x9, .inl (2 : Int32), .inl (0 : Int32), .inl (1 : Int32), .inr (.inr (0, 0))]) (m' := m) (by decide +kernel) rfl ?_
    refine go_callV h.1 (index := 76) (n := 5) (t := 0) (i := 0) (ci := 6) (nf := 7) (cz := (RX6, TX6, 7)) (as := [.inl (1 : Int32), .inl (0 : Int32), .inl (2 : Int32), .inl x9, .inl (3 : Int32)]) (rest := []) (ctr_X6_passes (xZ X) (1 : Int32) (0 : Int32) (2 : Int32) x9 (3 : Int32) m) (by decide +kernel) rfl rfl wd_v_L_76 rfl (h.room (by first | decide | omega) (by decide)) h.cl (Nat.le_of_ble_eq_true rfl) puI_ok rfl (fun r236 m236 _ => ?_)
    show Go X (El X) 239 [some (.inr (.inr (60, 0))), some (.inr (.inr (0, 0))), some (.inr (.inr (70, 0))), o3, some (.inl x4), some (.inr (.inr (71, 0))), some (.inr (.inr (72, 0))), some (.inr (.inr (73, 0))), some (.inl x8), some (.inl x9), some (.inl x10), some (.inl x11), o12, o13, o14, o15, o16] [.inl r236] m236 _
    refine go_blk h.1 (is := [.iload 10]) (pc' := 241) (ls' := [some (.inr (.inr (60, 0))), some (.inr (.inr (0, 0))), some (.inr (.inr (70, 0))), o3, some (.inl x4), some (.inr (.inr (71, 0))), some (.inr (.inr (72, 0))), some (.inr (.inr (73, 0))), some (.inl x8), some (.inl x9), some (.inl x10), some (.inl x11), o12, o13, o14, o15, o16]) (st' := [.inl x10, .inl r236]) (m' := m236) (by decide +kernel) rfl ?_
    refine go_ifge h.1 (off := 11) 252 (by decide +kernel) (by decide) (fun c241 => ?_) (fun c241 => ?_)
    · refine go_blk h.1 (is := [.iload 11]) (pc' := 254) (ls' := [some (.inr (.inr (60, 0))), some (.inr (.inr (0, 0))), some (.inr (.inr (70, 0))), o3, some (.inl x4), some (.inr (.inr (71, 0))), some (.inr (.inr (72, 0))), some (.inr (.inr (73, 0))), some (.inl x8), some (.inl x9), some (.inl x10), some (.inl x11), o12, o13, o14, o15, o16]) (st' := [.inl x11, .inl r236]) (m' := m236) (by decide +kernel) rfl ?_
      exact g_L_lawB_j254 h next exit x11 r236 x4 x8 x9 x10 x11 m236 (o3) (o12) (o13) (o14) (o15) (o16) hn hx
    · refine go_blk h.1 (is := [.aload 6, .bipush 6]) (pc' := 248) (ls' := [some (.inr (.inr (60, 0))), some (.inr (.inr (0, 0))), some (.inr (.inr (70, 0))), o3, some (.inl x4), some (.inr (.inr (71, 0))), some (.inr (.inr (72, 0))), some (.inr (.inr (73, 0))), some (.inl x8), some (.inl x9), some (.inl x10), some (.inl x11), o12, o13, o14, o15, o16]) (st' := [.inl (6 : Int32), .inr (.inr (72, 0)), .inl r236]) (m' := m236) (by decide +kernel) rfl ?_
      refine go_iald h.1 (by decide +kernel) rfl rfl (fun b248 => ?_)
      show Go X (El X) 249 [some (.inr (.inr (60, 0))), some (.inr (.inr (0, 0))), some (.inr (.inr (70, 0))), o3, some (.inl x4), some (.inr (.inr (71, 0))), some (.inr (.inr (72, 0))), some (.inr (.inr (73, 0))), some (.inl x8), some (.inl x9), some (.inl x10), some (.inl x11), o12, o13, o14, o15, o16] [.inl (m236 72 0 (ix (6 : Int32))), .inl r236] m236 _
      refine go_goto h.1 (off := 5) 254 (by decide +kernel) (by decide) ?_
      exact g_L_lawB_j254 h next exit (m236 72 0 (ix (6 : Int32))) r236 x4 x8 x9 x10 x11 m236 (o3) (o12) (o13) (o14) (o15) (o16) hn hx

def f_L_lawB_j198 (L : Nat) (xsc : Nat → Int32) (next : Int32 × Mem → Option (Int32 × Mem)) (exit : Mem → Option (Int32 × Mem)) (s0 : Int32) (s1 : Int32) (x4 : Int32) (x8 : Int32) (x9 : Int32) (x10 : Int32) (x11 : Int32) (m : Mem) : Option (Int32 × Mem) :=
  if s1 = s0 then
    bnd (f_X6_passes (1 : Int32) (0 : Int32) (2 : Int32) x9 (2 : Int32) m) (fun r208 m208 =>
      if 0 ≤ x10 then
        f_L_lawB_j226 L xsc next exit x11 r208 x4 x8 x9 x10 x11 m208
      else
        if inB (7 : Int32) 9 = true then
          f_L_lawB_j226 L xsc next exit (m208 72 0 (ix (7 : Int32))) r208 x4 x8 x9 x10 x11 m208
        else none)
  else
    some ((0 : Int32), m)
theorem g_L_lawB_j198 {X : XT} (h : MW X) (next : Int32 × Mem → Option (Int32 × Mem)) (exit : Mem → Option (Int32 × Mem)) (s0 : Int32) (s1 : Int32) (x4 : Int32) (x8 : Int32) (x9 : Int32) (x10 : Int32) (x11 : Int32) (m : Mem) (o3 : Option AV) (o12 : Option AV) (o13 : Option AV) (o14 : Option AV) (o15 : Option AV) (o16 : Option AV) (hn : ∀ (y8 : Int32) (n : Mem) (o3 : Option AV) (o9 : Option AV) (o10 : Option AV) (o11 : Option AV) (o12 : Option AV) (o13 : Option AV) (o14 : Option AV) (o15 : Option AV) (o16 : Option AV), Go X (El X) 80 [some (.inr (.inr (60, 0))), some (.inr (.inr (0, 0))), some (.inr (.inr (70, 0))), o3, some (.inl x4), some (.inr (.inr (71, 0))), some (.inr (.inr (72, 0))), some (.inr (.inr (73, 0))), some (.inl y8), o9, o10, o11, o12, o13, o14, o15, o16] [] n (next (y8, n))) (hx : ∀ (n : Mem) (o0 : Option AV) (o2 : Option AV) (o3 : Option AV) (o5 : Option AV) (o6 : Option AV) (o7 : Option AV) (o8 : Option AV) (o9 : Option AV) (o10 : Option AV) (o11 : Option AV) (o12 : Option AV) (o13 : Option AV) (o14 : Option AV) (o15 : Option AV) (o16 : Option AV), Go X (El X) 668 [o0, some (.inr (.inr (0, 0))), o2, o3, some (.inl x4), o5, o6, o7, o8, o9, o10, o11, o12, o13, o14, o15, o16] [] n (exit (n))) : Go X (El X) 198 [some (.inr (.inr (60, 0))), some (.inr (.inr (0, 0))), some (.inr (.inr (70, 0))), o3, some (.inl x4), some (.inr (.inr (71, 0))), some (.inr (.inr (72, 0))), some (.inr (.inr (73, 0))), some (.inl x8), some (.inl x9), some (.inl x10), some (.inl x11), o12, o13, o14, o15, o16] [.inl s0, .inl s1] m (f_L_lawB_j198 (xL X) (xx X) next exit s0 s1 x4 x8 x9 x10 x11 m) := by
  unfold f_L_lawB_j198
  refine go_icmpne h.1 (off := 86) 284 (by decide +kernel) (by decide) (fun c198 => ?_) (fun c198 => ?_)
  · refine go_blk h.1 (is := [.iconst 0]) (pc' := 285) (ls' := [some (.inr (.inr (60, 0))), some (.inr (.inr (0, 0))), some (.inr (.inr (70, 0))), o3, some (.inl x4), some (.inr (.inr (71, 0))), some (.inr (.inr (72, 0))), some (.inr (.inr (73, 0))), some (.inl x8), some (.inl x9), some (.inl x10), some (.inl x11), o12, o13, o14, o15, o16]) (st' := [.inl (0 : Int32)]) (m' := m) (by decide +kernel) rfl ?_
    exact go_law0
  · refine go_blk h.1 (is := [.aload_n 1, .iconst 1, .iconst 0, .iconst 2, .iload 9, .iconst 2]) (pc' := 208) (ls' := [some (.inr (.inr (60, 0))), some (.inr (.inr (0, 0))), some (.inr (.inr (70, 0))), o3, some (.inl x4), some (.inr (.inr (71, 0))), some (.inr (.inr (72, 0))), some (.inr (.inr (73, 0))), some (.inl x8), some (.inl x9), some (.inl x10), some (.inl x11), o12, o13, o14, o15, o16]) (st' := [.inl (2 : Int32), .inl x9, .inl (2 : Int32), .inl (0 : Int32), .inl (1 : Int32), .inr (.inr (0, 0))]) (m' := m) (by decide +kernel) rfl ?_
    refine go_callV h.1 (index := 76) (n := 5) (t := 0) (i := 0) (ci := 6) (nf := 7) (cz := (RX6, TX6, 7)) (as := [.inl (1 : Int32), .inl (0 : Int32), .inl (2 : Int32), .inl x9, .inl (2 : Int32)]) (rest := []) (ctr_X6_passes (xZ X) (1 : Int32) (0 : Int32) (2 : Int32) x9 (2 : Int32) m) (by decide +kernel) rfl rfl wd_v_L_76 rfl (h.room (by first | decide | omega) (by decide)) h.cl (Nat.le_of_ble_eq_true rfl) puI_ok rfl (fun r208 m208 _ => ?_)
    show Go X (El X) 211 [some (.inr (.inr (60, 0))), some (.inr (.inr (0, 0))), some (.inr (.inr (70, 0))), o3, some (.inl x4), some (.inr (.inr (71, 0))), some (.inr (.inr (72, 0))), some (.inr (.inr (73, 0))), some (.inl x8), some (.inl x9), some (.inl x10), some (.inl x11), o12, o13, o14, o15, o16] [.inl r208] m208 _
    refine go_blk h.1 (is := [.iload 10]) (pc' := 213) (ls' := [some (.inr (.inr (60, 0))), some (.inr (.inr (0, 0))), some (.inr (.inr (70, 0))), o3, some (.inl x4), some (.inr (.inr (71, 0))), some (.inr (.inr (72, 0))), some (.inr (.inr (73, 0))), some (.inl x8), some (.inl x9), some (.inl x10), some (.inl x11), o12, o13, o14, o15, o16]) (st' := [.inl x10, .inl r208]) (m' := m208) (by decide +kernel) rfl ?_
    refine go_ifge h.1 (off := 11) 224 (by decide +kernel) (by decide) (fun c213 => ?_) (fun c213 => ?_)
    · refine go_blk h.1 (is := [.iload 11]) (pc' := 226) (ls' := [some (.inr (.inr (60, 0))), some (.inr (.inr (0, 0))), some (.inr (.inr (70, 0))), o3, some (.inl x4), some (.inr (.inr (71, 0))), some (.inr (.inr (72, 0))), some (.inr (.inr (73, 0))), some (.inl x8), some (.inl x9), some (.inl x10), some (.inl x11), o12, o13, o14, o15, o16]) (st' := [.inl x11, .inl r208]) (m' := m208) (by decide +kernel) rfl ?_
      exact g_L_lawB_j226 h next exit x11 r208 x4 x8 x9 x10 x11 m208 (o3) (o12) (o13) (o14) (o15) (o16) hn hx
    · refine go_blk h.1 (is := [.aload 6, .bipush 7]) (pc' := 220) (ls' := [some (.inr (.inr (60, 0))), some (.inr (.inr (0, 0))), some (.inr (.inr (70, 0))), o3, some (.inl x4), some (.inr (.inr (71, 0))), some (.inr (.inr (72, 0))), some (.inr (.inr (73, 0))), some (.inl x8), some (.inl x9), some (.inl x10), some (.inl x11), o12, o13, o14, o15, o16]) (st' := [.inl (7 : Int32), .inr (.inr (72, 0)), .inl r208]) (m' := m208) (by decide +kernel) rfl ?_
      refine go_iald h.1 (by decide +kernel) rfl rfl (fun b220 => ?_)
      show Go X (El X) 221 [some (.inr (.inr (60, 0))), some (.inr (.inr (0, 0))), some (.inr (.inr (70, 0))), o3, some (.inl x4), some (.inr (.inr (71, 0))), some (.inr (.inr (72, 0))), some (.inr (.inr (73, 0))), some (.inl x8), some (.inl x9), some (.inl x10), some (.inl x11), o12, o13, o14, o15, o16] [.inl (m208 72 0 (ix (7 : Int32))), .inl r208] m208 _
      refine go_goto h.1 (off := 5) 226 (by decide +kernel) (by decide) ?_
      exact g_L_lawB_j226 h next exit (m208 72 0 (ix (7 : Int32))) r208 x4 x8 x9 x10 x11 m208 (o3) (o12) (o13) (o14) (o15) (o16) hn hx

def f_L_lawB_j109 (L : Nat) (xsc : Nat → Int32) (next : Int32 × Mem → Option (Int32 × Mem)) (exit : Mem → Option (Int32 × Mem)) (x4 : Int32) (x8 : Int32) (m : Mem) : Option (Int32 × Mem) :=
  bnd (f_L_lay L xsc ((9 : Int32) + ((4 : Int32) * x8)) m) (fun r125 m125 =>
    if 0 ≤ r125 then
      bnd (f_L_go L xsc r125 m125) (fun r146 m146 =>
        bnd (f_X6_passes (1 : Int32) (0 : Int32) (2 : Int32) r125 (1 : Int32) m146) (fun r165 m165 =>
          if r165 = r146 then
            bnd (f_X6_passes (1 : Int32) (0 : Int32) (2 : Int32) r125 (0 : Int32) m165) (fun r180 m180 =>
              if 0 ≤ r146 then
                f_L_lawB_j198 L xsc next exit ((-100 : Int32) - r146) r180 x4 x8 r125 r146 ((-100 : Int32) - r146) m180
              else
                if inB (8 : Int32) 9 = true then
                  f_L_lawB_j198 L xsc next exit (m180 72 0 (ix (8 : Int32))) r180 x4 x8 r125 r146 ((-100 : Int32) - r146) m180
                else none)
          else
            some ((0 : Int32), m165)))
    else
      some ((0 : Int32), m125))
theorem g_L_lawB_j109 {X : XT} (h : MW X) (next : Int32 × Mem → Option (Int32 × Mem)) (exit : Mem → Option (Int32 × Mem)) (x4 : Int32) (x8 : Int32) (m : Mem) (o3 : Option AV) (o9 : Option AV) (o10 : Option AV) (o11 : Option AV) (o12 : Option AV) (o13 : Option AV) (o14 : Option AV) (o15 : Option AV) (o16 : Option AV) (hn : ∀ (y8 : Int32) (n : Mem) (o3 : Option AV) (o9 : Option AV) (o10 : Option AV) (o11 : Option AV) (o12 : Option AV) (o13 : Option AV) (o14 : Option AV) (o15 : Option AV) (o16 : Option AV), Go X (El X) 80 [some (.inr (.inr (60, 0))), some (.inr (.inr (0, 0))), some (.inr (.inr (70, 0))), o3, some (.inl x4), some (.inr (.inr (71, 0))), some (.inr (.inr (72, 0))), some (.inr (.inr (73, 0))), some (.inl y8), o9, o10, o11, o12, o13, o14, o15, o16] [] n (next (y8, n))) (hx : ∀ (n : Mem) (o0 : Option AV) (o2 : Option AV) (o3 : Option AV) (o5 : Option AV) (o6 : Option AV) (o7 : Option AV) (o8 : Option AV) (o9 : Option AV) (o10 : Option AV) (o11 : Option AV) (o12 : Option AV) (o13 : Option AV) (o14 : Option AV) (o15 : Option AV) (o16 : Option AV), Go X (El X) 668 [o0, some (.inr (.inr (0, 0))), o2, o3, some (.inl x4), o5, o6, o7, o8, o9, o10, o11, o12, o13, o14, o15, o16] [] n (exit (n))) : Go X (El X) 109 [some (.inr (.inr (60, 0))), some (.inr (.inr (0, 0))), some (.inr (.inr (70, 0))), o3, some (.inl x4), some (.inr (.inr (71, 0))), some (.inr (.inr (72, 0))), some (.inr (.inr (73, 0))), some (.inl x8), o9, o10, o11, o12, o13, o14, o15, o16] [] m (f_L_lawB_j109 (xL X) (xx X) next exit x4 x8 m) := by
  unfold f_L_lawB_j109
  refine go_blk h.1 (is := [.aload_n 1, .aload_n 0, .bipush 9, .iconst 4, .iload 8, .imul, .iadd, .aload_n 2, .aload 5, .aload 6, .aload 7]) (pc' := 125) (ls' := [some (.inr (.inr (60, 0))), some (.inr (.inr (0, 0))), some (.inr (.inr (70, 0))), o3, some (.inl x4), some (.inr (.inr (71, 0))), some (.inr (.inr (72, 0))), some (.inr (.inr (73, 0))), some (.inl x8), o9, o10, o11, o12, o13, o14, o15, o16]) (st' := [.inr (.inr (73, 0)), .inr (.inr (72, 0)), .inr (.inr (71, 0)), .inr (.inr (70, 0)), .inl ((9 : Int32) + ((4 : Int32) * x8)), .inr (.inr (60, 0)), .inr (.inr (0, 0))]) (m' := m) (by decide +kernel) rfl ?_
  refine go_callS h.1 (index := 68) (n := 7) (as := [.inr (.inr (0, 0)), .inr (.inr (60, 0)), .inl ((9 : Int32) + ((4 : Int32) * x8)), .inr (.inr (70, 0)), .inr (.inr (71, 0)), .inr (.inr (72, 0)), .inr (.inr (73, 0))]) (rest := []) (ctr_L_lay (xZ X) ((9 : Int32) + ((4 : Int32) * x8)) m) (by decide +kernel) wd_s_L_68 rfl (h.room (by first | decide | omega) (by decide)) h.cl (Nat.le_of_ble_eq_true rfl) puI_ok rfl (fun r125 m125 _ => ?_)
  show Go X (El X) 128 [some (.inr (.inr (60, 0))), some (.inr (.inr (0, 0))), some (.inr (.inr (70, 0))), o3, some (.inl x4), some (.inr (.inr (71, 0))), some (.inr (.inr (72, 0))), some (.inr (.inr (73, 0))), some (.inl x8), o9, o10, o11, o12, o13, o14, o15, o16] [.inl r125] m125 _
  refine go_blk h.1 (is := [.istore 9, .iload 9]) (pc' := 132) (ls' := [some (.inr (.inr (60, 0))), some (.inr (.inr (0, 0))), some (.inr (.inr (70, 0))), o3, some (.inl x4), some (.inr (.inr (71, 0))), some (.inr (.inr (72, 0))), some (.inr (.inr (73, 0))), some (.inl x8), some (.inl r125), o10, o11, o12, o13, o14, o15, o16]) (st' := [.inl r125]) (m' := m125) (by decide +kernel) rfl ?_
  refine go_ifge h.1 (off := 5) 137 (by decide +kernel) (by decide) (fun c132 => ?_) (fun c132 => ?_)
  · refine go_blk h.1 (is := [.aload_n 2, .aload 5, .iload 9, .aload 6, .aload 7]) (pc' := 146) (ls' := [some (.inr (.inr (60, 0))), some (.inr (.inr (0, 0))), some (.inr (.inr (70, 0))), o3, some (.inl x4), some (.inr (.inr (71, 0))), some (.inr (.inr (72, 0))), some (.inr (.inr (73, 0))), some (.inl x8), some (.inl r125), o10, o11, o12, o13, o14, o15, o16]) (st' := [.inr (.inr (73, 0)), .inr (.inr (72, 0)), .inl r125, .inr (.inr (71, 0)), .inr (.inr (70, 0))]) (m' := m125) (by decide +kernel) rfl ?_
    refine go_callS h.1 (index := 72) (n := 5) (as := [.inr (.inr (70, 0)), .inr (.inr (71, 0)), .inl r125, .inr (.inr (72, 0)), .inr (.inr (73, 0))]) (rest := []) (ctr_L_go (xZ X) r125 m125) (by decide +kernel) wd_s_L_72 rfl (h.room (by first | decide | omega) (by decide)) h.cl (Nat.le_of_ble_eq_true rfl) puI_ok rfl (fun r146 m146 _ => ?_)
    show Go X (El X) 149 [some (.inr (.inr (60, 0))), some (.inr (.inr (0, 0))), some (.inr (.inr (70, 0))), o3, some (.inl x4), some (.inr (.inr (71, 0))), some (.inr (.inr (72, 0))), some (.inr (.inr (73, 0))), some (.inl x8), some (.inl r125), o10, o11, o12, o13, o14, o15, o16] [.inl r146] m146 _
    refine go_blk h.1 (is := [.istore 10, .bipush (-100), .iload 10, .isub, .istore 11, .aload_n 1, .iconst 1, .iconst 0, .iconst 2, .iload 9, .iconst 1]) (pc' := 165) (ls' := [some (.inr (.inr (60, 0))), some (.inr (.inr (0, 0))), some (.inr (.inr (70, 0))), o3, some (.inl x4), some (.inr (.inr (71, 0))), some (.inr (.inr (72, 0))), some (.inr (.inr (73, 0))), some (.inl x8), some (.inl r125), some (.inl r146), some (.inl ((-100 : Int32) - r146)), o12, o13, o14, o15, o16]) (st' := [.inl (1 : Int32), .inl r125, .inl (2 : Int32), .inl (0 : Int32), .inl (1 : Int32), .inr (.inr (0, 0))]) (m' := m146) (by decide +kernel) rfl ?_
    refine go_callV h.1 (index := 76) (n := 5) (t := 0) (i := 0) (ci := 6) (nf := 7) (cz := (RX6, TX6, 7)) (as := [.inl (1 : Int32), .inl (0 : Int32), .inl (2 : Int32), .inl r125, .inl (1 : Int32)]) (rest := []) (ctr_X6_passes (xZ X) (1 : Int32) (0 : Int32) (2 : Int32) r125 (1 : Int32) m146) (by decide +kernel) rfl rfl wd_v_L_76 rfl (h.room (by first | decide | omega) (by decide)) h.cl (Nat.le_of_ble_eq_true rfl) puI_ok rfl (fun r165 m165 _ => ?_)
    show Go X (El X) 168 [some (.inr (.inr (60, 0))), some (.inr (.inr (0, 0))), some (.inr (.inr (70, 0))), o3, some (.inl x4), some (.inr (.inr (71, 0))), some (.inr (.inr (72, 0))), some (.inr (.inr (73, 0))), some (.inl x8), some (.inl r125), some (.inl r146), some (.inl ((-100 : Int32) - r146)), o12, o13, o14, o15, o16] [.inl r165] m165 _
    refine go_blk h.1 (is := [.iload 10]) (pc' := 170) (ls' := [some (.inr (.inr (60, 0))), some (.inr (.inr (0, 0))), some (.inr (.inr (70, 0))), o3, some (.inl x4), some (.inr (.inr (71, 0))), some (.inr (.inr (72, 0))), some (.inr (.inr (73, 0))), some (.inl x8), some (.inl r125), some (.inl r146), some (.inl ((-100 : Int32) - r146)), o12, o13, o14, o15, o16]) (st' := [.inl r146, .inl r165]) (m' := m165) (by decide +kernel) rfl ?_
    refine go_icmpne h.1 (off := 114) 284 (by decide +kernel) (by decide) (fun c170 => ?_) (fun c170 => ?_)
    · refine go_blk h.1 (is := [.iconst 0]) (pc' := 285) (ls' := [some (.inr (.inr (60, 0))), some (.inr (.inr (0, 0))), some (.inr (.inr (70, 0))), o3, some (.inl x4), some (.inr (.inr (71, 0))), some (.inr (.inr (72, 0))), some (.inr (.inr (73, 0))), some (.inl x8), some (.inl r125), some (.inl r146), some (.inl ((-100 : Int32) - r146)), o12, o13, o14, o15, o16]) (st' := [.inl (0 : Int32)]) (m' := m165) (by decide +kernel) rfl ?_
      exact go_law0
    · refine go_blk h.1 (is := [.aload_n 1, .iconst 1, .iconst 0, .iconst 2, .iload 9, .iconst 0]) (pc' := 180) (ls' := [some (.inr (.inr (60, 0))), some (.inr (.inr (0, 0))), some (.inr (.inr (70, 0))), o3, some (.inl x4), some (.inr (.inr (71, 0))), some (.inr (.inr (72, 0))), some (.inr (.inr (73, 0))), some (.inl x8), some (.inl r125), some (.inl r146), some (.inl ((-100 : Int32) - r146)), o12, o13, o14, o15, o16]) (st' := [.inl (0 : Int32), .inl r125, .inl (2 : Int32), .inl (0 : Int32), .inl (1 : Int32), .inr (.inr (0, 0))]) (m' := m165) (by decide +kernel) rfl ?_
      refine go_callV h.1 (index := 76) (n := 5) (t := 0) (i := 0) (ci := 6) (nf := 7) (cz := (RX6, TX6, 7)) (as := [.inl (1 : Int32), .inl (0 : Int32), .inl (2 : Int32), .inl r125, .inl (0 : Int32)]) (rest := []) (ctr_X6_passes (xZ X) (1 : Int32) (0 : Int32) (2 : Int32) r125 (0 : Int32) m165) (by decide +kernel) rfl rfl wd_v_L_76 rfl (h.room (by first | decide | omega) (by decide)) h.cl (Nat.le_of_ble_eq_true rfl) puI_ok rfl (fun r180 m180 _ => ?_)
      show Go X (El X) 183 [some (.inr (.inr (60, 0))), some (.inr (.inr (0, 0))), some (.inr (.inr (70, 0))), o3, some (.inl x4), some (.inr (.inr (71, 0))), some (.inr (.inr (72, 0))), some (.inr (.inr (73, 0))), some (.inl x8), some (.inl r125), some (.inl r146), some (.inl ((-100 : Int32) - r146)), o12, o13, o14, o15, o16] [.inl r180] m180 _
      refine go_blk h.1 (is := [.iload 10]) (pc' := 185) (ls' := [some (.inr (.inr (60, 0))), some (.inr (.inr (0, 0))), some (.inr (.inr (70, 0))), o3, some (.inl x4), some (.inr (.inr (71, 0))), some (.inr (.inr (72, 0))), some (.inr (.inr (73, 0))), some (.inl x8), some (.inl r125), some (.inl r146), some (.inl ((-100 : Int32) - r146)), o12, o13, o14, o15, o16]) (st' := [.inl r146, .inl r180]) (m' := m180) (by decide +kernel) rfl ?_
      refine go_ifge h.1 (off := 11) 196 (by decide +kernel) (by decide) (fun c185 => ?_) (fun c185 => ?_)
      · refine go_blk h.1 (is := [.iload 11]) (pc' := 198) (ls' := [some (.inr (.inr (60, 0))), some (.inr (.inr (0, 0))), some (.inr (.inr (70, 0))), o3, some (.inl x4), some (.inr (.inr (71, 0))), some (.inr (.inr (72, 0))), some (.inr (.inr (73, 0))), some (.inl x8), some (.inl r125), some (.inl r146), some (.inl ((-100 : Int32) - r146)), o12, o13, o14, o15, o16]) (st' := [.inl ((-100 : Int32) - r146), .inl r180]) (m' := m180) (by decide +kernel) rfl ?_
        exact g_L_lawB_j198 h next exit ((-100 : Int32) - r146) r180 x4 x8 r125 r146 ((-100 : Int32) - r146) m180 (o3) (o12) (o13) (o14) (o15) (o16) hn hx
      · refine go_blk h.1 (is := [.aload 6, .bipush 8]) (pc' := 192) (ls' := [some (.inr (.inr (60, 0))), some (.inr (.inr (0, 0))), some (.inr (.inr (70, 0))), o3, some (.inl x4), some (.inr (.inr (71, 0))), some (.inr (.inr (72, 0))), some (.inr (.inr (73, 0))), some (.inl x8), some (.inl r125), some (.inl r146), some (.inl ((-100 : Int32) - r146)), o12, o13, o14, o15, o16]) (st' := [.inl (8 : Int32), .inr (.inr (72, 0)), .inl r180]) (m' := m180) (by decide +kernel) rfl ?_
        refine go_iald h.1 (by decide +kernel) rfl rfl (fun b192 => ?_)
        show Go X (El X) 193 [some (.inr (.inr (60, 0))), some (.inr (.inr (0, 0))), some (.inr (.inr (70, 0))), o3, some (.inl x4), some (.inr (.inr (71, 0))), some (.inr (.inr (72, 0))), some (.inr (.inr (73, 0))), some (.inl x8), some (.inl r125), some (.inl r146), some (.inl ((-100 : Int32) - r146)), o12, o13, o14, o15, o16] [.inl (m180 72 0 (ix (8 : Int32))), .inl r180] m180 _
        refine go_goto h.1 (off := 5) 198 (by decide +kernel) (by decide) ?_
        exact g_L_lawB_j198 h next exit (m180 72 0 (ix (8 : Int32))) r180 x4 x8 r125 r146 ((-100 : Int32) - r146) m180 (o3) (o12) (o13) (o14) (o15) (o16) hn hx
  · refine go_blk h.1 (is := [.iconst 0]) (pc' := 136) (ls' := [some (.inr (.inr (60, 0))), some (.inr (.inr (0, 0))), some (.inr (.inr (70, 0))), o3, some (.inl x4), some (.inr (.inr (71, 0))), some (.inr (.inr (72, 0))), some (.inr (.inr (73, 0))), some (.inl x8), some (.inl r125), o10, o11, o12, o13, o14, o15, o16]) (st' := [.inl (0 : Int32)]) (m' := m125) (by decide +kernel) rfl ?_
    exact go_law0

def f_L_lawB_b80 (L : Nat) (xsc : Nat → Int32) (x4 : Int32) (next : Int32 × Mem → Option (Int32 × Mem)) (exit : Mem → Option (Int32 × Mem)) (s : Int32 × Mem) : Option (Int32 × Mem) :=
  if (5 : Int32) ≤ s.1 then
    exit (s.2)
  else
    if s.1 ≤ 0 then
      f_L_lawB_j109 L xsc next exit x4 s.1 s.2
    else
      bnd (f_L_cell L xsc ((4 : Int32) + s.1) s.2) (fun r97 m97 =>
        bnd (f_L_change L xsc r97 m97) (fun r101 m101 =>
          if r101 = 0 then
            some ((0 : Int32), m101)
          else
            f_L_lawB_j109 L xsc next exit x4 s.1 m101))
theorem g_L_lawB_b80 {X : XT} (h : MW X) (x4 : Int32) (next : Int32 × Mem → Option (Int32 × Mem)) (exit : Mem → Option (Int32 × Mem)) (hn : ∀ (y8 : Int32) (n : Mem) (o3 : Option AV) (o9 : Option AV) (o10 : Option AV) (o11 : Option AV) (o12 : Option AV) (o13 : Option AV) (o14 : Option AV) (o15 : Option AV) (o16 : Option AV), Go X (El X) 80 [some (.inr (.inr (60, 0))), some (.inr (.inr (0, 0))), some (.inr (.inr (70, 0))), o3, some (.inl x4), some (.inr (.inr (71, 0))), some (.inr (.inr (72, 0))), some (.inr (.inr (73, 0))), some (.inl y8), o9, o10, o11, o12, o13, o14, o15, o16] [] n (next (y8, n))) (hx : ∀ (n : Mem) (o0 : Option AV) (o2 : Option AV) (o3 : Option AV) (o5 : Option AV) (o6 : Option AV) (o7 : Option AV) (o8 : Option AV) (o9 : Option AV) (o10 : Option AV) (o11 : Option AV) (o12 : Option AV) (o13 : Option AV) (o14 : Option AV) (o15 : Option AV) (o16 : Option AV), Go X (El X) 668 [o0, some (.inr (.inr (0, 0))), o2, o3, some (.inl x4), o5, o6, o7, o8, o9, o10, o11, o12, o13, o14, o15, o16] [] n (exit (n))) (s : Int32 × Mem) (o3 : Option AV) (o9 : Option AV) (o10 : Option AV) (o11 : Option AV) (o12 : Option AV) (o13 : Option AV) (o14 : Option AV) (o15 : Option AV) (o16 : Option AV) : Go X (El X) 80 [some (.inr (.inr (60, 0))), some (.inr (.inr (0, 0))), some (.inr (.inr (70, 0))), o3, some (.inl x4), some (.inr (.inr (71, 0))), some (.inr (.inr (72, 0))), some (.inr (.inr (73, 0))), some (.inl s.1), o9, o10, o11, o12, o13, o14, o15, o16] [] s.2 (f_L_lawB_b80 (xL X) (xx X) x4 next exit s) := by
  unfold f_L_lawB_b80
  refine go_blk h.1 (is := [.iload 8, .iconst 5]) (pc' := 83) (ls' := [some (.inr (.inr (60, 0))), some (.inr (.inr (0, 0))), some (.inr (.inr (70, 0))), o3, some (.inl x4), some (.inr (.inr (71, 0))), some (.inr (.inr (72, 0))), some (.inr (.inr (73, 0))), some (.inl s.1), o9, o10, o11, o12, o13, o14, o15, o16]) (st' := [.inl (5 : Int32), .inl s.1]) (m' := s.2) (by decide +kernel) rfl ?_
  refine go_icmpge h.1 (off := 585) 668 (by decide +kernel) (by decide) (fun c83 => ?_) (fun c83 => ?_)
  · exact hx s.2 (some (.inr (.inr (60, 0)))) (some (.inr (.inr (70, 0)))) (o3) (some (.inr (.inr (71, 0)))) (some (.inr (.inr (72, 0)))) (some (.inr (.inr (73, 0)))) (some (.inl s.1)) (o9) (o10) (o11) (o12) (o13) (o14) (o15) (o16)
  · refine go_blk h.1 (is := [.iload 8]) (pc' := 88) (ls' := [some (.inr (.inr (60, 0))), some (.inr (.inr (0, 0))), some (.inr (.inr (70, 0))), o3, some (.inl x4), some (.inr (.inr (71, 0))), some (.inr (.inr (72, 0))), some (.inr (.inr (73, 0))), some (.inl s.1), o9, o10, o11, o12, o13, o14, o15, o16]) (st' := [.inl s.1]) (m' := s.2) (by decide +kernel) rfl ?_
    refine go_ifle h.1 (off := 21) 109 (by decide +kernel) (by decide) (fun c88 => ?_) (fun c88 => ?_)
    · exact g_L_lawB_j109 h next exit x4 s.1 s.2 (o3) (o9) (o10) (o11) (o12) (o13) (o14) (o15) (o16) hn hx
    · refine go_blk h.1 (is := [.aload_n 1, .aload_n 0, .iconst 4, .iload 8, .iadd]) (pc' := 97) (ls' := [some (.inr (.inr (60, 0))), some (.inr (.inr (0, 0))), some (.inr (.inr (70, 0))), o3, some (.inl x4), some (.inr (.inr (71, 0))), some (.inr (.inr (72, 0))), some (.inr (.inr (73, 0))), some (.inl s.1), o9, o10, o11, o12, o13, o14, o15, o16]) (st' := [.inl ((4 : Int32) + s.1), .inr (.inr (60, 0)), .inr (.inr (0, 0))]) (m' := s.2) (by decide +kernel) rfl ?_
      refine go_callS h.1 (index := 9) (n := 2) (as := [.inr (.inr (60, 0)), .inl ((4 : Int32) + s.1)]) (rest := [.inr (.inr (0, 0))]) (ctr_L_cell (xZ X) ((4 : Int32) + s.1) s.2) (by decide +kernel) wd_s_L_9 rfl (h.room (by first | decide | omega) (by decide)) h.cl (Nat.le_of_ble_eq_true rfl) puI_ok rfl (fun r97 m97 _ => ?_)
      show Go X (El X) 100 [some (.inr (.inr (60, 0))), some (.inr (.inr (0, 0))), some (.inr (.inr (70, 0))), o3, some (.inl x4), some (.inr (.inr (71, 0))), some (.inr (.inr (72, 0))), some (.inr (.inr (73, 0))), some (.inl s.1), o9, o10, o11, o12, o13, o14, o15, o16] [.inl r97, .inr (.inr (0, 0))] m97 _
      refine go_blk h.1 (is := [.aload_n 2]) (pc' := 101) (ls' := [some (.inr (.inr (60, 0))), some (.inr (.inr (0, 0))), some (.inr (.inr (70, 0))), o3, some (.inl x4), some (.inr (.inr (71, 0))), some (.inr (.inr (72, 0))), some (.inr (.inr (73, 0))), some (.inl s.1), o9, o10, o11, o12, o13, o14, o15, o16]) (st' := [.inr (.inr (70, 0)), .inl r97, .inr (.inr (0, 0))]) (m' := m97) (by decide +kernel) rfl ?_
      refine go_callS h.1 (index := 64) (n := 3) (as := [.inr (.inr (0, 0)), .inl r97, .inr (.inr (70, 0))]) (rest := []) (ctr_L_change (xZ X) r97 m97) (by decide +kernel) wd_s_L_64 rfl (h.room (by first | decide | omega) (by decide)) h.cl (Nat.le_of_ble_eq_true rfl) puI_ok rfl (fun r101 m101 _ => ?_)
      show Go X (El X) 104 [some (.inr (.inr (60, 0))), some (.inr (.inr (0, 0))), some (.inr (.inr (70, 0))), o3, some (.inl x4), some (.inr (.inr (71, 0))), some (.inr (.inr (72, 0))), some (.inr (.inr (73, 0))), some (.inl s.1), o9, o10, o11, o12, o13, o14, o15, o16] [.inl r101] m101 _
      refine go_ifne h.1 (off := 5) 109 (by decide +kernel) (by decide) (fun c104 => ?_) (fun c104 => ?_)
      · exact g_L_lawB_j109 h next exit x4 s.1 m101 (o3) (o9) (o10) (o11) (o12) (o13) (o14) (o15) (o16) hn hx
      · refine go_blk h.1 (is := [.iconst 0]) (pc' := 108) (ls' := [some (.inr (.inr (60, 0))), some (.inr (.inr (0, 0))), some (.inr (.inr (70, 0))), o3, some (.inl x4), some (.inr (.inr (71, 0))), some (.inr (.inr (72, 0))), some (.inr (.inr (73, 0))), some (.inl s.1), o9, o10, o11, o12, o13, o14, o15, o16]) (st' := [.inl (0 : Int32)]) (m' := m101) (by decide +kernel) rfl ?_
        exact go_law0

def f_L_lawB (L : Nat) (xsc : Nat → Int32) (x3 : Int32) (x4 : Int32) (m : Mem) : Option (Int32 × Mem) :=
  lpk (f_L_lawB_b80 L xsc x4) fuelN ((0 : Int32), m) (fun t80 =>
    bnd (f_X6_ofFish x4 (0 : Int32) t80) (fun r672 m672 =>
      if r672 = (-1 : Int32) then
        bnd (f_X6_ofFish (0 : Int32) (6 : Int32) m672) (fun r683 m683 =>
          if r683 = (-2 : Int32) then
            bnd (f_X6_dear (10 : Int32) m683) (fun r694 m694 =>
              if r694 = (-2 : Int32) then
                bnd (f_X6_dear (-1 : Int32) m694) (fun r704 m704 =>
                  if r704 = (-2 : Int32) then
                    bnd (f_X6_scales x4 (0 : Int32) m704) (fun r716 m716 =>
                      if r716 = (-1 : Int32) then
                        bnd (f_X6_scales (0 : Int32) (100 : Int32) m716) (fun r727 m727 =>
                          if r727 = (-2 : Int32) then
                            bnd (f_X6_scales (0 : Int32) (-1 : Int32) m727) (fun r738 m738 =>
                              if r738 = (-2 : Int32) then
                                bnd (f_X6_hear (64 : Int32) m738) (fun r749 m749 =>
                                  if r749 = (-2 : Int32) then
                                    bnd (f_X6_hear (-1 : Int32) m749) (fun r759 m759 =>
                                      if r759 = (-2 : Int32) then
                                        bnd (f_X6_passes (4 : Int32) (0 : Int32) (2 : Int32) (0 : Int32) (0 : Int32) m759) (fun r773 m773 =>
                                          if r773 = (-1 : Int32) then
                                            bnd (f_X6_passes (1 : Int32) (3 : Int32) (2 : Int32) (0 : Int32) (0 : Int32) m773) (fun r786 m786 =>
                                              if r786 = (-2 : Int32) then
                                                bnd (f_X6_passes (1 : Int32) (0 : Int32) (2 : Int32) (21 : Int32) (0 : Int32) m786) (fun r801 m801 =>
                                                  if r801 = (-2 : Int32) then
                                                    bnd (f_X6_passes (1 : Int32) (0 : Int32) (2 : Int32) (-1 : Int32) (0 : Int32) m801) (fun r815 m815 =>
                                                      if r815 = (-2 : Int32) then
                                                        bnd (f_X6_passes (1 : Int32) (0 : Int32) (2 : Int32) (0 : Int32) (5 : Int32) m815) (fun r829 m829 =>
                                                          if r829 = (-2 : Int32) then
                                                            bnd (f_X6_passes (1 : Int32) (0 : Int32) (2 : Int32) (0 : Int32) (15 : Int32) m829) (fun r844 m844 =>
                                                              if r844 = (-2 : Int32) then
                                                                bnd (f_X6_passes (1 : Int32) (1 : Int32) (2 : Int32) (0 : Int32) (0 : Int32) m844) (fun r858 m858 =>
                                                                  if r858 = (-12 : Int32) then
                                                                    bnd (f_X6_passes (2 : Int32) (2 : Int32) (2 : Int32) (0 : Int32) (0 : Int32) m858) (fun r872 m872 =>
                                                                      if r872 = (-11 : Int32) then
                                                                        bnd (f_X6_passes (1 : Int32) (0 : Int32) (5 : Int32) (20 : Int32) (0 : Int32) m872) (fun r887 m887 =>
                                                                          if r887 = (-13 : Int32) then
                                                                            bnd (f_X6_passes (1 : Int32) (0 : Int32) (2 : Int32) (0 : Int32) (0 : Int32) m887) (fun r901 m901 =>
                                                                              if r901 = 0 then
                                                                                bnd (f_X6_passes (1 : Int32) (0 : Int32) (2 : Int32) (0 : Int32) (1 : Int32) m901) (fun r913 m913 =>
                                                                                  if r913 = (-9 : Int32) then
                                                                                    bnd (f_X6_owes x4 (0 : Int32) (1 : Int32) (0 : Int32) (2 : Int32) (0 : Int32) m913) (fun r931 m931 =>
                                                                                      if r931 = (-1 : Int32) then
                                                                                        bnd (f_X6_owes (0 : Int32) x4 (1 : Int32) (0 : Int32) (2 : Int32) (0 : Int32) m931) (fun r946 m946 =>
                                                                                          if r946 = (-1 : Int32) then
                                                                                            bnd (f_X6_owes (0 : Int32) (0 : Int32) (4 : Int32) (0 : Int32) (2 : Int32) (0 : Int32) m946) (fun r960 m960 =>
                                                                                              if r960 = (-1 : Int32) then
                                                                                                bnd (f_X6_owes (0 : Int32) (0 : Int32) (1 : Int32) (3 : Int32) (2 : Int32) (0 : Int32) m960) (fun r974 m974 =>
                                                                                                  if r974 = (-2 : Int32) then
                                                                                                    bnd (f_X6_toll x4 (1 : Int32) (0 : Int32) (2 : Int32) (0 : Int32) m974) (fun r989 m989 =>
                                                                                                      if r989 = (-1 : Int32) then
                                                                                                        bnd (f_X6_toll (0 : Int32) (1 : Int32) (1 : Int32) (2 : Int32) (0 : Int32) m989) (fun r1002 m1002 =>
                                                                                                          if r1002 = (-12 : Int32) then
                                                                                                            bnd (f_X6_toll (0 : Int32) (1 : Int32) (0 : Int32) (2 : Int32) (21 : Int32) m1002) (fun r1017 m1017 =>
                                                                                                              if r1017 = (-2 : Int32) then
                                                                                                                bnd (f_X6_wants x4 (1 : Int32) (0 : Int32) (2 : Int32) (0 : Int32) m1017) (fun r1032 m1032 =>
                                                                                                                  if r1032 = (-1 : Int32) then
                                                                                                                    bnd (f_X6_wants (0 : Int32) (1 : Int32) (0 : Int32) (2 : Int32) (0 : Int32) m1032) (fun r1045 m1045 =>
                                                                                                                      if r1045 = 0 then
                                                                                                                        bnd (f_X6_wants (0 : Int32) (1 : Int32) (0 : Int32) (5 : Int32) (20 : Int32) m1045) (fun r1058 m1058 =>
                                                                                                                          if r1058 = (-13 : Int32) then
                                                                                                                            bnd (f_X6_put (1 : Int32) (2 : Int32) x4 m1058) (fun r1073 m1073 =>
                                                                                                                              if r1073 = (1 : Int32) then
                                                                                                                                bnd (f_X6_passes (1 : Int32) (0 : Int32) (2 : Int32) (1 : Int32) (0 : Int32) m1073) (fun r1086 m1086 =>
                                                                                                                                  if r1086 = (-1 : Int32) then
                                                                                                                                    bnd (f_X6_put (1 : Int32) (2 : Int32) (0 : Int32) m1086) (fun r1097 m1097 =>
                                                                                                                                      if r1097 = (1 : Int32) then
                                                                                                                                        bnd (f_X6_put (1 : Int32) (3 : Int32) (4 : Int32) m1097) (fun r1108 m1108 =>
                                                                                                                                          if r1108 = (1 : Int32) then
                                                                                                                                            bnd (f_X6_passes (1 : Int32) (0 : Int32) (2 : Int32) (1 : Int32) (0 : Int32) m1108) (fun r1121 m1121 =>
                                                                                                                                              if r1121 = (-2 : Int32) then
                                                                                                                                                bnd (f_X6_toll (0 : Int32) (1 : Int32) (0 : Int32) (2 : Int32) (1 : Int32) m1121) (fun r1135 m1135 =>
                                                                                                                                                  if r1135 = (-2 : Int32) then
                                                                                                                                                    bnd (f_X6_put (1 : Int32) (3 : Int32) (-1 : Int32) m1135) (fun r1147 m1147 =>
                                                                                                                                                      if r1147 = (1 : Int32) then
                                                                                                                                                        bnd (f_X6_owes (0 : Int32) (0 : Int32) (1 : Int32) (0 : Int32) (2 : Int32) (1 : Int32) m1147) (fun r1161 m1161 =>
                                                                                                                                                          if r1161 = (-2 : Int32) then
                                                                                                                                                            some ((1 : Int32), m1161)
                                                                                                                                                          else
                                                                                                                                                            some ((0 : Int32), m1161))
                                                                                                                                                      else
                                                                                                                                                        some ((0 : Int32), m1147))
                                                                                                                                                  else
                                                                                                                                                    some ((0 : Int32), m1135))
                                                                                                                                              else
                                                                                                                                                some ((0 : Int32), m1121))
                                                                                                                                          else
                                                                                                                                            some ((0 : Int32), m1108))
                                                                                                                                      else
                                                                                                                                        some ((0 : Int32), m1097))
                                                                                                                                  else
                                                                                                                                    some ((0 : Int32), m1086))
                                                                                                                              else
                                                                                                                                some ((0 : Int32), m1073))
                                                                                                                          else
                                                                                                                            some ((0 : Int32), m1058))
                                                                                                                      else
                                                                                                                        some ((0 : Int32), m1045))
                                                                                                                  else
                                                                                                                    some ((0 : Int32), m1032))
                                                                                                              else
                                                                                                                some ((0 : Int32), m1017))
                                                                                                          else
                                                                                                            some ((0 : Int32), m1002))
                                                                                                      else
                                                                                                        some ((0 : Int32), m989))
                                                                                                  else
                                                                                                    some ((0 : Int32), m974))
                                                                                              else
                                                                                                some ((0 : Int32), m960))
                                                                                          else
                                                                                            some ((0 : Int32), m946))
                                                                                      else
                                                                                        some ((0 : Int32), m931))
                                                                                  else
                                                                                    some ((0 : Int32), m913))
                                                                              else
                                                                                some ((0 : Int32), m901))
                                                                          else
                                                                            some ((0 : Int32), m887))
                                                                      else
                                                                        some ((0 : Int32), m872))
                                                                  else
                                                                    some ((0 : Int32), m858))
                                                              else
                                                                some ((0 : Int32), m844))
                                                          else
                                                            some ((0 : Int32), m829))
                                                      else
                                                        some ((0 : Int32), m815))
                                                  else
                                                    some ((0 : Int32), m801))
                                              else
                                                some ((0 : Int32), m786))
                                          else
                                            some ((0 : Int32), m773))
                                      else
                                        some ((0 : Int32), m759))
                                  else
                                    some ((0 : Int32), m749))
                              else
                                some ((0 : Int32), m738))
                          else
                            some ((0 : Int32), m727))
                      else
                        some ((0 : Int32), m716))
                  else
                    some ((0 : Int32), m704))
              else
                some ((0 : Int32), m694))
          else
            some ((0 : Int32), m683))
      else
        some ((0 : Int32), m672)))
theorem g_L_lawB {X : XT} (h : MW X) (x3 : Int32) (x4 : Int32) (m : Mem) : Go X (El X) 77 [some (.inr (.inr (60, 0))), some (.inr (.inr (0, 0))), some (.inr (.inr (70, 0))), some (.inl x3), some (.inl x4), some (.inr (.inr (71, 0))), some (.inr (.inr (72, 0))), some (.inr (.inr (73, 0))), none, none, none, none, none, none, none, none, none] [] m (f_L_lawB (xL X) (xx X) x3 x4 m) := by
  unfold f_L_lawB
  refine go_blk h.1 (is := [.iconst 0, .istore 8]) (pc' := 80) (ls' := [some (.inr (.inr (60, 0))), some (.inr (.inr (0, 0))), some (.inr (.inr (70, 0))), some (.inl x3), some (.inl x4), some (.inr (.inr (71, 0))), some (.inr (.inr (72, 0))), some (.inr (.inr (73, 0))), some (.inl (0 : Int32)), none, none, none, none, none, none, none, none]) (st' := []) (m' := m) (by decide +kernel) rfl ?_
  refine go_lp1 (hd := fun (y8 : Int32) (n : Mem) o => ∀ (o3 : Option AV) (o9 : Option AV) (o10 : Option AV) (o11 : Option AV) (o12 : Option AV) (o13 : Option AV) (o14 : Option AV) (o15 : Option AV) (o16 : Option AV), Go X (El X) 80 [some (.inr (.inr (60, 0))), some (.inr (.inr (0, 0))), some (.inr (.inr (70, 0))), o3, some (.inl x4), some (.inr (.inr (71, 0))), some (.inr (.inr (72, 0))), some (.inr (.inr (73, 0))), some (.inl y8), o9, o10, o11, o12, o13, o14, o15, o16] [] n o) (fun _ _ _ _ _ _ _ _ _ _ _ => go_none) (fun y8 n nx_ hn_ => g_L_lawB_b80 h x4 nx_ _ hn_ (fun z_80 o0_80 o2_80 o3_80 o5_80 o6_80 o7_80 o8_80 o9_80 o10_80 o11_80 o12_80 o13_80 o14_80 o15_80 o16_80 => ?_) (y8, n)) fuelN (0 : Int32) m (some (.inl x3)) (none) (none) (none) (none) (none) (none) (none) (none)
  refine go_blk h.1 (is := [.aload_n 1, .iload 4, .iconst 0]) (pc' := 672) (ls' := [o0_80, some (.inr (.inr (0, 0))), o2_80, o3_80, some (.inl x4), o5_80, o6_80, o7_80, o8_80, o9_80, o10_80, o11_80, o12_80, o13_80, o14_80, o15_80, o16_80]) (st' := [.inl (0 : Int32), .inl x4, .inr (.inr (0, 0))]) (m' := z_80) (by decide +kernel) rfl ?_
  refine go_callV h.1 (index := 89) (n := 2) (t := 0) (i := 0) (ci := 6) (nf := 7) (cz := (RX6, TX6, 7)) (as := [.inl x4, .inl (0 : Int32)]) (rest := []) (ctr_X6_ofFish (xZ X) x4 (0 : Int32) z_80) (by decide +kernel) rfl rfl wd_v_L_89 rfl (h.room (by first | decide | omega) (by decide)) h.cl (Nat.le_of_ble_eq_true rfl) puI_ok rfl (fun r672 m672 _ => ?_)
  show Go X (El X) 675 [o0_80, some (.inr (.inr (0, 0))), o2_80, o3_80, some (.inl x4), o5_80, o6_80, o7_80, o8_80, o9_80, o10_80, o11_80, o12_80, o13_80, o14_80, o15_80, o16_80] [.inl r672] m672 _
  refine go_blk h.1 (is := [.iconst (-1)]) (pc' := 676) (ls' := [o0_80, some (.inr (.inr (0, 0))), o2_80, o3_80, some (.inl x4), o5_80, o6_80, o7_80, o8_80, o9_80, o10_80, o11_80, o12_80, o13_80, o14_80, o15_80, o16_80]) (st' := [.inl (-1 : Int32), .inl r672]) (m' := m672) (by decide +kernel) rfl ?_
  refine go_icmpne h.1 (off := 245) 921 (by decide +kernel) (by decide) (fun c676 => ?_) (fun c676 => ?_)
  · refine go_blk h.1 (is := [.iconst 0]) (pc' := 922) (ls' := [o0_80, some (.inr (.inr (0, 0))), o2_80, o3_80, some (.inl x4), o5_80, o6_80, o7_80, o8_80, o9_80, o10_80, o11_80, o12_80, o13_80, o14_80, o15_80, o16_80]) (st' := [.inl (0 : Int32)]) (m' := m672) (by decide +kernel) rfl ?_
    exact go_law0
  · refine go_blk h.1 (is := [.aload_n 1, .iconst 0, .bipush 6]) (pc' := 683) (ls' := [o0_80, some (.inr (.inr (0, 0))), o2_80, o3_80, some (.inl x4), o5_80, o6_80, o7_80, o8_80, o9_80, o10_80, o11_80, o12_80, o13_80, o14_80, o15_80, o16_80]) (st' := [.inl (6 : Int32), .inl (0 : Int32), .inr (.inr (0, 0))]) (m' := m672) (by decide +kernel) rfl ?_
    refine go_callV h.1 (index := 89) (n := 2) (t := 0) (i := 0) (ci := 6) (nf := 7) (cz := (RX6, TX6, 7)) (as := [.inl (0 : Int32), .inl (6 : Int32)]) (rest := []) (ctr_X6_ofFish (xZ X) (0 : Int32) (6 : Int32) m672) (by decide +kernel) rfl rfl wd_v_L_89 rfl (h.room (by first | decide | omega) (by decide)) h.cl (Nat.le_of_ble_eq_true rfl) puI_ok rfl (fun r683 m683 _ => ?_)
    show Go X (El X) 686 [o0_80, some (.inr (.inr (0, 0))), o2_80, o3_80, some (.inl x4), o5_80, o6_80, o7_80, o8_80, o9_80, o10_80, o11_80, o12_80, o13_80, o14_80, o15_80, o16_80] [.inl r683] m683 _
    refine go_blk h.1 (is := [.bipush (-2)]) (pc' := 688) (ls' := [o0_80, some (.inr (.inr (0, 0))), o2_80, o3_80, some (.inl x4), o5_80, o6_80, o7_80, o8_80, o9_80, o10_80, o11_80, o12_80, o13_80, o14_80, o15_80, o16_80]) (st' := [.inl (-2 : Int32), .inl r683]) (m' := m683) (by decide +kernel) rfl ?_
    refine go_icmpne h.1 (off := 233) 921 (by decide +kernel) (by decide) (fun c688 => ?_) (fun c688 => ?_)
    · refine go_blk h.1 (is := [.iconst 0]) (pc' := 922) (ls' := [o0_80, some (.inr (.inr (0, 0))), o2_80, o3_80, some (.inl x4), o5_80, o6_80, o7_80, o8_80, o9_80, o10_80, o11_80, o12_80, o13_80, o14_80, o15_80, o16_80]) (st' := [.inl (0 : Int32)]) (m' := m683) (by decide +kernel) rfl ?_
      exact go_law0
    · refine go_blk h.1 (is := [.aload_n 1, .bipush 10]) (pc' := 694) (ls' := [o0_80, some (.inr (.inr (0, 0))), o2_80, o3_80, some (.inl x4), o5_80, o6_80, o7_80, o8_80, o9_80, o10_80, o11_80, o12_80, o13_80, o14_80, o15_80, o16_80]) (st' := [.inl (10 : Int32), .inr (.inr (0, 0))]) (m' := m683) (by decide +kernel) rfl ?_
      refine go_callV h.1 (index := 35) (n := 1) (t := 0) (i := 0) (ci := 6) (nf := 7) (cz := (RX6, TX6, 7)) (as := [.inl (10 : Int32)]) (rest := []) (ctr_X6_dear (xZ X) (10 : Int32) m683) (by decide +kernel) rfl rfl wd_v_L_35 rfl (h.room (by first | decide | omega) (by decide)) h.cl (Nat.le_of_ble_eq_true rfl) puI_ok rfl (fun r694 m694 _ => ?_)
      show Go X (El X) 697 [o0_80, some (.inr (.inr (0, 0))), o2_80, o3_80, some (.inl x4), o5_80, o6_80, o7_80, o8_80, o9_80, o10_80, o11_80, o12_80, o13_80, o14_80, o15_80, o16_80] [.inl r694] m694 _
      refine go_blk h.1 (is := [.bipush (-2)]) (pc' := 699) (ls' := [o0_80, some (.inr (.inr (0, 0))), o2_80, o3_80, some (.inl x4), o5_80, o6_80, o7_80, o8_80, o9_80, o10_80, o11_80, o12_80, o13_80, o14_80, o15_80, o16_80]) (st' := [.inl (-2 : Int32), .inl r694]) (m' := m694) (by decide +kernel) rfl ?_
      refine go_icmpne h.1 (off := 222) 921 (by decide +kernel) (by decide) (fun c699 => ?_) (fun c699 => ?_)
      · refine go_blk h.1 (is := [.iconst 0]) (pc' := 922) (ls' := [o0_80, some (.inr (.inr (0, 0))), o2_80, o3_80, some (.inl x4), o5_80, o6_80, o7_80, o8_80, o9_80, o10_80, o11_80, o12_80, o13_80, o14_80, o15_80, o16_80]) (st' := [.inl (0 : Int32)]) (m' := m694) (by decide +kernel) rfl ?_
        exact go_law0
      · refine go_blk h.1 (is := [.aload_n 1, .iconst (-1)]) (pc' := 704) (ls' := [o0_80, some (.inr (.inr (0, 0))), o2_80, o3_80, some (.inl x4), o5_80, o6_80, o7_80, o8_80, o9_80, o10_80, o11_80, o12_80, o13_80, o14_80, o15_80, o16_80]) (st' := [.inl (-1 : Int32), .inr (.inr (0, 0))]) (m' := m694) (by decide +kernel) rfl ?_
        refine go_callV h.1 (index := 35) (n := 1) (t := 0) (i := 0) (ci := 6) (nf := 7) (cz := (RX6, TX6, 7)) (as := [.inl (-1 : Int32)]) (rest := []) (ctr_X6_dear (xZ X) (-1 : Int32) m694) (by decide +kernel) rfl rfl wd_v_L_35 rfl (h.room (by first | decide | omega) (by decide)) h.cl (Nat.le_of_ble_eq_true rfl) puI_ok rfl (fun r704 m704 _ => ?_)
        show Go X (El X) 707 [o0_80, some (.inr (.inr (0, 0))), o2_80, o3_80, some (.inl x4), o5_80, o6_80, o7_80, o8_80, o9_80, o10_80, o11_80, o12_80, o13_80, o14_80, o15_80, o16_80] [.inl r704] m704 _
        refine go_blk h.1 (is := [.bipush (-2)]) (pc' := 709) (ls' := [o0_80, some (.inr (.inr (0, 0))), o2_80, o3_80, some (.inl x4), o5_80, o6_80, o7_80, o8_80, o9_80, o10_80, o11_80, o12_80, o13_80, o14_80, o15_80, o16_80]) (st' := [.inl (-2 : Int32), .inl r704]) (m' := m704) (by decide +kernel) rfl ?_
        refine go_icmpne h.1 (off := 212) 921 (by decide +kernel) (by decide) (fun c709 => ?_) (fun c709 => ?_)
        · refine go_blk h.1 (is := [.iconst 0]) (pc' := 922) (ls' := [o0_80, some (.inr (.inr (0, 0))), o2_80, o3_80, some (.inl x4), o5_80, o6_80, o7_80, o8_80, o9_80, o10_80, o11_80, o12_80, o13_80, o14_80, o15_80, o16_80]) (st' := [.inl (0 : Int32)]) (m' := m704) (by decide +kernel) rfl ?_
          exact go_law0
        · refine go_blk h.1 (is := [.aload_n 1, .iload 4, .iconst 0]) (pc' := 716) (ls' := [o0_80, some (.inr (.inr (0, 0))), o2_80, o3_80, some (.inl x4), o5_80, o6_80, o7_80, o8_80, o9_80, o10_80, o11_80, o12_80, o13_80, o14_80, o15_80, o16_80]) (st' := [.inl (0 : Int32), .inl x4, .inr (.inr (0, 0))]) (m' := m704) (by decide +kernel) rfl ?_
          refine go_callV h.1 (index := 28) (n := 2) (t := 0) (i := 0) (ci := 6) (nf := 7) (cz := (RX6, TX6, 7)) (as := [.inl x4, .inl (0 : Int32)]) (rest := []) (ctr_X6_scales (xZ X) x4 (0 : Int32) m704) (by decide +kernel) rfl rfl wd_v_L_28 rfl (h.room (by first | decide | omega) (by decide)) h.cl (Nat.le_of_ble_eq_true rfl) puI_ok rfl (fun r716 m716 _ => ?_)
          show Go X (El X) 719 [o0_80, some (.inr (.inr (0, 0))), o2_80, o3_80, some (.inl x4), o5_80, o6_80, o7_80, o8_80, o9_80, o10_80, o11_80, o12_80, o13_80, o14_80, o15_80, o16_80] [.inl r716] m716 _
          refine go_blk h.1 (is := [.iconst (-1)]) (pc' := 720) (ls' := [o0_80, some (.inr (.inr (0, 0))), o2_80, o3_80, some (.inl x4), o5_80, o6_80, o7_80, o8_80, o9_80, o10_80, o11_80, o12_80, o13_80, o14_80, o15_80, o16_80]) (st' := [.inl (-1 : Int32), .inl r716]) (m' := m716) (by decide +kernel) rfl ?_
          refine go_icmpne h.1 (off := 201) 921 (by decide +kernel) (by decide) (fun c720 => ?_) (fun c720 => ?_)
          · refine go_blk h.1 (is := [.iconst 0]) (pc' := 922) (ls' := [o0_80, some (.inr (.inr (0, 0))), o2_80, o3_80, some (.inl x4), o5_80, o6_80, o7_80, o8_80, o9_80, o10_80, o11_80, o12_80, o13_80, o14_80, o15_80, o16_80]) (st' := [.inl (0 : Int32)]) (m' := m716) (by decide +kernel) rfl ?_
            exact go_law0
          · refine go_blk h.1 (is := [.aload_n 1, .iconst 0, .bipush 100]) (pc' := 727) (ls' := [o0_80, some (.inr (.inr (0, 0))), o2_80, o3_80, some (.inl x4), o5_80, o6_80, o7_80, o8_80, o9_80, o10_80, o11_80, o12_80, o13_80, o14_80, o15_80, o16_80]) (st' := [.inl (100 : Int32), .inl (0 : Int32), .inr (.inr (0, 0))]) (m' := m716) (by decide +kernel) rfl ?_
            refine go_callV h.1 (index := 28) (n := 2) (t := 0) (i := 0) (ci := 6) (nf := 7) (cz := (RX6, TX6, 7)) (as := [.inl (0 : Int32), .inl (100 : Int32)]) (rest := []) (ctr_X6_scales (xZ X) (0 : Int32) (100 : Int32) m716) (by decide +kernel) rfl rfl wd_v_L_28 rfl (h.room (by first | decide | omega) (by decide)) h.cl (Nat.le_of_ble_eq_true rfl) puI_ok rfl (fun r727 m727 _ => ?_)
            show Go X (El X) 730 [o0_80, some (.inr (.inr (0, 0))), o2_80, o3_80, some (.inl x4), o5_80, o6_80, o7_80, o8_80, o9_80, o10_80, o11_80, o12_80, o13_80, o14_80, o15_80, o16_80] [.inl r727] m727 _
            refine go_blk h.1 (is := [.bipush (-2)]) (pc' := 732) (ls' := [o0_80, some (.inr (.inr (0, 0))), o2_80, o3_80, some (.inl x4), o5_80, o6_80, o7_80, o8_80, o9_80, o10_80, o11_80, o12_80, o13_80, o14_80, o15_80, o16_80]) (st' := [.inl (-2 : Int32), .inl r727]) (m' := m727) (by decide +kernel) rfl ?_
            refine go_icmpne h.1 (off := 189) 921 (by decide +kernel) (by decide) (fun c732 => ?_) (fun c732 => ?_)
            · refine go_blk h.1 (is := [.iconst 0]) (pc' := 922) (ls' := [o0_80, some (.inr (.inr (0, 0))), o2_80, o3_80, some (.inl x4), o5_80, o6_80, o7_80, o8_80, o9_80, o10_80, o11_80, o12_80, o13_80, o14_80, o15_80, o16_80]) (st' := [.inl (0 : Int32)]) (m' := m727) (by decide +kernel) rfl ?_
              exact go_law0
            · refine go_blk h.1 (is := [.aload_n 1, .iconst 0, .iconst (-1)]) (pc' := 738) (ls' := [o0_80, some (.inr (.inr (0, 0))), o2_80, o3_80, some (.inl x4), o5_80, o6_80, o7_80, o8_80, o9_80, o10_80, o11_80, o12_80, o13_80, o14_80, o15_80, o16_80]) (st' := [.inl (-1 : Int32), .inl (0 : Int32), .inr (.inr (0, 0))]) (m' := m727) (by decide +kernel) rfl ?_
              refine go_callV h.1 (index := 28) (n := 2) (t := 0) (i := 0) (ci := 6) (nf := 7) (cz := (RX6, TX6, 7)) (as := [.inl (0 : Int32), .inl (-1 : Int32)]) (rest := []) (ctr_X6_scales (xZ X) (0 : Int32) (-1 : Int32) m727) (by decide +kernel) rfl rfl wd_v_L_28 rfl (h.room (by first | decide | omega) (by decide)) h.cl (Nat.le_of_ble_eq_true rfl) puI_ok rfl (fun r738 m738 _ => ?_)
              show Go X (El X) 741 [o0_80, some (.inr (.inr (0, 0))), o2_80, o3_80, some (.inl x4), o5_80, o6_80, o7_80, o8_80, o9_80, o10_80, o11_80, o12_80, o13_80, o14_80, o15_80, o16_80] [.inl r738] m738 _
              refine go_blk h.1 (is := [.bipush (-2)]) (pc' := 743) (ls' := [o0_80, some (.inr (.inr (0, 0))), o2_80, o3_80, some (.inl x4), o5_80, o6_80, o7_80, o8_80, o9_80, o10_80, o11_80, o12_80, o13_80, o14_80, o15_80, o16_80]) (st' := [.inl (-2 : Int32), .inl r738]) (m' := m738) (by decide +kernel) rfl ?_
              refine go_icmpne h.1 (off := 178) 921 (by decide +kernel) (by decide) (fun c743 => ?_) (fun c743 => ?_)
              · refine go_blk h.1 (is := [.iconst 0]) (pc' := 922) (ls' := [o0_80, some (.inr (.inr (0, 0))), o2_80, o3_80, some (.inl x4), o5_80, o6_80, o7_80, o8_80, o9_80, o10_80, o11_80, o12_80, o13_80, o14_80, o15_80, o16_80]) (st' := [.inl (0 : Int32)]) (m' := m738) (by decide +kernel) rfl ?_
                exact go_law0
              · refine go_blk h.1 (is := [.aload_n 1, .bipush 64]) (pc' := 749) (ls' := [o0_80, some (.inr (.inr (0, 0))), o2_80, o3_80, some (.inl x4), o5_80, o6_80, o7_80, o8_80, o9_80, o10_80, o11_80, o12_80, o13_80, o14_80, o15_80, o16_80]) (st' := [.inl (64 : Int32), .inr (.inr (0, 0))]) (m' := m738) (by decide +kernel) rfl ?_
                refine go_callV h.1 (index := 31) (n := 1) (t := 0) (i := 0) (ci := 6) (nf := 7) (cz := (RX6, TX6, 7)) (as := [.inl (64 : Int32)]) (rest := []) (ctr_X6_hear (xZ X) (64 : Int32) m738) (by decide +kernel) rfl rfl wd_v_L_31 rfl (h.room (by first | decide | omega) (by decide)) h.cl (Nat.le_of_ble_eq_true rfl) puI_ok rfl (fun r749 m749 _ => ?_)
                show Go X (El X) 752 [o0_80, some (.inr (.inr (0, 0))), o2_80, o3_80, some (.inl x4), o5_80, o6_80, o7_80, o8_80, o9_80, o10_80, o11_80, o12_80, o13_80, o14_80, o15_80, o16_80] [.inl r749] m749 _
                refine go_blk h.1 (is := [.bipush (-2)]) (pc' := 754) (ls' := [o0_80, some (.inr (.inr (0, 0))), o2_80, o3_80, some (.inl x4), o5_80, o6_80, o7_80, o8_80, o9_80, o10_80, o11_80, o12_80, o13_80, o14_80, o15_80, o16_80]) (st' := [.inl (-2 : Int32), .inl r749]) (m' := m749) (by decide +kernel) rfl ?_
                refine go_icmpne h.1 (off := 167) 921 (by decide +kernel) (by decide) (fun c754 => ?_) (fun c754 => ?_)
                · refine go_blk h.1 (is := [.iconst 0]) (pc' := 922) (ls' := [o0_80, some (.inr (.inr (0, 0))), o2_80, o3_80, some (.inl x4), o5_80, o6_80, o7_80, o8_80, o9_80, o10_80, o11_80, o12_80, o13_80, o14_80, o15_80, o16_80]) (st' := [.inl (0 : Int32)]) (m' := m749) (by decide +kernel) rfl ?_
                  exact go_law0
                · refine go_blk h.1 (is := [.aload_n 1, .iconst (-1)]) (pc' := 759) (ls' := [o0_80, some (.inr (.inr (0, 0))), o2_80, o3_80, some (.inl x4), o5_80, o6_80, o7_80, o8_80, o9_80, o10_80, o11_80, o12_80, o13_80, o14_80, o15_80, o16_80]) (st' := [.inl (-1 : Int32), .inr (.inr (0, 0))]) (m' := m749) (by decide +kernel) rfl ?_
                  refine go_callV h.1 (index := 31) (n := 1) (t := 0) (i := 0) (ci := 6) (nf := 7) (cz := (RX6, TX6, 7)) (as := [.inl (-1 : Int32)]) (rest := []) (ctr_X6_hear (xZ X) (-1 : Int32) m749) (by decide +kernel) rfl rfl wd_v_L_31 rfl (h.room (by first | decide | omega) (by decide)) h.cl (Nat.le_of_ble_eq_true rfl) puI_ok rfl (fun r759 m759 _ => ?_)
                  show Go X (El X) 762 [o0_80, some (.inr (.inr (0, 0))), o2_80, o3_80, some (.inl x4), o5_80, o6_80, o7_80, o8_80, o9_80, o10_80, o11_80, o12_80, o13_80, o14_80, o15_80, o16_80] [.inl r759] m759 _
                  refine go_blk h.1 (is := [.bipush (-2)]) (pc' := 764) (ls' := [o0_80, some (.inr (.inr (0, 0))), o2_80, o3_80, some (.inl x4), o5_80, o6_80, o7_80, o8_80, o9_80, o10_80, o11_80, o12_80, o13_80, o14_80, o15_80, o16_80]) (st' := [.inl (-2 : Int32), .inl r759]) (m' := m759) (by decide +kernel) rfl ?_
                  refine go_icmpne h.1 (off := 157) 921 (by decide +kernel) (by decide) (fun c764 => ?_) (fun c764 => ?_)
                  · refine go_blk h.1 (is := [.iconst 0]) (pc' := 922) (ls' := [o0_80, some (.inr (.inr (0, 0))), o2_80, o3_80, some (.inl x4), o5_80, o6_80, o7_80, o8_80, o9_80, o10_80, o11_80, o12_80, o13_80, o14_80, o15_80, o16_80]) (st' := [.inl (0 : Int32)]) (m' := m759) (by decide +kernel) rfl ?_
                    exact go_law0
                  · refine go_blk h.1 (is := [.aload_n 1, .iconst 4, .iconst 0, .iconst 2, .iconst 0, .iconst 0]) (pc' := 773) (ls' := [o0_80, some (.inr (.inr (0, 0))), o2_80, o3_80, some (.inl x4), o5_80, o6_80, o7_80, o8_80, o9_80, o10_80, o11_80, o12_80, o13_80, o14_80, o15_80, o16_80]) (st' := [.inl (0 : Int32), .inl (0 : Int32), .inl (2 : Int32), .inl (0 : Int32), .inl (4 : Int32), .inr (.inr (0, 0))]) (m' := m759) (by decide +kernel) rfl ?_
                    refine go_callV h.1 (index := 76) (n := 5) (t := 0) (i := 0) (ci := 6) (nf := 7) (cz := (RX6, TX6, 7)) (as := [.inl (4 : Int32), .inl (0 : Int32), .inl (2 : Int32), .inl (0 : Int32), .inl (0 : Int32)]) (rest := []) (ctr_X6_passes (xZ X) (4 : Int32) (0 : Int32) (2 : Int32) (0 : Int32) (0 : Int32) m759) (by decide +kernel) rfl rfl wd_v_L_76 rfl (h.room (by first | decide | omega) (by decide)) h.cl (Nat.le_of_ble_eq_true rfl) puI_ok rfl (fun r773 m773 _ => ?_)
                    show Go X (El X) 776 [o0_80, some (.inr (.inr (0, 0))), o2_80, o3_80, some (.inl x4), o5_80, o6_80, o7_80, o8_80, o9_80, o10_80, o11_80, o12_80, o13_80, o14_80, o15_80, o16_80] [.inl r773] m773 _
                    refine go_blk h.1 (is := [.iconst (-1)]) (pc' := 777) (ls' := [o0_80, some (.inr (.inr (0, 0))), o2_80, o3_80, some (.inl x4), o5_80, o6_80, o7_80, o8_80, o9_80, o10_80, o11_80, o12_80, o13_80, o14_80, o15_80, o16_80]) (st' := [.inl (-1 : Int32), .inl r773]) (m' := m773) (by decide +kernel) rfl ?_
                    refine go_icmpne h.1 (off := 144) 921 (by decide +kernel) (by decide) (fun c777 => ?_) (fun c777 => ?_)
                    · refine go_blk h.1 (is := [.iconst 0]) (pc' := 922) (ls' := [o0_80, some (.inr (.inr (0, 0))), o2_80, o3_80, some (.inl x4), o5_80, o6_80, o7_80, o8_80, o9_80, o10_80, o11_80, o12_80, o13_80, o14_80, o15_80, o16_80]) (st' := [.inl (0 : Int32)]) (m' := m773) (by decide +kernel) rfl ?_
                      exact go_law0
                    · refine go_blk h.1 (is := [.aload_n 1, .iconst 1, .iconst 3, .iconst 2, .iconst 0, .iconst 0]) (pc' := 786) (ls' := [o0_80, some (.inr (.inr (0, 0))), o2_80, o3_80, some (.inl x4), o5_80, o6_80, o7_80, o8_80, o9_80, o10_80, o11_80, o12_80, o13_80, o14_80, o15_80, o16_80]) (st' := [.inl (0 : Int32), .inl (0 : Int32), .inl (2 : Int32), .inl (3 : Int32), .inl (1 : Int32), .inr (.inr (0, 0))]) (m' := m773) (by decide +kernel) rfl ?_
                      refine go_callV h.1 (index := 76) (n := 5) (t := 0) (i := 0) (ci := 6) (nf := 7) (cz := (RX6, TX6, 7)) (as := [.inl (1 : Int32), .inl (3 : Int32), .inl (2 : Int32), .inl (0 : Int32), .inl (0 : Int32)]) (rest := []) (ctr_X6_passes (xZ X) (1 : Int32) (3 : Int32) (2 : Int32) (0 : Int32) (0 : Int32) m773) (by decide +kernel) rfl rfl wd_v_L_76 rfl (h.room (by first | decide | omega) (by decide)) h.cl (Nat.le_of_ble_eq_true rfl) puI_ok rfl (fun r786 m786 _ => ?_)
                      show Go X (El X) 789 [o0_80, some (.inr (.inr (0, 0))), o2_80, o3_80, some (.inl x4), o5_80, o6_80, o7_80, o8_80, o9_80, o10_80, o11_80, o12_80, o13_80, o14_80, o15_80, o16_80] [.inl r786] m786 _
                      refine go_blk h.1 (is := [.bipush (-2)]) (pc' := 791) (ls' := [o0_80, some (.inr (.inr (0, 0))), o2_80, o3_80, some (.inl x4), o5_80, o6_80, o7_80, o8_80, o9_80, o10_80, o11_80, o12_80, o13_80, o14_80, o15_80, o16_80]) (st' := [.inl (-2 : Int32), .inl r786]) (m' := m786) (by decide +kernel) rfl ?_
                      refine go_icmpne h.1 (off := 130) 921 (by decide +kernel) (by decide) (fun c791 => ?_) (fun c791 => ?_)
                      · refine go_blk h.1 (is := [.iconst 0]) (pc' := 922) (ls' := [o0_80, some (.inr (.inr (0, 0))), o2_80, o3_80, some (.inl x4), o5_80, o6_80, o7_80, o8_80, o9_80, o10_80, o11_80, o12_80, o13_80, o14_80, o15_80, o16_80]) (st' := [.inl (0 : Int32)]) (m' := m786) (by decide +kernel) rfl ?_
                        exact go_law0
                      · refine go_blk h.1 (is := [.aload_n 1, .iconst 1, .iconst 0, .iconst 2, .bipush 21, .iconst 0]) (pc' := 801) (ls' := [o0_80, some (.inr (.inr (0, 0))), o2_80, o3_80, some (.inl x4), o5_80, o6_80, o7_80, o8_80, o9_80, o10_80, o11_80, o12_80, o13_80, o14_80, o15_80, o16_80]) (st' := [.inl (0 : Int32), .inl (21 : Int32), .inl (2 : Int32), .inl (0 : Int32), .inl (1 : Int32), .inr (.inr (0, 0))]) (m' := m786) (by decide +kernel) rfl ?_
                        refine go_callV h.1 (index := 76) (n := 5) (t := 0) (i := 0) (ci := 6) (nf := 7) (cz := (RX6, TX6, 7)) (as := [.inl (1 : Int32), .inl (0 : Int32), .inl (2 : Int32), .inl (21 : Int32), .inl (0 : Int32)]) (rest := []) (ctr_X6_passes (xZ X) (1 : Int32) (0 : Int32) (2 : Int32) (21 : Int32) (0 : Int32) m786) (by decide +kernel) rfl rfl wd_v_L_76 rfl (h.room (by first | decide | omega) (by decide)) h.cl (Nat.le_of_ble_eq_true rfl) puI_ok rfl (fun r801 m801 _ => ?_)
                        show Go X (El X) 804 [o0_80, some (.inr (.inr (0, 0))), o2_80, o3_80, some (.inl x4), o5_80, o6_80, o7_80, o8_80, o9_80, o10_80, o11_80, o12_80, o13_80, o14_80, o15_80, o16_80] [.inl r801] m801 _
                        refine go_blk h.1 (is := [.bipush (-2)]) (pc' := 806) (ls' := [o0_80, some (.inr (.inr (0, 0))), o2_80, o3_80, some (.inl x4), o5_80, o6_80, o7_80, o8_80, o9_80, o10_80, o11_80, o12_80, o13_80, o14_80, o15_80, o16_80]) (st' := [.inl (-2 : Int32), .inl r801]) (m' := m801) (by decide +kernel) rfl ?_
                        refine go_icmpne h.1 (off := 115) 921 (by decide +kernel) (by decide) (fun c806 => ?_) (fun c806 => ?_)
                        · refine go_blk h.1 (is := [.iconst 0]) (pc' := 922) (ls' := [o0_80, some (.inr (.inr (0, 0))), o2_80, o3_80, some (.inl x4), o5_80, o6_80, o7_80, o8_80, o9_80, o10_80, o11_80, o12_80, o13_80, o14_80, o15_80, o16_80]) (st' := [.inl (0 : Int32)]) (m' := m801) (by decide +kernel) rfl ?_
                          exact go_law0
                        · refine go_blk h.1 (is := [.aload_n 1, .iconst 1, .iconst 0, .iconst 2, .iconst (-1), .iconst 0]) (pc' := 815) (ls' := [o0_80, some (.inr (.inr (0, 0))), o2_80, o3_80, some (.inl x4), o5_80, o6_80, o7_80, o8_80, o9_80, o10_80, o11_80, o12_80, o13_80, o14_80, o15_80, o16_80]) (st' := [.inl (0 : Int32), .inl (-1 : Int32), .inl (2 : Int32), .inl (0 : Int32), .inl (1 : Int32), .inr (.inr (0, 0))]) (m' := m801) (by decide +kernel) rfl ?_
                          refine go_callV h.1 (index := 76) (n := 5) (t := 0) (i := 0) (ci := 6) (nf := 7) (cz := (RX6, TX6, 7)) (as := [.inl (1 : Int32), .inl (0 : Int32), .inl (2 : Int32), .inl (-1 : Int32), .inl (0 : Int32)]) (rest := []) (ctr_X6_passes (xZ X) (1 : Int32) (0 : Int32) (2 : Int32) (-1 : Int32) (0 : Int32) m801) (by decide +kernel) rfl rfl wd_v_L_76 rfl (h.room (by first | decide | omega) (by decide)) h.cl (Nat.le_of_ble_eq_true rfl) puI_ok rfl (fun r815 m815 _ => ?_)
                          show Go X (El X) 818 [o0_80, some (.inr (.inr (0, 0))), o2_80, o3_80, some (.inl x4), o5_80, o6_80, o7_80, o8_80, o9_80, o10_80, o11_80, o12_80, o13_80, o14_80, o15_80, o16_80] [.inl r815] m815 _
                          refine go_blk h.1 (is := [.bipush (-2)]) (pc' := 820) (ls' := [o0_80, some (.inr (.inr (0, 0))), o2_80, o3_80, some (.inl x4), o5_80, o6_80, o7_80, o8_80, o9_80, o10_80, o11_80, o12_80, o13_80, o14_80, o15_80, o16_80]) (st' := [.inl (-2 : Int32), .inl r815]) (m' := m815) (by decide +kernel) rfl ?_
                          refine go_icmpne h.1 (off := 101) 921 (by decide +kernel) (by decide) (fun c820 => ?_) (fun c820 => ?_)
                          · refine go_blk h.1 (is := [.iconst 0]) (pc' := 922) (ls' := [o0_80, some (.inr (.inr (0, 0))), o2_80, o3_80, some (.inl x4), o5_80, o6_80, o7_80, o8_80, o9_80, o10_80, o11_80, o12_80, o13_80, o14_80, o15_80, o16_80]) (st' := [.inl (0 : Int32)]) (m' := m815) (by decide +kernel) rfl ?_
                            exact go_law0
                          · refine go_blk h.1 (is := [.aload_n 1, .iconst 1, .iconst 0, .iconst 2, .iconst 0, .iconst 5]) (pc' := 829) (ls' := [o0_80, some (.inr (.inr (0, 0))), o2_80, o3_80, some (.inl x4), o5_80, o6_80, o7_80, o8_80, o9_80, o10_80, o11_80, o12_80, o13_80, o14_80, o15_80, o16_80]) (st' := [.inl (5 : Int32), .inl (0 : Int32), .inl (2 : Int32), .inl (0 : Int32), .inl (1 : Int32), .inr (.inr (0, 0))]) (m' := m815) (by decide +kernel) rfl ?_
                            refine go_callV h.1 (index := 76) (n := 5) (t := 0) (i := 0) (ci := 6) (nf := 7) (cz := (RX6, TX6, 7)) (as := [.inl (1 : Int32), .inl (0 : Int32), .inl (2 : Int32), .inl (0 : Int32), .inl (5 : Int32)]) (rest := []) (ctr_X6_passes (xZ X) (1 : Int32) (0 : Int32) (2 : Int32) (0 : Int32) (5 : Int32) m815) (by decide +kernel) rfl rfl wd_v_L_76 rfl (h.room (by first | decide | omega) (by decide)) h.cl (Nat.le_of_ble_eq_true rfl) puI_ok rfl (fun r829 m829 _ => ?_)
                            show Go X (El X) 832 [o0_80, some (.inr (.inr (0, 0))), o2_80, o3_80, some (.inl x4), o5_80, o6_80, o7_80, o8_80, o9_80, o10_80, o11_80, o12_80, o13_80, o14_80, o15_80, o16_80] [.inl r829] m829 _
                            refine go_blk h.1 (is := [.bipush (-2)]) (pc' := 834) (ls' := [o0_80, some (.inr (.inr (0, 0))), o2_80, o3_80, some (.inl x4), o5_80, o6_80, o7_80, o8_80, o9_80, o10_80, o11_80, o12_80, o13_80, o14_80, o15_80, o16_80]) (st' := [.inl (-2 : Int32), .inl r829]) (m' := m829) (by decide +kernel) rfl ?_
                            refine go_icmpne h.1 (off := 87) 921 (by decide +kernel) (by decide) (fun c834 => ?_) (fun c834 => ?_)
                            · refine go_blk h.1 (is := [.iconst 0]) (pc' := 922) (ls' := [o0_80, some (.inr (.inr (0, 0))), o2_80, o3_80, some (.inl x4), o5_80, o6_80, o7_80, o8_80, o9_80, o10_80, o11_80, o12_80, o13_80, o14_80, o15_80, o16_80]) (st' := [.inl (0 : Int32)]) (m' := m829) (by decide +kernel) rfl ?_
                              exact go_law0
                            · refine go_blk h.1 (is := [.aload_n 1, .iconst 1, .iconst 0, .iconst 2, .iconst 0, .bipush 15]) (pc' := 844) (ls' := [o0_80, some (.inr (.inr (0, 0))), o2_80, o3_80, some (.inl x4), o5_80, o6_80, o7_80, o8_80, o9_80, o10_80, o11_80, o12_80, o13_80, o14_80, o15_80, o16_80]) (st' := [.inl (15 : Int32), .inl (0 : Int32), .inl (2 : Int32), .inl (0 : Int32), .inl (1 : Int32), .inr (.inr (0, 0))]) (m' := m829) (by decide +kernel) rfl ?_
                              refine go_callV h.1 (index := 76) (n := 5) (t := 0) (i := 0) (ci := 6) (nf := 7) (cz := (RX6, TX6, 7)) (as := [.inl (1 : Int32), .inl (0 : Int32), .inl (2 : Int32), .inl (0 : Int32), .inl (15 : Int32)]) (rest := []) (ctr_X6_passes (xZ X) (1 : Int32) (0 : Int32) (2 : Int32) (0 : Int32) (15 : Int32) m829) (by decide +kernel) rfl rfl wd_v_L_76 rfl (h.room (by first | decide | omega) (by decide)) h.cl (Nat.le_of_ble_eq_true rfl) puI_ok rfl (fun r844 m844 _ => ?_)
                              show Go X (El X) 847 [o0_80, some (.inr (.inr (0, 0))), o2_80, o3_80, some (.inl x4), o5_80, o6_80, o7_80, o8_80, o9_80, o10_80, o11_80, o12_80, o13_80, o14_80, o15_80, o16_80] [.inl r844] m844 _
                              refine go_blk h.1 (is := [.bipush (-2)]) (pc' := 849) (ls' := [o0_80, some (.inr (.inr (0, 0))), o2_80, o3_80, some (.inl x4), o5_80, o6_80, o7_80, o8_80, o9_80, o10_80, o11_80, o12_80, o13_80, o14_80, o15_80, o16_80]) (st' := [.inl (-2 : Int32), .inl r844]) (m' := m844) (by decide +kernel) rfl ?_
                              refine go_icmpne h.1 (off := 72) 921 (by decide +kernel) (by decide) (fun c849 => ?_) (fun c849 => ?_)
                              · refine go_blk h.1 (is := [.iconst 0]) (pc' := 922) (ls' := [o0_80, some (.inr (.inr (0, 0))), o2_80, o3_80, some (.inl x4), o5_80, o6_80, o7_80, o8_80, o9_80, o10_80, o11_80, o12_80, o13_80, o14_80, o15_80, o16_80]) (st' := [.inl (0 : Int32)]) (m' := m844) (by decide +kernel) rfl ?_
                                exact go_law0
                              · refine go_blk h.1 (is := [.aload_n 1, .iconst 1, .iconst 1, .iconst 2, .iconst 0, .iconst 0]) (pc' := 858) (ls' := [o0_80, some (.inr (.inr (0, 0))), o2_80, o3_80, some (.inl x4), o5_80, o6_80, o7_80, o8_80, o9_80, o10_80, o11_80, o12_80, o13_80, o14_80, o15_80, o16_80]) (st' := [.inl (0 : Int32), .inl (0 : Int32), .inl (2 : Int32), .inl (1 : Int32), .inl (1 : Int32), .inr (.inr (0, 0))]) (m' := m844) (by decide +kernel) rfl ?_
                                refine go_callV h.1 (index := 76) (n := 5) (t := 0) (i := 0) (ci := 6) (nf := 7) (cz := (RX6, TX6, 7)) (as := [.inl (1 : Int32), .inl (1 : Int32), .inl (2 : Int32), .inl (0 : Int32), .inl (0 : Int32)]) (rest := []) (ctr_X6_passes (xZ X) (1 : Int32) (1 : Int32) (2 : Int32) (0 : Int32) (0 : Int32) m844) (by decide +kernel) rfl rfl wd_v_L_76 rfl (h.room (by first | decide | omega) (by decide)) h.cl (Nat.le_of_ble_eq_true rfl) puI_ok rfl (fun r858 m858 _ => ?_)
                                show Go X (El X) 861 [o0_80, some (.inr (.inr (0, 0))), o2_80, o3_80, some (.inl x4), o5_80, o6_80, o7_80, o8_80, o9_80, o10_80, o11_80, o12_80, o13_80, o14_80, o15_80, o16_80] [.inl r858] m858 _
                                refine go_blk h.1 (is := [.bipush (-12)]) (pc' := 863) (ls' := [o0_80, some (.inr (.inr (0, 0))), o2_80, o3_80, some (.inl x4), o5_80, o6_80, o7_80, o8_80, o9_80, o10_80, o11_80, o12_80, o13_80, o14_80, o15_80, o16_80]) (st' := [.inl (-12 : Int32), .inl r858]) (m' := m858) (by decide +kernel) rfl ?_
                                refine go_icmpne h.1 (off := 58) 921 (by decide +kernel) (by decide) (fun c863 => ?_) (fun c863 => ?_)
                                · refine go_blk h.1 (is := [.iconst 0]) (pc' := 922) (ls' := [o0_80, some (.inr (.inr (0, 0))), o2_80, o3_80, some (.inl x4), o5_80, o6_80, o7_80, o8_80, o9_80, o10_80, o11_80, o12_80, o13_80, o14_80, o15_80, o16_80]) (st' := [.inl (0 : Int32)]) (m' := m858) (by decide +kernel) rfl ?_
                                  exact go_law0
                                · refine go_blk h.1 (is := [.aload_n 1, .iconst 2, .iconst 2, .iconst 2, .iconst 0, .iconst 0]) (pc' := 872) (ls' := [o0_80, some (.inr (.inr (0, 0))), o2_80, o3_80, some (.inl x4), o5_80, o6_80, o7_80, o8_80, o9_80, o10_80, o11_80, o12_80, o13_80, o14_80, o15_80, o16_80]) (st' := [.inl (0 : Int32), .inl (0 : Int32), .inl (2 : Int32), .inl (2 : Int32), .inl (2 : Int32), .inr (.inr (0, 0))]) (m' := m858) (by decide +kernel) rfl ?_
                                  refine go_callV h.1 (index := 76) (n := 5) (t := 0) (i := 0) (ci := 6) (nf := 7) (cz := (RX6, TX6, 7)) (as := [.inl (2 : Int32), .inl (2 : Int32), .inl (2 : Int32), .inl (0 : Int32), .inl (0 : Int32)]) (rest := []) (ctr_X6_passes (xZ X) (2 : Int32) (2 : Int32) (2 : Int32) (0 : Int32) (0 : Int32) m858) (by decide +kernel) rfl rfl wd_v_L_76 rfl (h.room (by first | decide | omega) (by decide)) h.cl (Nat.le_of_ble_eq_true rfl) puI_ok rfl (fun r872 m872 _ => ?_)
                                  show Go X (El X) 875 [o0_80, some (.inr (.inr (0, 0))), o2_80, o3_80, some (.inl x4), o5_80, o6_80, o7_80, o8_80, o9_80, o10_80, o11_80, o12_80, o13_80, o14_80, o15_80, o16_80] [.inl r872] m872 _
                                  refine go_blk h.1 (is := [.bipush (-11)]) (pc' := 877) (ls' := [o0_80, some (.inr (.inr (0, 0))), o2_80, o3_80, some (.inl x4), o5_80, o6_80, o7_80, o8_80, o9_80, o10_80, o11_80, o12_80, o13_80, o14_80, o15_80, o16_80]) (st' := [.inl (-11 : Int32), .inl r872]) (m' := m872) (by decide +kernel) rfl ?_
                                  refine go_icmpne h.1 (off := 44) 921 (by decide +kernel) (by decide) (fun c877 => ?_) (fun c877 => ?_)
                                  · refine go_blk h.1 (is := [.iconst 0]) (pc' := 922) (ls' := [o0_80, some (.inr (.inr (0, 0))), o2_80, o3_80, some (.inl x4), o5_80, o6_80, o7_80, o8_80, o9_80, o10_80, o11_80, o12_80, o13_80, o14_80, o15_80, o16_80]) (st' := [.inl (0 : Int32)]) (m' := m872) (by decide +kernel) rfl ?_
                                    exact go_law0
                                  · refine go_blk h.1 (is := [.aload_n 1, .iconst 1, .iconst 0, .iconst 5, .bipush 20, .iconst 0]) (pc' := 887) (ls' := [o0_80, some (.inr (.inr (0, 0))), o2_80, o3_80, some (.inl x4), o5_80, o6_80, o7_80, o8_80, o9_80, o10_80, o11_80, o12_80, o13_80, o14_80, o15_80, o16_80]) (st' := [.inl (0 : Int32), .inl (20 : Int32), .inl (5 : Int32), .inl (0 : Int32), .inl (1 : Int32), .inr (.inr (0, 0))]) (m' := m872) (by decide +kernel) rfl ?_
                                    refine go_callV h.1 (index := 76) (n := 5) (t := 0) (i := 0) (ci := 6) (nf := 7) (cz := (RX6, TX6, 7)) (as := [.inl (1 : Int32), .inl (0 : Int32), .inl (5 : Int32), .inl (20 : Int32), .inl (0 : Int32)]) (rest := []) (ctr_X6_passes (xZ X) (1 : Int32) (0 : Int32) (5 : Int32) (20 : Int32) (0 : Int32) m872) (by decide +kernel) rfl rfl wd_v_L_76 rfl (h.room (by first | decide | omega) (by decide)) h.cl (Nat.le_of_ble_eq_true rfl) puI_ok rfl (fun r887 m887 _ => ?_)
                                    show Go X (El X) 890 [o0_80, some (.inr (.inr (0, 0))), o2_80, o3_80, some (.inl x4), o5_80, o6_80, o7_80, o8_80, o9_80, o10_80, o11_80, o12_80, o13_80, o14_80, o15_80, o16_80] [.inl r887] m887 _
                                    refine go_blk h.1 (is := [.bipush (-13)]) (pc' := 892) (ls' := [o0_80, some (.inr (.inr (0, 0))), o2_80, o3_80, some (.inl x4), o5_80, o6_80, o7_80, o8_80, o9_80, o10_80, o11_80, o12_80, o13_80, o14_80, o15_80, o16_80]) (st' := [.inl (-13 : Int32), .inl r887]) (m' := m887) (by decide +kernel) rfl ?_
                                    refine go_icmpne h.1 (off := 29) 921 (by decide +kernel) (by decide) (fun c892 => ?_) (fun c892 => ?_)
                                    · refine go_blk h.1 (is := [.iconst 0]) (pc' := 922) (ls' := [o0_80, some (.inr (.inr (0, 0))), o2_80, o3_80, some (.inl x4), o5_80, o6_80, o7_80, o8_80, o9_80, o10_80, o11_80, o12_80, o13_80, o14_80, o15_80, o16_80]) (st' := [.inl (0 : Int32)]) (m' := m887) (by decide +kernel) rfl ?_
                                      exact go_law0
                                    · refine go_blk h.1 (is := [.aload_n 1, .iconst 1, .iconst 0, .iconst 2, .iconst 0, .iconst 0]) (pc' := 901) (ls' := [o0_80, some (.inr (.inr (0, 0))), o2_80, o3_80, some (.inl x4), o5_80, o6_80, o7_80, o8_80, o9_80, o10_80, o11_80, o12_80, o13_80, o14_80, o15_80, o16_80]) (st' := [.inl (0 : Int32), .inl (0 : Int32), .inl (2 : Int32), .inl (0 : Int32), .inl (1 : Int32), .inr (.inr (0, 0))]) (m' := m887) (by decide +kernel) rfl ?_
                                      refine go_callV h.1 (index := 76) (n := 5) (t := 0) (i := 0) (ci := 6) (nf := 7) (cz := (RX6, TX6, 7)) (as := [.inl (1 : Int32), .inl (0 : Int32), .inl (2 : Int32), .inl (0 : Int32), .inl (0 : Int32)]) (rest := []) (ctr_X6_passes (xZ X) (1 : Int32) (0 : Int32) (2 : Int32) (0 : Int32) (0 : Int32) m887) (by decide +kernel) rfl rfl wd_v_L_76 rfl (h.room (by first | decide | omega) (by decide)) h.cl (Nat.le_of_ble_eq_true rfl) puI_ok rfl (fun r901 m901 _ => ?_)
                                      show Go X (El X) 904 [o0_80, some (.inr (.inr (0, 0))), o2_80, o3_80, some (.inl x4), o5_80, o6_80, o7_80, o8_80, o9_80, o10_80, o11_80, o12_80, o13_80, o14_80, o15_80, o16_80] [.inl r901] m901 _
                                      refine go_ifne h.1 (off := 17) 921 (by decide +kernel) (by decide) (fun c904 => ?_) (fun c904 => ?_)
                                      · refine go_blk h.1 (is := [.iconst 0]) (pc' := 922) (ls' := [o0_80, some (.inr (.inr (0, 0))), o2_80, o3_80, some (.inl x4), o5_80, o6_80, o7_80, o8_80, o9_80, o10_80, o11_80, o12_80, o13_80, o14_80, o15_80, o16_80]) (st' := [.inl (0 : Int32)]) (m' := m901) (by decide +kernel) rfl ?_
                                        exact go_law0
                                      · refine go_blk h.1 (is := [.aload_n 1, .iconst 1, .iconst 0, .iconst 2, .iconst 0, .iconst 1]) (pc' := 913) (ls' := [o0_80, some (.inr (.inr (0, 0))), o2_80, o3_80, some (.inl x4), o5_80, o6_80, o7_80, o8_80, o9_80, o10_80, o11_80, o12_80, o13_80, o14_80, o15_80, o16_80]) (st' := [.inl (1 : Int32), .inl (0 : Int32), .inl (2 : Int32), .inl (0 : Int32), .inl (1 : Int32), .inr (.inr (0, 0))]) (m' := m901) (by decide +kernel) rfl ?_
                                        refine go_callV h.1 (index := 76) (n := 5) (t := 0) (i := 0) (ci := 6) (nf := 7) (cz := (RX6, TX6, 7)) (as := [.inl (1 : Int32), .inl (0 : Int32), .inl (2 : Int32), .inl (0 : Int32), .inl (1 : Int32)]) (rest := []) (ctr_X6_passes (xZ X) (1 : Int32) (0 : Int32) (2 : Int32) (0 : Int32) (1 : Int32) m901) (by decide +kernel) rfl rfl wd_v_L_76 rfl (h.room (by first | decide | omega) (by decide)) h.cl (Nat.le_of_ble_eq_true rfl) puI_ok rfl (fun r913 m913 _ => ?_)
                                        show Go X (El X) 916 [o0_80, some (.inr (.inr (0, 0))), o2_80, o3_80, some (.inl x4), o5_80, o6_80, o7_80, o8_80, o9_80, o10_80, o11_80, o12_80, o13_80, o14_80, o15_80, o16_80] [.inl r913] m913 _
                                        refine go_blk h.1 (is := [.bipush (-9)]) (pc' := 918) (ls' := [o0_80, some (.inr (.inr (0, 0))), o2_80, o3_80, some (.inl x4), o5_80, o6_80, o7_80, o8_80, o9_80, o10_80, o11_80, o12_80, o13_80, o14_80, o15_80, o16_80]) (st' := [.inl (-9 : Int32), .inl r913]) (m' := m913) (by decide +kernel) rfl ?_
                                        refine go_icmpeq h.1 (off := 5) 923 (by decide +kernel) (by decide) (fun c918 => ?_) (fun c918 => ?_)
                                        · refine go_blk h.1 (is := [.aload_n 1, .iload 4, .iconst 0, .iconst 1, .iconst 0, .iconst 2, .iconst 0]) (pc' := 931) (ls' := [o0_80, some (.inr (.inr (0, 0))), o2_80, o3_80, some (.inl x4), o5_80, o6_80, o7_80, o8_80, o9_80, o10_80, o11_80, o12_80, o13_80, o14_80, o15_80, o16_80]) (st' := [.inl (0 : Int32), .inl (2 : Int32), .inl (0 : Int32), .inl (1 : Int32), .inl (0 : Int32), .inl x4, .inr (.inr (0, 0))]) (m' := m913) (by decide +kernel) rfl ?_
                                          refine go_callV h.1 (index := 82) (n := 6) (t := 0) (i := 0) (ci := 6) (nf := 7) (cz := (RX6, TX6, 7)) (as := [.inl x4, .inl (0 : Int32), .inl (1 : Int32), .inl (0 : Int32), .inl (2 : Int32), .inl (0 : Int32)]) (rest := []) (ctr_X6_owes (xZ X) x4 (0 : Int32) (1 : Int32) (0 : Int32) (2 : Int32) (0 : Int32) m913) (by decide +kernel) rfl rfl wd_v_L_82 rfl (h.room (by first | decide | omega) (by decide)) h.cl (Nat.le_of_ble_eq_true rfl) puI_ok rfl (fun r931 m931 _ => ?_)
                                          show Go X (El X) 934 [o0_80, some (.inr (.inr (0, 0))), o2_80, o3_80, some (.inl x4), o5_80, o6_80, o7_80, o8_80, o9_80, o10_80, o11_80, o12_80, o13_80, o14_80, o15_80, o16_80] [.inl r931] m931 _
                                          refine go_blk h.1 (is := [.iconst (-1)]) (pc' := 935) (ls' := [o0_80, some (.inr (.inr (0, 0))), o2_80, o3_80, some (.inl x4), o5_80, o6_80, o7_80, o8_80, o9_80, o10_80, o11_80, o12_80, o13_80, o14_80, o15_80, o16_80]) (st' := [.inl (-1 : Int32), .inl r931]) (m' := m931) (by decide +kernel) rfl ?_
                                          refine go_icmpne h.1 (off := 131) 1066 (by decide +kernel) (by decide) (fun c935 => ?_) (fun c935 => ?_)
                                          · refine go_blk h.1 (is := [.iconst 0]) (pc' := 1067) (ls' := [o0_80, some (.inr (.inr (0, 0))), o2_80, o3_80, some (.inl x4), o5_80, o6_80, o7_80, o8_80, o9_80, o10_80, o11_80, o12_80, o13_80, o14_80, o15_80, o16_80]) (st' := [.inl (0 : Int32)]) (m' := m931) (by decide +kernel) rfl ?_
                                            exact go_law0
                                          · refine go_blk h.1 (is := [.aload_n 1, .iconst 0, .iload 4, .iconst 1, .iconst 0, .iconst 2, .iconst 0]) (pc' := 946) (ls' := [o0_80, some (.inr (.inr (0, 0))), o2_80, o3_80, some (.inl x4), o5_80, o6_80, o7_80, o8_80, o9_80, o10_80, o11_80, o12_80, o13_80, o14_80, o15_80, o16_80]) (st' := [.inl (0 : Int32), .inl (2 : Int32), .inl (0 : Int32), .inl (1 : Int32), .inl x4, .inl (0 : Int32), .inr (.inr (0, 0))]) (m' := m931) (by decide +kernel) rfl ?_
                                            refine go_callV h.1 (index := 82) (n := 6) (t := 0) (i := 0) (ci := 6) (nf := 7) (cz := (RX6, TX6, 7)) (as := [.inl (0 : Int32), .inl x4, .inl (1 : Int32), .inl (0 : Int32), .inl (2 : Int32), .inl (0 : Int32)]) (rest := []) (ctr_X6_owes (xZ X) (0 : Int32) x4 (1 : Int32) (0 : Int32) (2 : Int32) (0 : Int32) m931) (by decide +kernel) rfl rfl wd_v_L_82 rfl (h.room (by first | decide | omega) (by decide)) h.cl (Nat.le_of_ble_eq_true rfl) puI_ok rfl (fun r946 m946 _ => ?_)
                                            show Go X (El X) 949 [o0_80, some (.inr (.inr (0, 0))), o2_80, o3_80, some (.inl x4), o5_80, o6_80, o7_80, o8_80, o9_80, o10_80, o11_80, o12_80, o13_80, o14_80, o15_80, o16_80] [.inl r946] m946 _
                                            refine go_blk h.1 (is := [.iconst (-1)]) (pc' := 950) (ls' := [o0_80, some (.inr (.inr (0, 0))), o2_80, o3_80, some (.inl x4), o5_80, o6_80, o7_80, o8_80, o9_80, o10_80, o11_80, o12_80, o13_80, o14_80, o15_80, o16_80]) (st' := [.inl (-1 : Int32), .inl r946]) (m' := m946) (by decide +kernel) rfl ?_
                                            refine go_icmpne h.1 (off := 116) 1066 (by decide +kernel) (by decide) (fun c950 => ?_) (fun c950 => ?_)
                                            · refine go_blk h.1 (is := [.iconst 0]) (pc' := 1067) (ls' := [o0_80, some (.inr (.inr (0, 0))), o2_80, o3_80, some (.inl x4), o5_80, o6_80, o7_80, o8_80, o9_80, o10_80, o11_80, o12_80, o13_80, o14_80, o15_80, o16_80]) (st' := [.inl (0 : Int32)]) (m' := m946) (by decide +kernel) rfl ?_
                                              exact go_law0
                                            · refine go_blk h.1 (is := [.aload_n 1, .iconst 0, .iconst 0, .iconst 4, .iconst 0, .iconst 2, .iconst 0]) (pc' := 960) (ls' := [o0_80, some (.inr (.inr (0, 0))), o2_80, o3_80, some (.inl x4), o5_80, o6_80, o7_80, o8_80, o9_80, o10_80, o11_80, o12_80, o13_80, o14_80, o15_80, o16_80]) (st' := [.inl (0 : Int32), .inl (2 : Int32), .inl (0 : Int32), .inl (4 : Int32), .inl (0 : Int32), .inl (0 : Int32), .inr (.inr (0, 0))]) (m' := m946) (by decide +kernel) rfl ?_
                                              refine go_callV h.1 (index := 82) (n := 6) (t := 0) (i := 0) (ci := 6) (nf := 7) (cz := (RX6, TX6, 7)) (as := [.inl (0 : Int32), .inl (0 : Int32), .inl (4 : Int32), .inl (0 : Int32), .inl (2 : Int32), .inl (0 : Int32)]) (rest := []) (ctr_X6_owes (xZ X) (0 : Int32) (0 : Int32) (4 : Int32) (0 : Int32) (2 : Int32) (0 : Int32) m946) (by decide +kernel) rfl rfl wd_v_L_82 rfl (h.room (by first | decide | omega) (by decide)) h.cl (Nat.le_of_ble_eq_true rfl) puI_ok rfl (fun r960 m960 _ => ?_)
                                              show Go X (El X) 963 [o0_80, some (.inr (.inr (0, 0))), o2_80, o3_80, some (.inl x4), o5_80, o6_80, o7_80, o8_80, o9_80, o10_80, o11_80, o12_80, o13_80, o14_80, o15_80, o16_80] [.inl r960] m960 _
                                              refine go_blk h.1 (is := [.iconst (-1)]) (pc' := 964) (ls' := [o0_80, some (.inr (.inr (0, 0))), o2_80, o3_80, some (.inl x4), o5_80, o6_80, o7_80, o8_80, o9_80, o10_80, o11_80, o12_80, o13_80, o14_80, o15_80, o16_80]) (st' := [.inl (-1 : Int32), .inl r960]) (m' := m960) (by decide +kernel) rfl ?_
                                              refine go_icmpne h.1 (off := 102) 1066 (by decide +kernel) (by decide) (fun c964 => ?_) (fun c964 => ?_)
                                              · refine go_blk h.1 (is := [.iconst 0]) (pc' := 1067) (ls' := [o0_80, some (.inr (.inr (0, 0))), o2_80, o3_80, some (.inl x4), o5_80, o6_80, o7_80, o8_80, o9_80, o10_80, o11_80, o12_80, o13_80, o14_80, o15_80, o16_80]) (st' := [.inl (0 : Int32)]) (m' := m960) (by decide +kernel) rfl ?_
                                                exact go_law0
                                              · refine go_blk h.1 (is := [.aload_n 1, .iconst 0, .iconst 0, .iconst 1, .iconst 3, .iconst 2, .iconst 0]) (pc' := 974) (ls' := [o0_80, some (.inr (.inr (0, 0))), o2_80, o3_80, some (.inl x4), o5_80, o6_80, o7_80, o8_80, o9_80, o10_80, o11_80, o12_80, o13_80, o14_80, o15_80, o16_80]) (st' := [.inl (0 : Int32), .inl (2 : Int32), .inl (3 : Int32), .inl (1 : Int32), .inl (0 : Int32), .inl (0 : Int32), .inr (.inr (0, 0))]) (m' := m960) (by decide +kernel) rfl ?_
                                                refine go_callV h.1 (index := 82) (n := 6) (t := 0) (i := 0) (ci := 6) (nf := 7) (cz := (RX6, TX6, 7)) (as := [.inl (0 : Int32), .inl (0 : Int32), .inl (1 : Int32), .inl (3 : Int32), .inl (2 : Int32), .inl (0 : Int32)]) (rest := []) (ctr_X6_owes (xZ X) (0 : Int32) (0 : Int32) (1 : Int32) (3 : Int32) (2 : Int32) (0 : Int32) m960) (by decide +kernel) rfl rfl wd_v_L_82 rfl (h.room (by first | decide | omega) (by decide)) h.cl (Nat.le_of_ble_eq_true rfl) puI_ok rfl (fun r974 m974 _ => ?_)
                                                show Go X (El X) 977 [o0_80, some (.inr (.inr (0, 0))), o2_80, o3_80, some (.inl x4), o5_80, o6_80, o7_80, o8_80, o9_80, o10_80, o11_80, o12_80, o13_80, o14_80, o15_80, o16_80] [.inl r974] m974 _
                                                refine go_blk h.1 (is := [.bipush (-2)]) (pc' := 979) (ls' := [o0_80, some (.inr (.inr (0, 0))), o2_80, o3_80, some (.inl x4), o5_80, o6_80, o7_80, o8_80, o9_80, o10_80, o11_80, o12_80, o13_80, o14_80, o15_80, o16_80]) (st' := [.inl (-2 : Int32), .inl r974]) (m' := m974) (by decide +kernel) rfl ?_
                                                refine go_icmpne h.1 (off := 87) 1066 (by decide +kernel) (by decide) (fun c979 => ?_) (fun c979 => ?_)
                                                · refine go_blk h.1 (is := [.iconst 0]) (pc' := 1067) (ls' := [o0_80, some (.inr (.inr (0, 0))), o2_80, o3_80, some (.inl x4), o5_80, o6_80, o7_80, o8_80, o9_80, o10_80, o11_80, o12_80, o13_80, o14_80, o15_80, o16_80]) (st' := [.inl (0 : Int32)]) (m' := m974) (by decide +kernel) rfl ?_
                                                  exact go_law0
                                                · refine go_blk h.1 (is := [.aload_n 1, .iload 4, .iconst 1, .iconst 0, .iconst 2, .iconst 0]) (pc' := 989) (ls' := [o0_80, some (.inr (.inr (0, 0))), o2_80, o3_80, some (.inl x4), o5_80, o6_80, o7_80, o8_80, o9_80, o10_80, o11_80, o12_80, o13_80, o14_80, o15_80, o16_80]) (st' := [.inl (0 : Int32), .inl (2 : Int32), .inl (0 : Int32), .inl (1 : Int32), .inl x4, .inr (.inr (0, 0))]) (m' := m974) (by decide +kernel) rfl ?_
                                                  refine go_callV h.1 (index := 80) (n := 5) (t := 0) (i := 0) (ci := 6) (nf := 7) (cz := (RX6, TX6, 7)) (as := [.inl x4, .inl (1 : Int32), .inl (0 : Int32), .inl (2 : Int32), .inl (0 : Int32)]) (rest := []) (ctr_X6_toll (xZ X) x4 (1 : Int32) (0 : Int32) (2 : Int32) (0 : Int32) m974) (by decide +kernel) rfl rfl wd_v_L_80 rfl (h.room (by first | decide | omega) (by decide)) h.cl (Nat.le_of_ble_eq_true rfl) puI_ok rfl (fun r989 m989 _ => ?_)
                                                  show Go X (El X) 992 [o0_80, some (.inr (.inr (0, 0))), o2_80, o3_80, some (.inl x4), o5_80, o6_80, o7_80, o8_80, o9_80, o10_80, o11_80, o12_80, o13_80, o14_80, o15_80, o16_80] [.inl r989] m989 _
                                                  refine go_blk h.1 (is := [.iconst (-1)]) (pc' := 993) (ls' := [o0_80, some (.inr (.inr (0, 0))), o2_80, o3_80, some (.inl x4), o5_80, o6_80, o7_80, o8_80, o9_80, o10_80, o11_80, o12_80, o13_80, o14_80, o15_80, o16_80]) (st' := [.inl (-1 : Int32), .inl r989]) (m' := m989) (by decide +kernel) rfl ?_
                                                  refine go_icmpne h.1 (off := 73) 1066 (by decide +kernel) (by decide) (fun c993 => ?_) (fun c993 => ?_)
                                                  · refine go_blk h.1 (is := [.iconst 0]) (pc' := 1067) (ls' := [o0_80, some (.inr (.inr (0, 0))), o2_80, o3_80, some (.inl x4), o5_80, o6_80, o7_80, o8_80, o9_80, o10_80, o11_80, o12_80, o13_80, o14_80, o15_80, o16_80]) (st' := [.inl (0 : Int32)]) (m' := m989) (by decide +kernel) rfl ?_
                                                    exact go_law0
                                                  · refine go_blk h.1 (is := [.aload_n 1, .iconst 0, .iconst 1, .iconst 1, .iconst 2, .iconst 0]) (pc' := 1002) (ls' := [o0_80, some (.inr (.inr (0, 0))), o2_80, o3_80, some (.inl x4), o5_80, o6_80, o7_80, o8_80, o9_80, o10_80, o11_80, o12_80, o13_80, o14_80, o15_80, o16_80]) (st' := [.inl (0 : Int32), .inl (2 : Int32), .inl (1 : Int32), .inl (1 : Int32), .inl (0 : Int32), .inr (.inr (0, 0))]) (m' := m989) (by decide +kernel) rfl ?_
                                                    refine go_callV h.1 (index := 80) (n := 5) (t := 0) (i := 0) (ci := 6) (nf := 7) (cz := (RX6, TX6, 7)) (as := [.inl (0 : Int32), .inl (1 : Int32), .inl (1 : Int32), .inl (2 : Int32), .inl (0 : Int32)]) (rest := []) (ctr_X6_toll (xZ X) (0 : Int32) (1 : Int32) (1 : Int32) (2 : Int32) (0 : Int32) m989) (by decide +kernel) rfl rfl wd_v_L_80 rfl (h.room (by first | decide | omega) (by decide)) h.cl (Nat.le_of_ble_eq_true rfl) puI_ok rfl (fun r1002 m1002 _ => ?_)
                                                    show Go X (El X) 1005 [o0_80, some (.inr (.inr (0, 0))), o2_80, o3_80, some (.inl x4), o5_80, o6_80, o7_80, o8_80, o9_80, o10_80, o11_80, o12_80, o13_80, o14_80, o15_80, o16_80] [.inl r1002] m1002 _
                                                    refine go_blk h.1 (is := [.bipush (-12)]) (pc' := 1007) (ls' := [o0_80, some (.inr (.inr (0, 0))), o2_80, o3_80, some (.inl x4), o5_80, o6_80, o7_80, o8_80, o9_80, o10_80, o11_80, o12_80, o13_80, o14_80, o15_80, o16_80]) (st' := [.inl (-12 : Int32), .inl r1002]) (m' := m1002) (by decide +kernel) rfl ?_
                                                    refine go_icmpne h.1 (off := 59) 1066 (by decide +kernel) (by decide) (fun c1007 => ?_) (fun c1007 => ?_)
                                                    · refine go_blk h.1 (is := [.iconst 0]) (pc' := 1067) (ls' := [o0_80, some (.inr (.inr (0, 0))), o2_80, o3_80, some (.inl x4), o5_80, o6_80, o7_80, o8_80, o9_80, o10_80, o11_80, o12_80, o13_80, o14_80, o15_80, o16_80]) (st' := [.inl (0 : Int32)]) (m' := m1002) (by decide +kernel) rfl ?_
                                                      exact go_law0
                                                    · refine go_blk h.1 (is := [.aload_n 1, .iconst 0, .iconst 1, .iconst 0, .iconst 2, .bipush 21]) (pc' := 1017) (ls' := [o0_80, some (.inr (.inr (0, 0))), o2_80, o3_80, some (.inl x4), o5_80, o6_80, o7_80, o8_80, o9_80, o10_80, o11_80, o12_80, o13_80, o14_80, o15_80, o16_80]) (st' := [.inl (21 : Int32), .inl (2 : Int32), .inl (0 : Int32), .inl (1 : Int32), .inl (0 : Int32), .inr (.inr (0, 0))]) (m' := m1002) (by decide +kernel) rfl ?_
                                                      refine go_callV h.1 (index := 80) (n := 5) (t := 0) (i := 0) (ci := 6) (nf := 7) (cz := (RX6, TX6, 7)) (as := [.inl (0 : Int32), .inl (1 : Int32), .inl (0 : Int32), .inl (2 : Int32), .inl (21 : Int32)]) (rest := []) (ctr_X6_toll (xZ X) (0 : Int32) (1 : Int32) (0 : Int32) (2 : Int32) (21 : Int32) m1002) (by decide +kernel) rfl rfl wd_v_L_80 rfl (h.room (by first | decide | omega) (by decide)) h.cl (Nat.le_of_ble_eq_true rfl) puI_ok rfl (fun r1017 m1017 _ => ?_)
                                                      show Go X (El X) 1020 [o0_80, some (.inr (.inr (0, 0))), o2_80, o3_80, some (.inl x4), o5_80, o6_80, o7_80, o8_80, o9_80, o10_80, o11_80, o12_80, o13_80, o14_80, o15_80, o16_80] [.inl r1017] m1017 _
                                                      refine go_blk h.1 (is := [.bipush (-2)]) (pc' := 1022) (ls' := [o0_80, some (.inr (.inr (0, 0))), o2_80, o3_80, some (.inl x4), o5_80, o6_80, o7_80, o8_80, o9_80, o10_80, o11_80, o12_80, o13_80, o14_80, o15_80, o16_80]) (st' := [.inl (-2 : Int32), .inl r1017]) (m' := m1017) (by decide +kernel) rfl ?_
                                                      refine go_icmpne h.1 (off := 44) 1066 (by decide +kernel) (by decide) (fun c1022 => ?_) (fun c1022 => ?_)
                                                      · refine go_blk h.1 (is := [.iconst 0]) (pc' := 1067) (ls' := [o0_80, some (.inr (.inr (0, 0))), o2_80, o3_80, some (.inl x4), o5_80, o6_80, o7_80, o8_80, o9_80, o10_80, o11_80, o12_80, o13_80, o14_80, o15_80, o16_80]) (st' := [.inl (0 : Int32)]) (m' := m1017) (by decide +kernel) rfl ?_
                                                        exact go_law0
                                                      · refine go_blk h.1 (is := [.aload_n 1, .iload 4, .iconst 1, .iconst 0, .iconst 2, .iconst 0]) (pc' := 1032) (ls' := [o0_80, some (.inr (.inr (0, 0))), o2_80, o3_80, some (.inl x4), o5_80, o6_80, o7_80, o8_80, o9_80, o10_80, o11_80, o12_80, o13_80, o14_80, o15_80, o16_80]) (st' := [.inl (0 : Int32), .inl (2 : Int32), .inl (0 : Int32), .inl (1 : Int32), .inl x4, .inr (.inr (0, 0))]) (m' := m1017) (by decide +kernel) rfl ?_
                                                        refine go_callV h.1 (index := 86) (n := 5) (t := 0) (i := 0) (ci := 6) (nf := 7) (cz := (RX6, TX6, 7)) (as := [.inl x4, .inl (1 : Int32), .inl (0 : Int32), .inl (2 : Int32), .inl (0 : Int32)]) (rest := []) (ctr_X6_wants (xZ X) x4 (1 : Int32) (0 : Int32) (2 : Int32) (0 : Int32) m1017) (by decide +kernel) rfl rfl wd_v_L_86 rfl (h.room (by first | decide | omega) (by decide)) h.cl (Nat.le_of_ble_eq_true rfl) puI_ok rfl (fun r1032 m1032 _ => ?_)
                                                        show Go X (El X) 1035 [o0_80, some (.inr (.inr (0, 0))), o2_80, o3_80, some (.inl x4), o5_80, o6_80, o7_80, o8_80, o9_80, o10_80, o11_80, o12_80, o13_80, o14_80, o15_80, o16_80] [.inl r1032] m1032 _
                                                        refine go_blk h.1 (is := [.iconst (-1)]) (pc' := 1036) (ls' := [o0_80, some (.inr (.inr (0, 0))), o2_80, o3_80, some (.inl x4), o5_80, o6_80, o7_80, o8_80, o9_80, o10_80, o11_80, o12_80, o13_80, o14_80, o15_80, o16_80]) (st' := [.inl (-1 : Int32), .inl r1032]) (m' := m1032) (by decide +kernel) rfl ?_
                                                        refine go_icmpne h.1 (off := 30) 1066 (by decide +kernel) (by decide) (fun c1036 => ?_) (fun c1036 => ?_)
                                                        · refine go_blk h.1 (is := [.iconst 0]) (pc' := 1067) (ls' := [o0_80, some (.inr (.inr (0, 0))), o2_80, o3_80, some (.inl x4), o5_80, o6_80, o7_80, o8_80, o9_80, o10_80, o11_80, o12_80, o13_80, o14_80, o15_80, o16_80]) (st' := [.inl (0 : Int32)]) (m' := m1032) (by decide +kernel) rfl ?_
                                                          exact go_law0
                                                        · refine go_blk h.1 (is := [.aload_n 1, .iconst 0, .iconst 1, .iconst 0, .iconst 2, .iconst 0]) (pc' := 1045) (ls' := [o0_80, some (.inr (.inr (0, 0))), o2_80, o3_80, some (.inl x4), o5_80, o6_80, o7_80, o8_80, o9_80, o10_80, o11_80, o12_80, o13_80, o14_80, o15_80, o16_80]) (st' := [.inl (0 : Int32), .inl (2 : Int32), .inl (0 : Int32), .inl (1 : Int32), .inl (0 : Int32), .inr (.inr (0, 0))]) (m' := m1032) (by decide +kernel) rfl ?_
                                                          refine go_callV h.1 (index := 86) (n := 5) (t := 0) (i := 0) (ci := 6) (nf := 7) (cz := (RX6, TX6, 7)) (as := [.inl (0 : Int32), .inl (1 : Int32), .inl (0 : Int32), .inl (2 : Int32), .inl (0 : Int32)]) (rest := []) (ctr_X6_wants (xZ X) (0 : Int32) (1 : Int32) (0 : Int32) (2 : Int32) (0 : Int32) m1032) (by decide +kernel) rfl rfl wd_v_L_86 rfl (h.room (by first | decide | omega) (by decide)) h.cl (Nat.le_of_ble_eq_true rfl) puI_ok rfl (fun r1045 m1045 _ => ?_)
                                                          show Go X (El X) 1048 [o0_80, some (.inr (.inr (0, 0))), o2_80, o3_80, some (.inl x4), o5_80, o6_80, o7_80, o8_80, o9_80, o10_80, o11_80, o12_80, o13_80, o14_80, o15_80, o16_80] [.inl r1045] m1045 _
                                                          refine go_ifne h.1 (off := 18) 1066 (by decide +kernel) (by decide) (fun c1048 => ?_) (fun c1048 => ?_)
                                                          · refine go_blk h.1 (is := [.iconst 0]) (pc' := 1067) (ls' := [o0_80, some (.inr (.inr (0, 0))), o2_80, o3_80, some (.inl x4), o5_80, o6_80, o7_80, o8_80, o9_80, o10_80, o11_80, o12_80, o13_80, o14_80, o15_80, o16_80]) (st' := [.inl (0 : Int32)]) (m' := m1045) (by decide +kernel) rfl ?_
                                                            exact go_law0
                                                          · refine go_blk h.1 (is := [.aload_n 1, .iconst 0, .iconst 1, .iconst 0, .iconst 5, .bipush 20]) (pc' := 1058) (ls' := [o0_80, some (.inr (.inr (0, 0))), o2_80, o3_80, some (.inl x4), o5_80, o6_80, o7_80, o8_80, o9_80, o10_80, o11_80, o12_80, o13_80, o14_80, o15_80, o16_80]) (st' := [.inl (20 : Int32), .inl (5 : Int32), .inl (0 : Int32), .inl (1 : Int32), .inl (0 : Int32), .inr (.inr (0, 0))]) (m' := m1045) (by decide +kernel) rfl ?_
                                                            refine go_callV h.1 (index := 86) (n := 5) (t := 0) (i := 0) (ci := 6) (nf := 7) (cz := (RX6, TX6, 7)) (as := [.inl (0 : Int32), .inl (1 : Int32), .inl (0 : Int32), .inl (5 : Int32), .inl (20 : Int32)]) (rest := []) (ctr_X6_wants (xZ X) (0 : Int32) (1 : Int32) (0 : Int32) (5 : Int32) (20 : Int32) m1045) (by decide +kernel) rfl rfl wd_v_L_86 rfl (h.room (by first | decide | omega) (by decide)) h.cl (Nat.le_of_ble_eq_true rfl) puI_ok rfl (fun r1058 m1058 _ => ?_)
                                                            show Go X (El X) 1061 [o0_80, some (.inr (.inr (0, 0))), o2_80, o3_80, some (.inl x4), o5_80, o6_80, o7_80, o8_80, o9_80, o10_80, o11_80, o12_80, o13_80, o14_80, o15_80, o16_80] [.inl r1058] m1058 _
                                                            refine go_blk h.1 (is := [.bipush (-13)]) (pc' := 1063) (ls' := [o0_80, some (.inr (.inr (0, 0))), o2_80, o3_80, some (.inl x4), o5_80, o6_80, o7_80, o8_80, o9_80, o10_80, o11_80, o12_80, o13_80, o14_80, o15_80, o16_80]) (st' := [.inl (-13 : Int32), .inl r1058]) (m' := m1058) (by decide +kernel) rfl ?_
                                                            refine go_icmpeq h.1 (off := 5) 1068 (by decide +kernel) (by decide) (fun c1063 => ?_) (fun c1063 => ?_)
                                                            · refine go_blk h.1 (is := [.aload_n 1, .iconst 1, .iconst 2, .iload 4]) (pc' := 1073) (ls' := [o0_80, some (.inr (.inr (0, 0))), o2_80, o3_80, some (.inl x4), o5_80, o6_80, o7_80, o8_80, o9_80, o10_80, o11_80, o12_80, o13_80, o14_80, o15_80, o16_80]) (st' := [.inl x4, .inl (2 : Int32), .inl (1 : Int32), .inr (.inr (0, 0))]) (m' := m1058) (by decide +kernel) rfl ?_
                                                              refine go_callV h.1 (index := 25) (n := 3) (t := 0) (i := 0) (ci := 6) (nf := 7) (cz := (RX6, TX6, 7)) (as := [.inl (1 : Int32), .inl (2 : Int32), .inl x4]) (rest := []) (ctr_X6_put (xZ X) (1 : Int32) (2 : Int32) x4 m1058) (by decide +kernel) rfl rfl wd_v_L_25 rfl (h.room (by first | decide | omega) (by decide)) h.cl (Nat.le_of_ble_eq_true rfl) puI_ok rfl (fun r1073 m1073 _ => ?_)
                                                              show Go X (El X) 1076 [o0_80, some (.inr (.inr (0, 0))), o2_80, o3_80, some (.inl x4), o5_80, o6_80, o7_80, o8_80, o9_80, o10_80, o11_80, o12_80, o13_80, o14_80, o15_80, o16_80] [.inl r1073] m1073 _
                                                              refine go_blk h.1 (is := [.iconst 1]) (pc' := 1077) (ls' := [o0_80, some (.inr (.inr (0, 0))), o2_80, o3_80, some (.inl x4), o5_80, o6_80, o7_80, o8_80, o9_80, o10_80, o11_80, o12_80, o13_80, o14_80, o15_80, o16_80]) (st' := [.inl (1 : Int32), .inl r1073]) (m' := m1073) (by decide +kernel) rfl ?_
                                                              refine go_icmpne h.1 (off := 96) 1173 (by decide +kernel) (by decide) (fun c1077 => ?_) (fun c1077 => ?_)
                                                              · refine go_blk h.1 (is := [.iconst 0]) (pc' := 1174) (ls' := [o0_80, some (.inr (.inr (0, 0))), o2_80, o3_80, some (.inl x4), o5_80, o6_80, o7_80, o8_80, o9_80, o10_80, o11_80, o12_80, o13_80, o14_80, o15_80, o16_80]) (st' := [.inl (0 : Int32)]) (m' := m1073) (by decide +kernel) rfl ?_
                                                                exact go_law0
                                                              · refine go_blk h.1 (is := [.aload_n 1, .iconst 1, .iconst 0, .iconst 2, .iconst 1, .iconst 0]) (pc' := 1086) (ls' := [o0_80, some (.inr (.inr (0, 0))), o2_80, o3_80, some (.inl x4), o5_80, o6_80, o7_80, o8_80, o9_80, o10_80, o11_80, o12_80, o13_80, o14_80, o15_80, o16_80]) (st' := [.inl (0 : Int32), .inl (1 : Int32), .inl (2 : Int32), .inl (0 : Int32), .inl (1 : Int32), .inr (.inr (0, 0))]) (m' := m1073) (by decide +kernel) rfl ?_
                                                                refine go_callV h.1 (index := 76) (n := 5) (t := 0) (i := 0) (ci := 6) (nf := 7) (cz := (RX6, TX6, 7)) (as := [.inl (1 : Int32), .inl (0 : Int32), .inl (2 : Int32), .inl (1 : Int32), .inl (0 : Int32)]) (rest := []) (ctr_X6_passes (xZ X) (1 : Int32) (0 : Int32) (2 : Int32) (1 : Int32) (0 : Int32) m1073) (by decide +kernel) rfl rfl wd_v_L_76 rfl (h.room (by first | decide | omega) (by decide)) h.cl (Nat.le_of_ble_eq_true rfl) puI_ok rfl (fun r1086 m1086 _ => ?_)
                                                                show Go X (El X) 1089 [o0_80, some (.inr (.inr (0, 0))), o2_80, o3_80, some (.inl x4), o5_80, o6_80, o7_80, o8_80, o9_80, o10_80, o11_80, o12_80, o13_80, o14_80, o15_80, o16_80] [.inl r1086] m1086 _
                                                                refine go_blk h.1 (is := [.iconst (-1)]) (pc' := 1090) (ls' := [o0_80, some (.inr (.inr (0, 0))), o2_80, o3_80, some (.inl x4), o5_80, o6_80, o7_80, o8_80, o9_80, o10_80, o11_80, o12_80, o13_80, o14_80, o15_80, o16_80]) (st' := [.inl (-1 : Int32), .inl r1086]) (m' := m1086) (by decide +kernel) rfl ?_
                                                                refine go_icmpne h.1 (off := 83) 1173 (by decide +kernel) (by decide) (fun c1090 => ?_) (fun c1090 => ?_)
                                                                · refine go_blk h.1 (is := [.iconst 0]) (pc' := 1174) (ls' := [o0_80, some (.inr (.inr (0, 0))), o2_80, o3_80, some (.inl x4), o5_80, o6_80, o7_80, o8_80, o9_80, o10_80, o11_80, o12_80, o13_80, o14_80, o15_80, o16_80]) (st' := [.inl (0 : Int32)]) (m' := m1086) (by decide +kernel) rfl ?_
                                                                  exact go_law0
                                                                · refine go_blk h.1 (is := [.aload_n 1, .iconst 1, .iconst 2, .iconst 0]) (pc' := 1097) (ls' := [o0_80, some (.inr (.inr (0, 0))), o2_80, o3_80, some (.inl x4), o5_80, o6_80, o7_80, o8_80, o9_80, o10_80, o11_80, o12_80, o13_80, o14_80, o15_80, o16_80]) (st' := [.inl (0 : Int32), .inl (2 : Int32), .inl (1 : Int32), .inr (.inr (0, 0))]) (m' := m1086) (by decide +kernel) rfl ?_
                                                                  refine go_callV h.1 (index := 25) (n := 3) (t := 0) (i := 0) (ci := 6) (nf := 7) (cz := (RX6, TX6, 7)) (as := [.inl (1 : Int32), .inl (2 : Int32), .inl (0 : Int32)]) (rest := []) (ctr_X6_put (xZ X) (1 : Int32) (2 : Int32) (0 : Int32) m1086) (by decide +kernel) rfl rfl wd_v_L_25 rfl (h.room (by first | decide | omega) (by decide)) h.cl (Nat.le_of_ble_eq_true rfl) puI_ok rfl (fun r1097 m1097 _ => ?_)
                                                                  show Go X (El X) 1100 [o0_80, some (.inr (.inr (0, 0))), o2_80, o3_80, some (.inl x4), o5_80, o6_80, o7_80, o8_80, o9_80, o10_80, o11_80, o12_80, o13_80, o14_80, o15_80, o16_80] [.inl r1097] m1097 _
                                                                  refine go_blk h.1 (is := [.iconst 1]) (pc' := 1101) (ls' := [o0_80, some (.inr (.inr (0, 0))), o2_80, o3_80, some (.inl x4), o5_80, o6_80, o7_80, o8_80, o9_80, o10_80, o11_80, o12_80, o13_80, o14_80, o15_80, o16_80]) (st' := [.inl (1 : Int32), .inl r1097]) (m' := m1097) (by decide +kernel) rfl ?_
                                                                  refine go_icmpne h.1 (off := 72) 1173 (by decide +kernel) (by decide) (fun c1101 => ?_) (fun c1101 => ?_)
                                                                  · refine go_blk h.1 (is := [.iconst 0]) (pc' := 1174) (ls' := [o0_80, some (.inr (.inr (0, 0))), o2_80, o3_80, some (.inl x4), o5_80, o6_80, o7_80, o8_80, o9_80, o10_80, o11_80, o12_80, o13_80, o14_80, o15_80, o16_80]) (st' := [.inl (0 : Int32)]) (m' := m1097) (by decide +kernel) rfl ?_
                                                                    exact go_law0
                                                                  · refine go_blk h.1 (is := [.aload_n 1, .iconst 1, .iconst 3, .iconst 4]) (pc' := 1108) (ls' := [o0_80, some (.inr (.inr (0, 0))), o2_80, o3_80, some (.inl x4), o5_80, o6_80, o7_80, o8_80, o9_80, o10_80, o11_80, o12_80, o13_80, o14_80, o15_80, o16_80]) (st' := [.inl (4 : Int32), .inl (3 : Int32), .inl (1 : Int32), .inr (.inr (0, 0))]) (m' := m1097) (by decide +kernel) rfl ?_
                                                                    refine go_callV h.1 (index := 25) (n := 3) (t := 0) (i := 0) (ci := 6) (nf := 7) (cz := (RX6, TX6, 7)) (as := [.inl (1 : Int32), .inl (3 : Int32), .inl (4 : Int32)]) (rest := []) (ctr_X6_put (xZ X) (1 : Int32) (3 : Int32) (4 : Int32) m1097) (by decide +kernel) rfl rfl wd_v_L_25 rfl (h.room (by first | decide | omega) (by decide)) h.cl (Nat.le_of_ble_eq_true rfl) puI_ok rfl (fun r1108 m1108 _ => ?_)
                                                                    show Go X (El X) 1111 [o0_80, some (.inr (.inr (0, 0))), o2_80, o3_80, some (.inl x4), o5_80, o6_80, o7_80, o8_80, o9_80, o10_80, o11_80, o12_80, o13_80, o14_80, o15_80, o16_80] [.inl r1108] m1108 _
                                                                    refine go_blk h.1 (is := [.iconst 1]) (pc' := 1112) (ls' := [o0_80, some (.inr (.inr (0, 0))), o2_80, o3_80, some (.inl x4), o5_80, o6_80, o7_80, o8_80, o9_80, o10_80, o11_80, o12_80, o13_80, o14_80, o15_80, o16_80]) (st' := [.inl (1 : Int32), .inl r1108]) (m' := m1108) (by decide +kernel) rfl ?_
                                                                    refine go_icmpne h.1 (off := 61) 1173 (by decide +kernel) (by decide) (fun c1112 => ?_) (fun c1112 => ?_)
                                                                    · refine go_blk h.1 (is := [.iconst 0]) (pc' := 1174) (ls' := [o0_80, some (.inr (.inr (0, 0))), o2_80, o3_80, some (.inl x4), o5_80, o6_80, o7_80, o8_80, o9_80, o10_80, o11_80, o12_80, o13_80, o14_80, o15_80, o16_80]) (st' := [.inl (0 : Int32)]) (m' := m1108) (by decide +kernel) rfl ?_
                                                                      exact go_law0
                                                                    · refine go_blk h.1 (is := [.aload_n 1, .iconst 1, .iconst 0, .iconst 2, .iconst 1, .iconst 0]) (pc' := 1121) (ls' := [o0_80, some (.inr (.inr (0, 0))), o2_80, o3_80, some (.inl x4), o5_80, o6_80, o7_80, o8_80, o9_80, o10_80, o11_80, o12_80, o13_80, o14_80, o15_80, o16_80]) (st' := [.inl (0 : Int32), .inl (1 : Int32), .inl (2 : Int32), .inl (0 : Int32), .inl (1 : Int32), .inr (.inr (0, 0))]) (m' := m1108) (by decide +kernel) rfl ?_
                                                                      refine go_callV h.1 (index := 76) (n := 5) (t := 0) (i := 0) (ci := 6) (nf := 7) (cz := (RX6, TX6, 7)) (as := [.inl (1 : Int32), .inl (0 : Int32), .inl (2 : Int32), .inl (1 : Int32), .inl (0 : Int32)]) (rest := []) (ctr_X6_passes (xZ X) (1 : Int32) (0 : Int32) (2 : Int32) (1 : Int32) (0 : Int32) m1108) (by decide +kernel) rfl rfl wd_v_L_76 rfl (h.room (by first | decide | omega) (by decide)) h.cl (Nat.le_of_ble_eq_true rfl) puI_ok rfl (fun r1121 m1121 _ => ?_)
                                                                      show Go X (El X) 1124 [o0_80, some (.inr (.inr (0, 0))), o2_80, o3_80, some (.inl x4), o5_80, o6_80, o7_80, o8_80, o9_80, o10_80, o11_80, o12_80, o13_80, o14_80, o15_80, o16_80] [.inl r1121] m1121 _
                                                                      refine go_blk h.1 (is := [.bipush (-2)]) (pc' := 1126) (ls' := [o0_80, some (.inr (.inr (0, 0))), o2_80, o3_80, some (.inl x4), o5_80, o6_80, o7_80, o8_80, o9_80, o10_80, o11_80, o12_80, o13_80, o14_80, o15_80, o16_80]) (st' := [.inl (-2 : Int32), .inl r1121]) (m' := m1121) (by decide +kernel) rfl ?_
                                                                      refine go_icmpne h.1 (off := 47) 1173 (by decide +kernel) (by decide) (fun c1126 => ?_) (fun c1126 => ?_)
                                                                      · refine go_blk h.1 (is := [.iconst 0]) (pc' := 1174) (ls' := [o0_80, some (.inr (.inr (0, 0))), o2_80, o3_80, some (.inl x4), o5_80, o6_80, o7_80, o8_80, o9_80, o10_80, o11_80, o12_80, o13_80, o14_80, o15_80, o16_80]) (st' := [.inl (0 : Int32)]) (m' := m1121) (by decide +kernel) rfl ?_
                                                                        exact go_law0
                                                                      · refine go_blk h.1 (is := [.aload_n 1, .iconst 0, .iconst 1, .iconst 0, .iconst 2, .iconst 1]) (pc' := 1135) (ls' := [o0_80, some (.inr (.inr (0, 0))), o2_80, o3_80, some (.inl x4), o5_80, o6_80, o7_80, o8_80, o9_80, o10_80, o11_80, o12_80, o13_80, o14_80, o15_80, o16_80]) (st' := [.inl (1 : Int32), .inl (2 : Int32), .inl (0 : Int32), .inl (1 : Int32), .inl (0 : Int32), .inr (.inr (0, 0))]) (m' := m1121) (by decide +kernel) rfl ?_
                                                                        refine go_callV h.1 (index := 80) (n := 5) (t := 0) (i := 0) (ci := 6) (nf := 7) (cz := (RX6, TX6, 7)) (as := [.inl (0 : Int32), .inl (1 : Int32), .inl (0 : Int32), .inl (2 : Int32), .inl (1 : Int32)]) (rest := []) (ctr_X6_toll (xZ X) (0 : Int32) (1 : Int32) (0 : Int32) (2 : Int32) (1 : Int32) m1121) (by decide +kernel) rfl rfl wd_v_L_80 rfl (h.room (by first | decide | omega) (by decide)) h.cl (Nat.le_of_ble_eq_true rfl) puI_ok rfl (fun r1135 m1135 _ => ?_)
                                                                        show Go X (El X) 1138 [o0_80, some (.inr (.inr (0, 0))), o2_80, o3_80, some (.inl x4), o5_80, o6_80, o7_80, o8_80, o9_80, o10_80, o11_80, o12_80, o13_80, o14_80, o15_80, o16_80] [.inl r1135] m1135 _
                                                                        refine go_blk h.1 (is := [.bipush (-2)]) (pc' := 1140) (ls' := [o0_80, some (.inr (.inr (0, 0))), o2_80, o3_80, some (.inl x4), o5_80, o6_80, o7_80, o8_80, o9_80, o10_80, o11_80, o12_80, o13_80, o14_80, o15_80, o16_80]) (st' := [.inl (-2 : Int32), .inl r1135]) (m' := m1135) (by decide +kernel) rfl ?_
                                                                        refine go_icmpne h.1 (off := 33) 1173 (by decide +kernel) (by decide) (fun c1140 => ?_) (fun c1140 => ?_)
                                                                        · refine go_blk h.1 (is := [.iconst 0]) (pc' := 1174) (ls' := [o0_80, some (.inr (.inr (0, 0))), o2_80, o3_80, some (.inl x4), o5_80, o6_80, o7_80, o8_80, o9_80, o10_80, o11_80, o12_80, o13_80, o14_80, o15_80, o16_80]) (st' := [.inl (0 : Int32)]) (m' := m1135) (by decide +kernel) rfl ?_
                                                                          exact go_law0
                                                                        · refine go_blk h.1 (is := [.aload_n 1, .iconst 1, .iconst 3, .iconst (-1)]) (pc' := 1147) (ls' := [o0_80, some (.inr (.inr (0, 0))), o2_80, o3_80, some (.inl x4), o5_80, o6_80, o7_80, o8_80, o9_80, o10_80, o11_80, o12_80, o13_80, o14_80, o15_80, o16_80]) (st' := [.inl (-1 : Int32), .inl (3 : Int32), .inl (1 : Int32), .inr (.inr (0, 0))]) (m' := m1135) (by decide +kernel) rfl ?_
                                                                          refine go_callV h.1 (index := 25) (n := 3) (t := 0) (i := 0) (ci := 6) (nf := 7) (cz := (RX6, TX6, 7)) (as := [.inl (1 : Int32), .inl (3 : Int32), .inl (-1 : Int32)]) (rest := []) (ctr_X6_put (xZ X) (1 : Int32) (3 : Int32) (-1 : Int32) m1135) (by decide +kernel) rfl rfl wd_v_L_25 rfl (h.room (by first | decide | omega) (by decide)) h.cl (Nat.le_of_ble_eq_true rfl) puI_ok rfl (fun r1147 m1147 _ => ?_)
                                                                          show Go X (El X) 1150 [o0_80, some (.inr (.inr (0, 0))), o2_80, o3_80, some (.inl x4), o5_80, o6_80, o7_80, o8_80, o9_80, o10_80, o11_80, o12_80, o13_80, o14_80, o15_80, o16_80] [.inl r1147] m1147 _
                                                                          refine go_blk h.1 (is := [.iconst 1]) (pc' := 1151) (ls' := [o0_80, some (.inr (.inr (0, 0))), o2_80, o3_80, some (.inl x4), o5_80, o6_80, o7_80, o8_80, o9_80, o10_80, o11_80, o12_80, o13_80, o14_80, o15_80, o16_80]) (st' := [.inl (1 : Int32), .inl r1147]) (m' := m1147) (by decide +kernel) rfl ?_
                                                                          refine go_icmpne h.1 (off := 22) 1173 (by decide +kernel) (by decide) (fun c1151 => ?_) (fun c1151 => ?_)
                                                                          · refine go_blk h.1 (is := [.iconst 0]) (pc' := 1174) (ls' := [o0_80, some (.inr (.inr (0, 0))), o2_80, o3_80, some (.inl x4), o5_80, o6_80, o7_80, o8_80, o9_80, o10_80, o11_80, o12_80, o13_80, o14_80, o15_80, o16_80]) (st' := [.inl (0 : Int32)]) (m' := m1147) (by decide +kernel) rfl ?_
                                                                            exact go_law0
                                                                          · refine go_blk h.1 (is := [.aload_n 1, .iconst 0, .iconst 0, .iconst 1, .iconst 0, .iconst 2, .iconst 1]) (pc' := 1161) (ls' := [o0_80, some (.inr (.inr (0, 0))), o2_80, o3_80, some (.inl x4), o5_80, o6_80, o7_80, o8_80, o9_80, o10_80, o11_80, o12_80, o13_80, o14_80, o15_80, o16_80]) (st' := [.inl (1 : Int32), .inl (2 : Int32), .inl (0 : Int32), .inl (1 : Int32), .inl (0 : Int32), .inl (0 : Int32), .inr (.inr (0, 0))]) (m' := m1147) (by decide +kernel) rfl ?_
                                                                            refine go_callV h.1 (index := 82) (n := 6) (t := 0) (i := 0) (ci := 6) (nf := 7) (cz := (RX6, TX6, 7)) (as := [.inl (0 : Int32), .inl (0 : Int32), .inl (1 : Int32), .inl (0 : Int32), .inl (2 : Int32), .inl (1 : Int32)]) (rest := []) (ctr_X6_owes (xZ X) (0 : Int32) (0 : Int32) (1 : Int32) (0 : Int32) (2 : Int32) (1 : Int32) m1147) (by decide +kernel) rfl rfl wd_v_L_82 rfl (h.room (by first | decide | omega) (by decide)) h.cl (Nat.le_of_ble_eq_true rfl) puI_ok rfl (fun r1161 m1161 _ => ?_)
                                                                            show Go X (El X) 1164 [o0_80, some (.inr (.inr (0, 0))), o2_80, o3_80, some (.inl x4), o5_80, o6_80, o7_80, o8_80, o9_80, o10_80, o11_80, o12_80, o13_80, o14_80, o15_80, o16_80] [.inl r1161] m1161 _
                                                                            refine go_blk h.1 (is := [.bipush (-2)]) (pc' := 1166) (ls' := [o0_80, some (.inr (.inr (0, 0))), o2_80, o3_80, some (.inl x4), o5_80, o6_80, o7_80, o8_80, o9_80, o10_80, o11_80, o12_80, o13_80, o14_80, o15_80, o16_80]) (st' := [.inl (-2 : Int32), .inl r1161]) (m' := m1161) (by decide +kernel) rfl ?_
                                                                            refine go_icmpne h.1 (off := 7) 1173 (by decide +kernel) (by decide) (fun c1166 => ?_) (fun c1166 => ?_)
                                                                            · refine go_blk h.1 (is := [.iconst 0]) (pc' := 1174) (ls' := [o0_80, some (.inr (.inr (0, 0))), o2_80, o3_80, some (.inl x4), o5_80, o6_80, o7_80, o8_80, o9_80, o10_80, o11_80, o12_80, o13_80, o14_80, o15_80, o16_80]) (st' := [.inl (0 : Int32)]) (m' := m1161) (by decide +kernel) rfl ?_
                                                                              exact go_law0
                                                                            · refine go_blk h.1 (is := [.iconst 1]) (pc' := 1170) (ls' := [o0_80, some (.inr (.inr (0, 0))), o2_80, o3_80, some (.inl x4), o5_80, o6_80, o7_80, o8_80, o9_80, o10_80, o11_80, o12_80, o13_80, o14_80, o15_80, o16_80]) (st' := [.inl (1 : Int32)]) (m' := m1161) (by decide +kernel) rfl ?_
                                                                              refine go_goto h.1 (off := 4) 1174 (by decide +kernel) (by decide) ?_
                                                                              exact go_law1 h (by decide +kernel)
                                                            · refine go_blk h.1 (is := [.iconst 0]) (pc' := 1067) (ls' := [o0_80, some (.inr (.inr (0, 0))), o2_80, o3_80, some (.inl x4), o5_80, o6_80, o7_80, o8_80, o9_80, o10_80, o11_80, o12_80, o13_80, o14_80, o15_80, o16_80]) (st' := [.inl (0 : Int32)]) (m' := m1058) (by decide +kernel) rfl ?_
                                                              exact go_law0
                                        · refine go_blk h.1 (is := [.iconst 0]) (pc' := 922) (ls' := [o0_80, some (.inr (.inr (0, 0))), o2_80, o3_80, some (.inl x4), o5_80, o6_80, o7_80, o8_80, o9_80, o10_80, o11_80, o12_80, o13_80, o14_80, o15_80, o16_80]) (st' := [.inl (0 : Int32)]) (m' := m913) (by decide +kernel) rfl ?_
                                          exact go_law0
end
section
/-! ===== numbers ===== -/
theorem nI_rng {x b : Int32} {n : Nat} (hb : b = nI n) (hn : n < 2 ^ 31) (h0 : ¬ x < 0) (h1 : ¬ b < x) : ∃ k, k ≤ n ∧ x = nI k := by
  subst hb
  refine nI_of2 (M := nI n) (nI_toInt hn) h0 ?_
  rw [Int32.le_iff_toInt_le]
  rw [Int32.lt_iff_toInt_lt] at h1
  omega
theorem ix_nI {k : Nat} (h : k < 2 ^ 31) : ix (nI k) = k := nI_clamp h
theorem inB_nI {k n : Nat} (h : k < n) (hn : n ≤ 2 ^ 31) : inB (nI k) n = true := by
  unfold inB
  rw [Bool.and_eq_true, decide_eq_true_eq]
  have hk : k < 2 ^ 31 := by omega
  exact ⟨nI_pos' hk, by rw [ix_nI hk]; exact Nat.blt_eq.mpr h⟩
/-! ===== what a state is: fault, trace, sheets, the ford F, readings; how class and reference hold it ===== -/
theorem mset_ne {m : Mem} {t i j t' : Nat} {v : Int32} (h : t' ≠ t) : mset m t i j v t' = m t' := by
  funext a b
  unfold mset
  rw [if_neg (fun q => h q.1)]
abbrev ShT : Type := Nat → Option (Nat × Nat × (Nat → Int32))
abbrev FdT : Type := Nat → Nat → Nat
def SC (m : Mem) (k : Nat) (v : Option (Nat × Nat × (Nat → Int32))) : Prop := match v with
  | none => m 2 k 1 = 0
  | some q => m 2 k 1 = 1 ∧ m 2 k 2 = nI q.1 ∧ m 2 k 3 = nI q.2.1 ∧ ∀ j, j < 60 → m 3 k j = q.2.2 j
def SV (v : Option (Nat × Nat × (Nat → Int32))) : Prop := match v with
  | none => True
  | some q => q.1 < 3 ∧ q.2.1 ≤ 60
/-- F: 0 how many fish, 1 how dear, 2 known ahead; of fish f: 3 kind, 4 size, 5 scales, 6 song, 7 secret -/
def TC (m : Mem) (F : FdT) : Prop := m 4 0 1 = nI (F 0 0) ∧ m 4 0 2 = nI (F 1 0) ∧ m 4 0 3 = nI (F 2 0) ∧
  ∀ f, f < F 0 0 → m 6 f 0 = nI (F 3 f) ∧ m 6 f 1 = nI (F 4 f) ∧ m 6 f 2 = nI (F 5 f) ∧ m 6 f 3 = nI (F 6 f) ∧ m 6 f 4 = nI (F 7 f)
def WF (F : FdT) : Prop := F 0 0 ≤ 5 ∧ F 1 0 ≤ 9 ∧ F 2 0 < 64 ∧ ∀ f, f < F 0 0 → F 3 f ≤ 2 ∧ 1 ≤ F 4 f ∧ F 4 f ≤ 9 ∧ F 5 f ≤ 99 ∧ F 6 f ≤ 6 ∧ F 7 f ≤ 5
/-! passes, in numbers: C 0 0 known, 1 0 harmed, 2 0 above, 3 0 got; C 4 f scales now; C (5+f) g what f owes g -/
def fset (F : FdT) (i j v : Nat) : FdT := fun i' j' => if i' = i ∧ j' = j then v else F i' j'
def shareS (F : FdT) (f : Nat) : Nat := if F 3 f = 0 then F 4 f else if F 3 f = 1 then F 4 f - 1 else (F 4 f - 1) / 2
def tollS (F C : FdT) (f : Nat) : Nat :=
  let t := shareS F f + (if (C 2 0).testBit f then 0 else F 1 0)
  if (C 1 0).testBit f then 2 * t else t
/-- the first of the fish x .. x+k-1 that may lend -/
def lendS (F C : FdT) (f toll : Nat) : Nat → Nat → Option Nat
  | _, 0 => none
  | x, k + 1 => if x ≠ f ∧ F 3 x ≠ 0 ∧ toll ≤ C 4 x then some x else lendS F C f toll (x + 1) k
def upS (C : FdT) (f : Nat) : FdT := fset C 2 0 (C 2 0 ^^^ 2 ^ f)
/-- fish f goes to the other side: the state behind, and who paid (5: nobody) -/
def passS (F C : FdT) (f how : Nat) : Option (FdT × Nat) :=
  if how = 0 then
    if tollS F C f ≤ C 4 f then some (upS (fset (fset C 4 f (C 4 f - tollS F C f)) 3 0 (C 3 0 + tollS F C f)) f, f) else none
  else if how = 1 then
    if F 6 f < 6 ∧ (C 0 0).testBit (F 6 f) = false then some (upS (fset C 0 0 (C 0 0 ^^^ 2 ^ F 6 f)) f, 5) else none
  else if how = 2 then
    if F 7 f ≠ f ∧ F 7 f < F 0 0 ∧ (C 1 0).testBit (F 7 f) = false then some (upS (fset C 1 0 (C 1 0 ^^^ 2 ^ F 7 f)) f, 5) else none
  else match lendS F C f (tollS F C f) 0 (F 0 0) with
    | some x => some (upS (fset (fset (fset C 4 x (C 4 x - tollS F C f)) 3 0 (C 3 0 + tollS F C f)) (5 + f) x (C (5 + f) x + tollS F C f)) f, x)
    | none => none
def startS (F : FdT) : FdT := fun i j => if i = 0 then F 2 0 else if i = 4 then (if j < F 0 0 then F 5 j else 0) else 0
/-- the class holds sheets and ford -/
def CI (m : Mem) (Sh : ShT) (F : FdT) : Prop := (∀ k, k < 4 → SC m k (Sh k)) ∧ TC m F
/-- what isn't the class's stays -/
def CF (m m' : Mem) : Prop := ∀ t, 30 ≤ t → m' t = m t
theorem CF.rf {m : Mem} : CF m m := fun _ _ => rfl
theorem CF.tr {a b c : Mem} (h : CF a b) (h' : CF b c) : CF a c := fun t ht => (h' t ht).trans (h t ht)
theorem CF.set {m m' : Mem} {t i j : Nat} {v : Int32} (h : CF m m') (ht : t < 30) : CF m (mset m' t i j v) := fun t' ht' => (mset_ne (by omega)).trans (h t' ht')
theorem CI_cong {m m' : Mem} {Sh : ShT} {F : FdT} (h : ∀ t, t = 2 ∨ t = 3 ∨ t = 4 ∨ t = 6 → m' t = m t) (hi : CI m Sh F) : CI m' Sh F := by
  obtain ⟨h1, h2⟩ := hi
  refine ⟨fun k hk => ?_, ?_⟩
  · have := h1 k hk
    unfold SC at this ⊢
    rw [h 2 (by omega), h 3 (by omega)]
    exact this
  · unfold TC at h2 ⊢
    rw [h 4 (by omega), h 6 (by omega)]
    exact h2
/-! ===== what a piece of the memory leaves alone ===== -/
theorem SC_cong {m m' : Mem} {Sh : ShT} (h2 : m' 2 = m 2) (h3 : m' 3 = m 3) (h : ∀ k, k < 4 → SC m k (Sh k)) : ∀ k, k < 4 → SC m' k (Sh k) := fun k hk => by
  have := h k hk
  unfold SC at this ⊢
  rw [h2, h3]
  exact this
theorem TC_cong {m m' : Mem} {F : FdT} (h4 : m' 4 = m 4) (h6 : m' 6 = m 6) (h : TC m F) : TC m' F := by
  unfold TC at h ⊢
  rw [h4, h6]
  exact h
theorem nI_z {n : Nat} (h : n < 2 ^ 31) : nI n = 0 ↔ n = 0 := by
  rw [← nI_0, nI_eq h (by decide)]
theorem nI_l_iff {a b : Nat} {x y : Int32} (hx : x = nI a) (hy : y = nI b) (ha : a < 2 ^ 31) (hb : b < 2 ^ 31) : (x ≤ y ↔ a ≤ b) ∧ (x < y ↔ a < b) ∧ (x = y ↔ a = b) := by
  subst hx; subst hy
  exact ⟨nI_leI ha hb, nI_ltI ha hb, nI_eq ha hb⟩
theorem i5 {f n : Nat} (hf : f < n) (hn : n ≤ 5) : inB (nI f) 5 = true ∧ ix (nI f) = f := ⟨inB_nI (by omega) (by decide), ix_nI (by omega)⟩
/-! ===== the share ===== -/
theorem shareOf_c {F : FdT} {f : Nat} (hk : F 3 f ≤ 2) (h1 : 1 ≤ F 4 f) (h9 : F 4 f ≤ 9) (m : Mem) : f_X6_shareOf (nI (F 3 f)) (nI (F 4 f)) m = some (nI (shareS F f), m) := by
  unfold f_X6_shareOf shareS
  have e1 : (nI (F 3 f) = 1) ↔ F 3 f = 1 := nI_eq (b := 1) (by omega) (by decide)
  have e2 : (nI (F 3 f) = 2) ↔ F 3 f = 2 := nI_eq (b := 2) (by omega) (by decide)
  have s1 : nI (F 4 f) - 1 = nI (F 4 f - 1) := pk_sub (b := 1) h1
  have d2 : nI (F 4 f - 1) / 2 = nI ((F 4 f - 1) / 2) := pk_div (d := 2) (by omega) (by decide) (by decide)
  by_cases a : F 3 f = 1
  · rw [if_pos (e1.mpr a), s1, if_neg (by omega), if_pos a]
  · rw [if_neg (fun q => a (e1.mp q))]
    by_cases b : F 3 f = 2
    · rw [if_pos (e2.mpr b), if_neg (show ¬ F 3 f = 0 by omega), if_neg a, if_pos (by decide)]
      unfold dv
      rw [s1, d2]
    · rw [if_neg (fun q => b (e2.mp q)), if_pos (by omega)]
theorem fset_s {F : FdT} {i j v : Nat} : fset F i j v i j = v := by simp [fset]
theorem TC_f {m : Mem} {F : FdT} {i j v : Nat} (hi : i = 1 ∨ i = 2) (hj : j = 0) (h : TC m F) : TC (mset m 4 0 (i + 1) (nI v)) (fset F i j v) := by
  subst hj
  obtain ⟨h0, h1, h2, h3⟩ := h
  rcases hi with rfl | rfl
  · exact ⟨by simpa [mset, fset] using h0, by simp [mset, fset], by simpa [mset, fset] using h2, fun f hf => by simpa [mset, fset] using h3 f (by simpa [fset] using hf)⟩
  · exact ⟨by simpa [mset, fset] using h0, by simpa [mset, fset] using h1, by simp [mset, fset], fun f hf => by simpa [mset, fset] using h3 f (by simpa [fset] using hf)⟩
theorem mset_mset {m : Mem} {t i j : Nat} {v w : Int32} : mset (mset m t i j v) t i j w = mset m t i j w := by
  funext a b c
  unfold mset
  split <;> rfl
/-! ===== sheets ===== -/
def upS_ (Sh : ShT) (k : Nat) (v : Option (Nat × Nat × (Nat → Int32))) : ShT := fun j => if j = k then v else Sh j
theorem i4 {k : Nat} (hk : k < 4) : inB (nI k) 4 = true ∧ ix (nI k) = k := ⟨inB_nI hk (by decide), ix_nI (by omega)⟩
theorem m9 {k : Nat} (hk : k < 2 ^ 31) : ¬ nI k = -9 := fun q => by
  have h := nI_toInt hk
  rw [q] at h
  have : (-9 : Int32).toInt = -9 := by decide
  omega
theorem CI_ft {m : Mem} {ft : Int32} {Sh : ShT} {F : FdT} (h : CI m Sh F) : CI (mset m 0 0 6 ft) Sh F := CI_cong (fun t ht => mset_ne (by omega)) h
theorem CI_17 {m : Mem} {v : Int32} {Sh : ShT} {F : FdT} (h : CI m Sh F) : CI (mset m 17 0 3 v) Sh F := CI_cong (fun t ht => mset_ne (by omega)) h
/-! ===== the arguments of calls ===== -/
theorem wi_in {k n : Nat} {b : Int32} (hb : b = nI n) (hk : k ≤ n) (hn : n < 2 ^ 31) (m : Mem) : f_X6_isWithin (nI k) 0 b m = some (1, m) := by
  subst hb
  have h0 : ¬ nI k < 0 := nI_pos (by omega)
  have h1 : ¬ nI n < nI k := nI_nlt hk (by omega)
  simp [f_X6_isWithin, h0, h1]
theorem wi_out {k n : Nat} {b : Int32} (hb : b = nI n) (hk : n < k) (hn : k < 2 ^ 31) (m : Mem) : f_X6_isWithin (nI k) 0 b m = some (0, m) := by
  subst hb
  have h0 : ¬ nI k < 0 := nI_pos (by omega)
  have h1 : nI n < nI k := nI_lt hk (by omega)
  simp [f_X6_isWithin, h0, h1]
theorem wi_neg {x a b : Int32} (hx : x < a) (m : Mem) : f_X6_isWithin x a b m = some (0, m) := by simp [f_X6_isWithin, hx]
theorem sheet_in {k : Nat} (hk : k < 4) (m : Mem) : f_X6_isSheet (nI k) m = some (1, m) := by
  have h : f_X6_isWithin (nI k) 0 3 m = some (1, m) := wi_in (n := 3) rfl (by omega) (by decide) m
  simp [f_X6_isSheet, h, bnd]
theorem lane_in {k : Nat} (hk : k < 3) (m : Mem) : f_X6_isLane (nI k) m = some (1, m) := by
  have h : f_X6_isWithin (nI k) 0 2 m = some (1, m) := wi_in (n := 2) rfl (by omega) (by decide) m
  simp [f_X6_isLane, h, bnd]
theorem has_in {f n : Nat} (hf : f < n) (hn : n < 2 ^ 31) {m : Mem} (hm : m 4 0 1 = nI n) : f_X5_has (nI f) m = some (1, m) := by
  have h0 : ¬ nI f < 0 := nI_pos (by omega)
  have h1 : ¬ nI n ≤ nI f := nI_ge hf (by omega)
  simp [f_X5_has, h0, hm, h1]
theorem has_out {f n : Nat} (hf : n ≤ f) (hn : f < 2 ^ 31) {m : Mem} (hm : m 4 0 1 = nI n) : f_X5_has (nI f) m = some (0, m) := by
  have h0 : ¬ nI f < 0 := nI_pos (by omega)
  have h1 : nI n ≤ nI f := nI_le hf (by omega)
  simp [f_X5_has, h0, hm, h1]
end
section
def cutS (ln : Nat) (v : Int32) : Int32 := if ln = 0 then v.toInt8.toInt32 else if ln = 1 then v.toInt16.toInt32 else v
theorem lane_z {ln : Nat} (h : ln < 3) : (nI ln = 0 ↔ ln = 0) ∧ (nI ln = 1 ↔ ln = 1) := ⟨nI_z (by omega), nI_eq (b := 1) (by omega) (by decide)⟩
theorem lane_ne {a b : Nat} (ha : a < 3) (hb : b < 3) : (nI a = nI b ↔ a = b) := nI_eq (by omega) (by omega)
/-! ===== loops in numbers ===== -/
/-- a loop with a measure: from every state of the invariant with k turns left it goes on, or leaves, or answers -/
theorem lpk_ind {σ τ ω : Type} {body : (σ → Option ω) → (τ → Option ω) → σ → Option ω} {K : τ → Option ω} {o : Option ω} (P : Nat → σ → Prop)
    (hs : ∀ k s, P k s → (∃ k' s', k = k' + 1 ∧ P k' s' ∧ ∀ next, body next K s = next s') ∨ (∀ next, body next K s = o)) :
    ∀ k n s, k < n → P k s → lpk body n s K = o := by
  intro k
  induction k with
  | zero =>
    intro n s hn hp
    obtain ⟨n, rfl⟩ : ∃ n', n = n' + 1 := ⟨n - 1, by omega⟩
    rw [lpk_s]
    rcases hs 0 s hp with ⟨k', s', h, -⟩ | h
    · omega
    · exact h _
  | succ k ih =>
    intro n s hn hp
    obtain ⟨n, rfl⟩ : ∃ n', n = n' + 1 := ⟨n - 1, by omega⟩
    rw [lpk_s]
    rcases hs (k + 1) s hp with ⟨k', s', h, hp', he⟩ | h
    · have : k' = k := by omega
      subst this
      rw [he]
      exact ih n s' (by omega) hp'
    · exact h _
/-- the row of n cells from a of one cell-row set to v -/
def mfill (m : Mem) (t i a n : Nat) (v : Int32) : Mem := fun t' i' j' => if t' = t ∧ i' = i ∧ a ≤ j' ∧ j' < a + n then v else m t' i' j'
theorem mfill_s {m : Mem} {t i a n : Nat} {v : Int32} : mset (mfill m t i a n v) t i (a + n) v = mfill m t i a (n + 1) v := by
  funext t' i' j'
  unfold mset mfill
  by_cases h : t' = t ∧ i' = i ∧ j' = a + n
  · rw [if_pos h, if_pos ⟨h.1, h.2.1, by omega, by omega⟩]
  · rw [if_neg h]
    by_cases h2 : t' = t ∧ i' = i ∧ a ≤ j' ∧ j' < a + n
    · rw [if_pos h2, if_pos ⟨h2.1, h2.2.1, h2.2.2.1, by omega⟩]
    · rw [if_neg h2, if_neg]
      rintro ⟨q1, q2, q3, q4⟩
      exact h2 ⟨q1, q2, q3, by have : j' ≠ a + n := fun e => h ⟨q1, q2, e⟩; omega⟩
theorem mfill_0 {m : Mem} {t i a : Nat} {v : Int32} : mfill m t i a 0 v = m := by
  funext t' i' j'
  unfold mfill
  rw [if_neg]
  omega
theorem mfill_ne {m : Mem} {t i a n t' : Nat} {v : Int32} (h : t' ≠ t) : mfill m t i a n v t' = m t' := by
  funext i' j'
  unfold mfill
  rw [if_neg (fun q => h q.1)]
theorem fill3 (w : Nat) (v : Int32) (m : Mem) : f_J7_fill_53178_t3 w v m = some ((), mfill m 3 w 0 60 v) := by
  unfold f_J7_fill_53178_t3
  refine lpk_ind (fun k s => ∃ i, i + k = 60 ∧ s = (nI i, mfill m 3 w 0 i v)) ?_ 60 fuelN _ (by decide) ⟨0, rfl, by rw [mfill_0]; rfl⟩
  rintro k s ⟨i, hi, rfl⟩
  unfold f_J7_fill_53178_t3_b5
  cases k with
  | zero =>
    refine Or.inr fun next => ?_
    have e : i = 60 := by omega
    subst e
    dsimp only
    rw [if_pos (show (60 : Int32) ≤ nI 60 from by decide)]
  | succ k =>
    refine Or.inl ⟨k, (nI (i + 1), mfill m 3 w 0 (i + 1) v), rfl, ⟨i + 1, by omega, rfl⟩, fun next => ?_⟩
    dsimp only
    have hge : ¬ (60 : Int32) ≤ nI i := nI_ge (b := 60) (by omega) (by decide)
    rw [if_neg hge, if_pos (inB_nI (by omega) (by decide)), ix_nI (by omega), nI_1]
    rw [← mfill_s, Nat.zero_add]
theorem fill14 (w : Nat) (v : Int32) (m : Mem) : f_J7_fill_53178_t14 w v m = some ((), mfill m 14 w 0 5 v) := by
  unfold f_J7_fill_53178_t14
  refine lpk_ind (fun k s => ∃ i, i + k = 5 ∧ s = (nI i, mfill m 14 w 0 i v)) ?_ 5 fuelN _ (by decide) ⟨0, rfl, by rw [mfill_0]; rfl⟩
  rintro k s ⟨i, hi, rfl⟩
  unfold f_J7_fill_53178_t14_b5
  cases k with
  | zero =>
    refine Or.inr fun next => ?_
    have e : i = 5 := by omega
    subst e
    dsimp only
    rw [if_pos (show (5 : Int32) ≤ nI 5 from by decide)]
  | succ k =>
    refine Or.inl ⟨k, (nI (i + 1), mfill m 14 w 0 (i + 1) v), rfl, ⟨i + 1, by omega, rfl⟩, fun next => ?_⟩
    dsimp only
    have hge : ¬ (5 : Int32) ≤ nI i := nI_ge (b := 5) (by omega) (by decide)
    rw [if_neg hge, if_pos (inB_nI (by omega) (by decide)), ix_nI (by omega), nI_1]
    rw [← mfill_s, Nat.zero_add]
theorem clampI {x : Int32} {n : Nat} (h : x = nI n) (hn : n ≤ 60) : (if (60 : Int32) < (if x < (0 : Int32) then (0 : Int32) else x) then (60 : Int32) else (if x < (0 : Int32) then (0 : Int32) else x)) = nI n := by
  subst h
  rw [if_neg (nI_pos (by omega))]
  have : ¬ (60 : Int32) < nI n := nI_nlt (a := 60) hn (by decide)
  rw [if_neg this]
theorem sub_toInt {a b : Nat} (ha : a < 2 ^ 31) (hb : b < 2 ^ 31) : (nI a - nI b).toInt = (a : Int) - b := by
  rw [Int32.toInt_sub, nI_toInt ha, nI_toInt hb]
  exact Int.bmod_eq_of_le (by omega) (by omega)
theorem sub_lt {a b c : Nat} (ha : a < 2 ^ 31) (hb : b < 2 ^ 31) (hc : c < 2 ^ 31) : (nI a - nI b < nI c ↔ a < b + c) ∧ (nI c ≤ nI a - nI b ↔ b + c ≤ a) := by
  rw [Int32.lt_iff_toInt_lt, Int32.le_iff_toInt_le, sub_toInt ha hb, nI_toInt hc]
  omega
/-- cells of a sheet from i on, n of them: there, or not -/
theorem holds_n {len a n : Nat} (hl : len ≤ 60) (ha : a < 2 ^ 31) (hn : n < 2 ^ 31) {m : Mem} {w : Nat} (hm : m 2 w 3 = nI len) : f_X4_holds w (nI a) (nI n) m = some (if a + n ≤ len then 1 else 0, m) := by
  unfold f_X4_holds
  rw [if_neg (nI_pos ha), if_neg (nI_pos hn), hm]
  have h := (sub_lt (a := len) (b := n) (c := a) (by omega) hn ha).1
  by_cases c : a + n ≤ len
  · rw [if_neg (fun q => by have := h.mp q; omega), if_pos c]
  · rw [if_pos (h.mpr (by omega)), if_neg c]
theorem holds_neg {i n : Int32} (h : i < 0 ∨ n < 0) (w : Nat) (m : Mem) : f_X4_holds w i n m = some (0, m) := by
  unfold f_X4_holds
  by_cases h1 : i < 0
  · rw [if_pos h1]
  · rw [if_neg h1]
    rcases h with h | h
    · exact absurd h h1
    · rw [if_pos h]
end
section
/-! ===== bits ===== -/
theorem bit_r : ∀ s, s < 64 → ∀ k, k < 6 → (((nI s >>> (nI k &&& 31)) &&& 1) = (if s.testBit k then 1 else 0)) := by decide +kernel
theorem bit_x : ∀ s, s < 64 → ∀ k, k < 6 → (nI s ^^^ ((1 : Int32) <<< (nI k &&& 31))) = nI (s ^^^ 2 ^ k) ∧ s ^^^ 2 ^ k < 64 := by decide +kernel
theorem bit_o : ∀ s, s < 64 → ∀ k, k < 6 → s.testBit k = false → (nI s ||| ((1 : Int32) <<< (nI k &&& 31))) = nI (s ^^^ 2 ^ k) := by decide +kernel
theorem bit_5 : ∀ s, s < 32 → ∀ k, k < 5 → s ^^^ 2 ^ k < 32 := by decide +kernel
theorem bit_1 {s k : Nat} (hs : s < 64) (hk : k < 6) : ((((nI s >>> (nI k &&& 31)) &&& 1) = 1) ↔ s.testBit k = true) ∧ ((((nI s >>> (nI k &&& 31)) &&& 1) = 0) ↔ s.testBit k = false) := by
  rw [bit_r s hs k hk]
  cases s.testBit k <;> simp
/-! ===== what is given in passes: within bounds ===== -/
def WC (F : FdT) : Prop := F 0 0 ≤ 5 ∧ F 1 0 ≤ 9 ∧ F 2 0 < 64 ∧ ∀ f, f < F 0 0 → F 3 f ≤ 2 ∧ 1 ≤ F 4 f ∧ F 4 f ≤ 9 ∧ F 5 f ≤ 198 ∧ F 6 f ≤ 6 ∧ F 7 f ≤ 5
theorem WF.wc {F : FdT} (h : WF F) : WC F := ⟨h.1, h.2.1, h.2.2.1, fun f hf => by have := h.2.2.2 f hf; omega⟩
/-- the numbers of a state are small: what was given at most g -/
def CB (C : FdT) (g : Nat) : Prop := C 0 0 < 64 ∧ C 1 0 < 32 ∧ C 2 0 < 32 ∧ C 3 0 ≤ g ∧ (∀ f, f < 5 → C 4 f ≤ 198) ∧ ∀ f x, C (5 + f) x ≤ g
theorem CB.mono {C : FdT} {g g' : Nat} (h : CB C g) (hg : g ≤ g') : CB C g' := ⟨h.1, h.2.1, h.2.2.1, by have := h.2.2.2.1; omega, h.2.2.2.2.1, fun f x => by have := h.2.2.2.2.2 f x; omega⟩
theorem shareS_le {F : FdT} (h : WC F) {f : Nat} (hf : f < F 0 0) : shareS F f ≤ 9 := by
  have := h.2.2.2 f hf
  unfold shareS
  split
  · omega
  · split <;> omega
theorem tollS_le {F : FdT} (h : WC F) (C : FdT) {f : Nat} (hf : f < F 0 0) : tollS F C f ≤ 36 := by
  have h1 := shareS_le h hf
  have h2 := h.2.1
  unfold tollS
  dsimp only
  split <;> split <;> omega
theorem o5 (x : Nat) : ((5 + x = 0) = False ∧ (5 + x = 1) = False ∧ (5 + x = 2) = False ∧ (5 + x = 3) = False ∧ (5 + x = 4) = False) ∧ ((0 = 5 + x) = False ∧ (1 = 5 + x) = False ∧ (2 = 5 + x) = False ∧ (3 = 5 + x) = False ∧ (4 = 5 + x) = False) := by
  simp only [eq_iff_iff, iff_false]
  omega
theorem CB_start {F : FdT} (h : WC F) {g : Nat} : CB (startS F) g := by
  refine ⟨by simpa [startS] using h.2.2.1, by simp [startS], by simp [startS], by simp [startS], fun f hf => ?_, fun f x => by simp [startS, o5]⟩
  by_cases e : f < F 0 0
  · have := h.2.2.2 f e; simp [startS, e]; omega
  · simp [startS, e]
theorem lendS_s {F C : FdT} {f toll x k : Nat} : lendS F C f toll x (k + 1) = if x ≠ f ∧ F 3 x ≠ 0 ∧ toll ≤ C 4 x then some x else lendS F C f toll (x + 1) k := rfl
theorem lendS_at {F C : FdT} {f toll : Nat} : ∀ (k x y : Nat), lendS F C f toll x k = some y → x ≤ y ∧ y < x + k ∧ y ≠ f ∧ F 3 y ≠ 0 ∧ toll ≤ C 4 y
  | 0, x, y, h => by cases h
  | k + 1, x, y, h => by
    unfold lendS at h
    split at h
    case isTrue c => cases h; exact ⟨Nat.le_refl _, by omega, c⟩
    case isFalse c =>
      obtain ⟨a, b, d⟩ := lendS_at k (x + 1) y h
      exact ⟨by omega, by omega, d⟩
theorem CB_pay0 {F C : FdT} {f g : Nat} (hB : CB C g) (hW : WC F) (hf : f < F 0 0) : CB (fset (fset C 4 f (C 4 f - tollS F C f)) 3 0 (C 3 0 + tollS F C f)) (g + 36) := by
  obtain ⟨h0, h1, h2, h3, h4, h5⟩ := hB
  have ht := tollS_le hW C hf
  refine ⟨by simpa [fset] using h0, by simpa [fset] using h1, by simpa [fset] using h2, by simp [fset]; omega, fun x hx => ?_, fun x y => ?_⟩
  · have := h4 x hx
    by_cases e : x = f
    · subst e; simp [fset]; omega
    · simpa [fset, e] using this
  · have := h5 x y
    simp [fset, o5]; omega
theorem CB_song {C : FdT} {s g : Nat} (hB : CB C g) (hs : s < 6) : CB (fset C 0 0 (C 0 0 ^^^ 2 ^ s)) g := by
  obtain ⟨h0, h1, h2, h3, h4, h5⟩ := hB
  have := (bit_x _ h0 s hs).2
  exact ⟨by simpa [fset] using this, by simpa [fset] using h1, by simpa [fset] using h2, by simpa [fset] using h3, fun x hx => by simpa [fset] using h4 x hx, fun x y => by simpa [fset, o5] using h5 x y⟩
theorem CB_secret {C : FdT} {s g : Nat} (hB : CB C g) (hs : s < 5) : CB (fset C 1 0 (C 1 0 ^^^ 2 ^ s)) g := by
  obtain ⟨h0, h1, h2, h3, h4, h5⟩ := hB
  have := bit_5 _ h1 s hs
  exact ⟨by simpa [fset] using h0, by simpa [fset] using this, by simpa [fset] using h2, by simpa [fset] using h3, fun x hx => by simpa [fset] using h4 x hx, fun x y => by simpa [fset, o5] using h5 x y⟩
theorem CB_pay3 {F C : FdT} {f p g : Nat} (hB : CB C g) (hW : WC F) (hf : f < F 0 0) : CB (fset (fset (fset C 4 p (C 4 p - tollS F C f)) 3 0 (C 3 0 + tollS F C f)) (5 + f) p (C (5 + f) p + tollS F C f)) (g + 36) := by
  obtain ⟨h0, h1, h2, h3, h4, h5⟩ := hB
  have ht := tollS_le hW C hf
  refine ⟨by simpa [fset, o5] using h0, by simpa [fset, o5] using h1, by simpa [fset, o5] using h2, by simp [fset, o5]; omega, fun y hy => ?_, fun y z => ?_⟩
  · have := h4 y hy
    by_cases e : y = p
    · subst e; simp [fset, o5]; omega
    · simpa [fset, o5, e] using this
  · have := h5 y z
    have := h5 f p
    simp [fset, o5]
    split <;> omega
theorem CB_up {C : FdT} {f g : Nat} (hB : CB C g) (hf : f < 5) : CB (upS C f) g := by
  obtain ⟨h0, h1, h2, h3, h4, h5⟩ := hB
  have := bit_5 _ h2 f hf
  exact ⟨by simpa [upS, fset] using h0, by simpa [upS, fset] using h1, by simpa [upS, fset] using this, by simpa [upS, fset] using h3, fun x hx => by simpa [upS, fset] using h4 x hx, fun x y => by simpa [upS, fset, o5] using h5 x y⟩
theorem passS_CB {F C C' : FdT} {f how p g : Nat} (hW : WC F) (hf : f < F 0 0) (hB : CB C g) (h : passS F C f how = some (C', p)) : CB C' (g + 36) := by
  have hn := hW.1
  unfold passS at h
  split at h
  · split at h
    case isFalse => cases h
    cases h
    exact CB_up (CB_pay0 hB hW hf) (by omega)
  split at h
  · split at h
    case isFalse => cases h
    rename_i c
    cases h
    exact (CB_up (CB_song hB c.1) (by omega)).mono (by omega)
  split at h
  · split at h
    case isFalse => cases h
    rename_i c
    cases h
    exact (CB_up (CB_secret hB (by omega)) (by omega)).mono (by omega)
  · split at h
    case h_2 => cases h
    cases h
    exact CB_up (CB_pay3 hB hW hf) (by omega)
/-! ===== a Crossing of the class, w: 0 the object's, 1 the search's ===== -/
def XR (m : Mem) (w : Nat) (F C : FdT) : Prop := m 7 w 8 = nI (F 0 0) ∧ m 7 w 9 = nI (F 1 0) ∧ m 7 w 10 = nI (C 0 0) ∧ m 7 w 11 = nI (C 1 0) ∧ m 7 w 12 = nI (C 2 0) ∧ m 7 w 13 = nI (C 3 0) ∧
  ∀ f, f < F 0 0 → m 8 w f = nI (F 3 f) ∧ m 9 w f = nI (F 4 f) ∧ m 10 w f = nI (C 4 f) ∧ m 11 w f = nI (F 6 f) ∧ m 12 w f = nI (F 7 f) ∧ ∀ g, g < F 0 0 → m 14 (5 * w + f) g = nI (C (5 + f) g)
def XF (m m' : Mem) : Prop := ∀ t, t < 7 ∨ 16 < t → m' t = m t
theorem XF.rf {m : Mem} : XF m m := fun _ _ => rfl
theorem XF.tr {a b c : Mem} (h : XF a b) (h' : XF b c) : XF a c := fun t ht => (h' t ht).trans (h t ht)
theorem XF.set {m m' : Mem} {t i j : Nat} {v : Int32} (h : XF m m') (h1 : 7 ≤ t) (h2 : t ≤ 16) : XF m (mset m' t i j v) := fun t' ht => (mset_ne (by omega)).trans (h t' ht)
theorem XF.ci {m m' : Mem} {Sh : ShT} {F : FdT} (h : XF m m') (hi : CI m Sh F) : CI m' Sh F := CI_cong (fun t ht => h t (by omega)) hi
theorem XF.cf {m m' : Mem} (h : XF m m') : CF m m' := fun t ht => h t (by omega)
theorem below_c {m : Mem} {w f : Nat} {F C : FdT} {g : Nat} (hX : XR m w F C) (hB : CB C g) (hf : f < 5) : f_X0_isBelow w (nI f) m = some (if (C 2 0).testBit f then 0 else 1, m) := by
  unfold f_X0_isBelow
  have hb := (bit_1 (s := C 2 0) (k := f) (by have := hB.2.2.1; omega) (by omega)).2
  rw [hX.2.2.2.2.1]
  by_cases c : (C 2 0).testBit f
  · rw [if_neg (fun q => by rw [hb.mp q] at c; cases c), if_pos c]
  · rw [if_pos (hb.mpr (by simpa using c)), if_neg c]
theorem toll_c {m : Mem} {w f : Nat} {F C : FdT} {g : Nat} (hX : XR m w F C) (hW : WC F) (hB : CB C g) (hf : f < F 0 0) : f_X0_tollOf w (nI f) m = some (nI (tollS F C f), m) := by
  have hn := hW.1
  obtain ⟨b1, b2⟩ := i5 hf hn
  obtain ⟨q0, q1, q2, q3, q4, q5, q6⟩ := hX
  obtain ⟨p1, p2, p3, p4, p5, p6⟩ := q6 f hf
  obtain ⟨w1, w2, w3, -⟩ := hW.2.2.2 f hf
  have hsh := shareOf_c w1 w2 w3 m
  have hbl := below_c ⟨q0, q1, q2, q3, q4, q5, q6⟩ hB (show f < 5 by omega)
  have hb := (bit_1 (s := C 1 0) (k := f) (by have := hB.2.1; omega) (by omega)).1
  unfold f_X0_tollOf
  simp only [b1, b2, if_true, p1, p2, hsh, bnd_some, hbl]
  unfold tollS f_X0_tollOf_j31
  dsimp only
  rw [q3, q1]
  have e1 : nI (shareS F f) + 0 = nI (shareS F f + 0) := by rw [← nI_0, nI_add]
  have e2 : nI (shareS F f) + nI (F 1 0) = nI (shareS F f + F 1 0) := nI_add _ _
  have e3 : ∀ a, (2 : Int32) * nI a = nI (2 * a) := fun a => pk_mul 2 a
  by_cases c : (C 2 0).testBit f
  · rw [if_pos c, if_pos rfl, if_pos c, e1]
    by_cases d : (C 1 0).testBit f
    · rw [if_pos (hb.mpr d), if_pos d, e3]
    · rw [if_neg (fun q => d (hb.mp q)), if_neg d]
  · rw [if_neg c, if_neg (by decide), if_neg c, e2]
    by_cases d : (C 1 0).testBit f
    · rw [if_pos (hb.mpr d), if_pos d, e3]
    · rw [if_neg (fun q => d (hb.mp q)), if_neg d]
theorem song_c {m : Mem} {w f : Nat} {F C : FdT} {g : Nat} (hX : XR m w F C) (hW : WC F) (hB : CB C g) (hf : f < F 0 0) : f_X0_hasNewSong w (nI f) m = some (if F 6 f < 6 ∧ (C 0 0).testBit (F 6 f) = false then 1 else 0, m) := by
  obtain ⟨b1, b2⟩ := i5 hf hW.1
  obtain ⟨q0, q1, q2, q3, q4, q5, q6⟩ := hX
  obtain ⟨p1, p2, p3, p4, p5, p6⟩ := q6 f hf
  have w6 := (hW.2.2.2 f hf).2.2.2.2.1
  unfold f_X0_hasNewSong
  simp only [b1, b2, if_true, p4, q2]
  have e : ((6 : Int32) ≤ nI (F 6 f)) ↔ 6 ≤ F 6 f := nI_leI (a := 6) (by decide) (by omega)
  by_cases c : F 6 f < 6
  · have hb := (bit_1 (s := C 0 0) (k := F 6 f) hB.1 c).2
    rw [if_neg (fun q => by have := e.mp q; omega)]
    by_cases d : (C 0 0).testBit (F 6 f) = false
    · rw [if_pos (hb.mpr d), if_pos ⟨c, d⟩]
    · rw [if_neg (fun q => d (hb.mp q)), if_neg (fun q => d q.2)]
  · rw [if_pos (e.mpr (by omega)), if_neg (fun q => c q.1)]
theorem secret_c {m : Mem} {w f : Nat} {F C : FdT} {g : Nat} (hX : XR m w F C) (hW : WC F) (hB : CB C g) (hf : f < F 0 0) : f_X0_hasSecret w (nI f) m = some (if F 7 f ≠ f ∧ F 7 f < F 0 0 ∧ (C 1 0).testBit (F 7 f) = false then 1 else 0, m) := by
  have hn := hW.1
  obtain ⟨b1, b2⟩ := i5 hf hW.1
  obtain ⟨q0, q1, q2, q3, q4, q5, q6⟩ := hX
  obtain ⟨p1, p2, p3, p4, p5, p6⟩ := q6 f hf
  have w7 := (hW.2.2.2 f hf).2.2.2.2.2
  unfold f_X0_hasSecret
  simp only [b1, b2, if_true, p5, q0, q3]
  have e : (nI (F 7 f) = nI f) ↔ F 7 f = f := nI_eq (by omega) (by omega)
  have e2 : (nI (F 0 0) ≤ nI (F 7 f)) ↔ F 0 0 ≤ F 7 f := nI_leI (by omega) (by omega)
  by_cases c : F 7 f = f
  · rw [if_pos (e.mpr c), if_neg (fun q => q.1 c)]
  rw [if_neg (fun q => c (e.mp q))]
  by_cases c2 : F 7 f < F 0 0
  · have hb := (bit_1 (s := C 1 0) (k := F 7 f) (by have := hB.2.1; omega) (by omega)).2
    rw [if_neg (fun q => by have := e2.mp q; omega)]
    by_cases d : (C 1 0).testBit (F 7 f) = false
    · rw [if_pos (hb.mpr d), if_pos ⟨c, c2, d⟩]
    · rw [if_neg (fun q => d (hb.mp q)), if_neg (fun q => d q.2.2)]
  · rw [if_pos (e2.mpr (by omega)), if_neg (fun q => c2 q.2.1)]
theorem lender_c {m : Mem} {w f toll : Nat} {F C : FdT} {g : Nat} (hX : XR m w F C) (hW : WC F) (hB : CB C g) (hf : f < F 0 0) (ht : toll < 2 ^ 31) : f_X0_lenderFor w (nI f) (nI toll) m = some (match lendS F C f toll 0 (F 0 0) with
    | some x => nI x
    | none => -2, m) := by
  have hn := hW.1
  obtain ⟨q0, q1, q2, q3, q4, q5, q6⟩ := hX
  unfold f_X0_lenderFor
  refine lpk_ind (fun k s => ∃ x, x + k = F 0 0 ∧ s = (nI x, m) ∧ lendS F C f toll x k = lendS F C f toll 0 (F 0 0)) ?_ (F 0 0) fuelN _ (by unfold fuelN; omega) ⟨0, by omega, rfl, rfl⟩
  rintro k s ⟨x, hx, rfl, hl⟩
  unfold f_X0_lenderFor_b2
  cases k with
  | zero =>
    refine Or.inr fun next => ?_
    have e : x = F 0 0 := by omega
    subst e
    have hle : nI (F 0 0) ≤ nI (F 0 0) := nI_le (Nat.le_refl _) (by omega)
    rw [← hl]
    simp [q0, hle, lendS]
  | succ k =>
    obtain ⟨b1, b2⟩ := i5 (f := x) (n := F 0 0) (by omega) hn
    obtain ⟨p1, p2, p3, p4, p5, p6⟩ := q6 x (by omega)
    have wk := (hW.2.2.2 x (by omega)).1
    have c4 := hB.2.2.2.2.1 x (by omega)
    have e0 : (nI (F 3 x) = 0) ↔ F 3 x = 0 := nI_z (by omega)
    have e1 : (nI x = nI f) ↔ x = f := nI_eq (by omega) (by omega)
    have e2 : (nI (C 4 x) < nI toll) ↔ C 4 x < toll := nI_ltI (by omega) ht
    have hge : ¬ nI (F 0 0) ≤ nI x := nI_ge (by omega) (by omega)
    rw [lendS_s] at hl
    by_cases c1 : x = f
    · refine Or.inl ⟨k, (nI (x + 1), m), rfl, ⟨x + 1, by omega, rfl, by rw [← hl, if_neg (fun q => q.1 c1)]⟩, fun next => ?_⟩
      simp [q0, hge, e1, c1, f_X0_lenderFor_j36, nI_succ]
      subst c1
      simp [hge]
    have c1' : ¬ nI x = nI f := fun q => c1 (e1.mp q)
    by_cases c2 : F 3 x = 0
    · refine Or.inl ⟨k, (nI (x + 1), m), rfl, ⟨x + 1, by omega, rfl, by rw [← hl, if_neg (fun q => q.2.1 c2)]⟩, fun next => ?_⟩
      simp [q0, hge, c1', b1, b2, p1, e0.mpr c2, f_X0_lenderFor_j36, nI_succ]
    have c2' : ¬ nI (F 3 x) = 0 := fun q => c2 (e0.mp q)
    by_cases c3 : C 4 x < toll
    · refine Or.inl ⟨k, (nI (x + 1), m), rfl, ⟨x + 1, by omega, rfl, by rw [← hl, if_neg (fun q => by have := q.2.2; omega)]⟩, fun next => ?_⟩
      simp [q0, hge, c1', b1, b2, p1, c2', p3, e2.mpr c3, f_X0_lenderFor_j36, nI_succ]
    · have c3' : ¬ nI (C 4 x) < nI toll := fun q => c3 (e2.mp q)
      refine Or.inr fun next => ?_
      rw [if_pos ⟨c1, c2, by omega⟩] at hl
      rw [← hl]
      simp [q0, hge, c1', b1, b2, p1, c2', p3, c3']
end
section
def payI (p : Nat) : Int32 := if p = 5 then -1 else nI p
theorem XR.fr {m m' : Mem} {w : Nat} {F C : FdT} (h : XR m w F C) (e : ∀ t, 7 ≤ t → t ≤ 14 → ∀ j, m' t w j = m t w j) (e2 : ∀ f g, f < 5 → m' 14 (5 * w + f) g = m 14 (5 * w + f) g) (hn : F 0 0 ≤ 5) : XR m' w F C := by
  obtain ⟨q0, q1, q2, q3, q4, q5, q6⟩ := h
  refine ⟨by rw [e 7 (by decide) (by decide)]; exact q0, by rw [e 7 (by decide) (by decide)]; exact q1, by rw [e 7 (by decide) (by decide)]; exact q2, by rw [e 7 (by decide) (by decide)]; exact q3, by rw [e 7 (by decide) (by decide)]; exact q4, by rw [e 7 (by decide) (by decide)]; exact q5, fun f hf => ?_⟩
  obtain ⟨p1, p2, p3, p4, p5, p6⟩ := q6 f hf
  exact ⟨by rw [e 8 (by decide) (by decide)]; exact p1, by rw [e 9 (by decide) (by decide)]; exact p2, by rw [e 10 (by decide) (by decide)]; exact p3, by rw [e 11 (by decide) (by decide)]; exact p4, by rw [e 12 (by decide) (by decide)]; exact p5, fun g hg => by rw [e2 f g (by omega)]; exact p6 g hg⟩
/-- above: a fish's bit turns -/
theorem XR_up {m : Mem} {w f : Nat} {F C : FdT} {g : Nat} (hX : XR m w F C) (hB : CB C g) (hf : f < 5) : XR (mset m 7 w 12 ((m 7 w 12) ^^^ ((1 : Int32) <<< (nI f &&& 31)))) w F (upS C f) := by
  obtain ⟨q0, q1, q2, q3, q4, q5, q6⟩ := hX
  have e := (bit_x (C 2 0) (by have := hB.2.2.1; omega) f (by omega)).1
  refine ⟨by simpa [mset] using q0, by simpa [mset] using q1, by simpa [mset, upS, fset] using q2, by simpa [mset, upS, fset] using q3, by simp [mset, upS, fset, q4, e], by simpa [mset, upS, fset] using q5, fun x hx => ?_⟩
  have := q6 x hx
  simpa [mset, upS, fset, o5] using this
theorem XR_song {m : Mem} {w f : Nat} {F C : FdT} {g : Nat} (hX : XR m w F C) (hB : CB C g) (hf : f < F 0 0) (h6 : F 6 f < 6) : XR (mset m 7 w 10 ((m 7 w 10) ^^^ ((1 : Int32) <<< ((m 11 w f) &&& 31)))) w F (fset C 0 0 (C 0 0 ^^^ 2 ^ F 6 f)) := by
  obtain ⟨q0, q1, q2, q3, q4, q5, q6⟩ := hX
  have e := (bit_x (C 0 0) hB.1 (F 6 f) h6).1
  have p4 := (q6 f hf).2.2.2.1
  refine ⟨by simpa [mset] using q0, by simpa [mset] using q1, by simp [mset, fset, q2, p4, e], by simpa [mset, fset] using q3, by simpa [mset, fset] using q4, by simpa [mset, fset] using q5, fun x hx => ?_⟩
  have := q6 x hx
  simpa [mset, fset, o5] using this
theorem XR_secret {m : Mem} {w f : Nat} {F C : FdT} {g : Nat} (hX : XR m w F C) (hB : CB C g) (hf : f < F 0 0) (h7 : F 7 f < 5) : XR (mset m 7 w 11 ((m 7 w 11) ^^^ ((1 : Int32) <<< ((m 12 w f) &&& 31)))) w F (fset C 1 0 (C 1 0 ^^^ 2 ^ F 7 f)) := by
  obtain ⟨q0, q1, q2, q3, q4, q5, q6⟩ := hX
  have e := (bit_x (C 1 0) (by have := hB.2.1; omega) (F 7 f) (by omega)).1
  have p5 := (q6 f hf).2.2.2.2.1
  refine ⟨by simpa [mset] using q0, by simpa [mset] using q1, by simpa [mset, fset] using q2, by simp [mset, fset, q3, p5, e], by simpa [mset, fset] using q4, by simpa [mset, fset] using q5, fun x hx => ?_⟩
  have := q6 x hx
  simpa [mset, fset, o5] using this
/-- p pays for f -/
theorem pay_c {m : Mem} {w f p t : Nat} {F C : FdT} (hX : XR m w F C) (hn : F 0 0 ≤ 5) (hf : f < F 0 0) (hp : p < F 0 0) (ht : t ≤ C 4 p) : ∃ m', f_X0_pay w (nI f) (nI p) (nI t) m = some ((), m') ∧ XF m m' ∧
    XR m' w F (if p = f then fset (fset C 4 f (C 4 f - t)) 3 0 (C 3 0 + t) else fset (fset (fset C 4 p (C 4 p - t)) 3 0 (C 3 0 + t)) (5 + f) p (C (5 + f) p + t)) := by
  obtain ⟨q0, q1, q2, q3, q4, q5, q6⟩ := hX
  obtain ⟨b1, b2⟩ := i5 hp hn
  obtain ⟨c1, c2⟩ := i5 hf hn
  have e1 : nI (C 4 p) - nI t = nI (C 4 p - t) := pk_sub ht
  have e2 : nI (C 3 0) + nI t = nI (C 3 0 + t) := nI_add _ _
  have e3 : nI (C (5 + f) p) + nI t = nI (C (5 + f) p + t) := nI_add _ _
  have ee : (nI p = nI f) ↔ p = f := nI_eq (by omega) (by omega)
  have p3 := (q6 p hp).2.2.1
  have p6 := (q6 f hf).2.2.2.2.2 p hp
  unfold f_X0_pay
  by_cases c : p = f
  · subst c
    rw [if_pos rfl]
    refine ⟨mset (mset m 10 w p (nI (C 4 p - t))) 7 w 13 (nI (C 3 0 + t)), ?_, (XF.rf.set (by decide) (by decide)).set (by decide) (by decide), ?_⟩
    · simp [b1, b2, p3, q5, e1, e2]
    · refine ⟨by simpa [mset] using q0, by simpa [mset] using q1, by simpa [mset, fset] using q2, by simpa [mset, fset] using q3, by simpa [mset, fset] using q4, by simp [mset, fset], fun x hx => ?_⟩
      have := q6 x hx
      by_cases ex : x = p
      · subst ex
        simp [mset, fset, o5, this]
        exact this.2.2.2.2.2
      · simpa [mset, fset, o5, ex] using this
  · rw [if_neg c]
    have c' : ¬ nI p = nI f := fun q => c (ee.mp q)
    refine ⟨mset (mset (mset m 10 w p (nI (C 4 p - t))) 7 w 13 (nI (C 3 0 + t))) 14 (5 * w + f) p (nI (C (5 + f) p + t)), ?_, ((XF.rf.set (by decide) (by decide)).set (by decide) (by decide)).set (by decide) (by decide), ?_⟩
    · simp [b1, b2, c1, c2, c', p3, q5, p6, e1, e2, e3]
    · refine ⟨by simpa [mset] using q0, by simpa [mset] using q1, by simpa [mset, fset, o5] using q2, by simpa [mset, fset, o5] using q3, by simpa [mset, fset, o5] using q4, by simp [mset, fset, o5], fun x hx => ?_⟩
      obtain ⟨r1, r2, r3, r4, r5, r6⟩ := q6 x hx
      refine ⟨by simpa [mset, fset, o5] using r1, by simpa [mset, fset, o5] using r2, ?_, by simpa [mset, fset, o5] using r4, by simpa [mset, fset, o5] using r5, fun y hy => ?_⟩
      · by_cases ex : x = p
        · subst ex; simp [mset, fset, o5]
        · simpa [mset, fset, o5, ex] using r3
      · have := r6 y hy
        by_cases ex : x = f ∧ y = p
        · obtain ⟨rfl, rfl⟩ := ex
          simp [mset, fset, o5]
        · have ex' : ¬ (5 + x = 5 + f ∧ y = p) := fun z => ex ⟨by omega, z.2⟩
          have ex2 : ¬ (5 * w + x = 5 * w + f ∧ y = p) := fun z => ex ⟨by omega, z.2⟩
          simp only [mset, fset, o5, if_neg ex', if_neg ex2]
          simpa [o5, ex, ex2] using this
/-- a pass of the class's Crossing -/
theorem pass_c {m : Mem} {w f how : Nat} {F C : FdT} {g : Nat} (hX : XR m w F C) (hW : WC F) (hB : CB C g) (hf : f < F 0 0) (hh : how < 4) : match passS F C f how with
    | some q => q.2 ≤ 5 ∧ ∃ m', f_X0_pass w (nI f) (nI how) m = some (payI q.2, m') ∧ XF m m' ∧ XR m' w F q.1
    | none => f_X0_pass w (nI f) (nI how) m = some (-2, m) := by
  have hn := hW.1
  obtain ⟨b1, b2⟩ := i5 hf hn
  have ht := tollS_le hW C hf
  have q0 := hX.1
  have p3 := (hX.2.2.2.2.2.2 f hf).2.2.1
  have p4 := (hX.2.2.2.2.2.2 f hf).2.2.2.1
  have p5 := (hX.2.2.2.2.2.2 f hf).2.2.2.2.1
  have h1 : ¬ nI f < 0 := nI_pos (by omega)
  have h2 : nI f < nI (F 0 0) := nI_lt hf (by omega)
  have htoll := toll_c hX hW hB hf
  have n2 : ∀ k : Nat, k < 2 ^ 31 → ¬ nI k = -2 := fun k hk q => by
    have h := nI_toInt hk
    rw [q] at h
    have : (-2 : Int32).toInt = -2 := by decide
    omega
  have n1 : ∀ k : Nat, k < 2 ^ 31 → ¬ nI k = -1 := fun k hk q => by
    have h := nI_toInt hk
    rw [q] at h
    have : (-1 : Int32).toInt = -1 := by decide
    omega
  unfold passS
  by_cases k0 : how = 0
  · subst k0
    have e2 : (nI (C 4 f) < nI (tollS F C f)) ↔ C 4 f < tollS F C f := nI_ltI (by have := hB.2.2.2.2.1 f (by omega); omega) (by omega)
    by_cases c : tollS F C f ≤ C 4 f
    · rw [if_pos rfl, if_pos c]
      have c' : ¬ nI (C 4 f) < nI (tollS F C f) := fun q => by have := e2.mp q; omega
      obtain ⟨m1, r1, r2, r3⟩ := pay_c hX hn hf hf c
      rw [if_pos rfl] at r3
      refine ⟨by omega, _, ?_, r2.set (by decide) (by decide), XR_up r3 (g := g + 36) (CB_pay0 hB hW hf) (by omega)⟩
      simp [f_X0_pass, f_X0_payerOf, h1, q0, h2, htoll, bnd, nI_0, b1, b2, p3, c', n2 f (by omega), n1 f (by omega), r1, f_X0_pass_j41, payI, show ¬ f = 5 by omega]
    · rw [if_pos rfl, if_neg c]
      have c' : nI (C 4 f) < nI (tollS F C f) := e2.mpr (by omega)
      simp [f_X0_pass, f_X0_payerOf, h1, q0, h2, htoll, bnd, nI_0, b1, b2, p3, c']
  rw [if_neg k0]
  by_cases k1 : how = 1
  · subst k1
    have hs := song_c hX hW hB hf
    rw [if_pos rfl]
    by_cases c : F 6 f < 6 ∧ (C 0 0).testBit (F 6 f) = false
    · rw [if_pos c]
      rw [if_pos c] at hs
      refine ⟨by omega, _, ?_, (XF.rf.set (by decide) (by decide)).set (by decide) (by decide), XR_up (XR_song hX hB hf c.1) (g := g) (CB_song hB c.1) (by omega)⟩
      simp [f_X0_pass, f_X0_payerOf, h1, q0, h2, htoll, bnd, show nI 1 = 1 from rfl, hs, f_X0_turnWord, b1, b2, f_X0_pass_j41, payI]
    · rw [if_neg c]
      rw [if_neg c] at hs
      simp [f_X0_pass, f_X0_payerOf, h1, q0, h2, htoll, bnd, show nI 1 = 1 from rfl, hs]
  rw [if_neg k1]
  by_cases k2 : how = 2
  · subst k2
    have hs := secret_c hX hW hB hf
    rw [if_pos rfl]
    by_cases c : F 7 f ≠ f ∧ F 7 f < F 0 0 ∧ (C 1 0).testBit (F 7 f) = false
    · rw [if_pos c]
      rw [if_pos c] at hs
      refine ⟨by omega, _, ?_, (XF.rf.set (by decide) (by decide)).set (by decide) (by decide), XR_up (XR_secret hX hB hf (by omega)) (g := g) (CB_secret hB (by omega)) (by omega)⟩
      simp [f_X0_pass, f_X0_payerOf, h1, q0, h2, htoll, bnd, show nI 2 = 2 from rfl, hs, f_X0_turnWord, b1, b2, f_X0_pass_j41, payI]
    · rw [if_neg c]
      rw [if_neg c] at hs
      simp [f_X0_pass, f_X0_payerOf, h1, q0, h2, htoll, bnd, show nI 2 = 2 from rfl, hs]
  rw [if_neg k2]
  have k3 : how = 3 := by omega
  subst k3
  have hl := lender_c hX hW hB hf (toll := tollS F C f) (by omega)
  cases hx : lendS F C f (tollS F C f) 0 (F 0 0) with
  | none =>
    rw [hx] at hl
    simp [f_X0_pass, f_X0_payerOf, h1, q0, h2, htoll, bnd, show nI 3 = 3 from rfl, hl]
  | some x =>
    rw [hx] at hl
    obtain ⟨l1, l2, l3, l4, l5⟩ := lendS_at _ _ _ hx
    obtain ⟨m1, r1, r2, r3⟩ := pay_c hX hn hf (show x < F 0 0 by omega) l5
    rw [if_neg l3] at r3
    refine ⟨by show x ≤ 5; omega, _, ?_, r2.set (by decide) (by decide), XR_up r3 (g := g + 36) (CB_pay3 hB hW hf) (by omega)⟩
    simp [f_X0_pass, f_X0_payerOf, h1, q0, h2, htoll, bnd, show nI 3 = 3 from rfl, hl, n2 x (by omega), n1 x (by omega), r1, f_X0_pass_j41, payI, show ¬ x = 5 by omega]
end
section
/-! ===== a row of passes ===== -/
def walkS (F : FdT) (fs hs : Nat → Nat) : Nat → Nat → FdT → FdT ⊕ Nat
  | 0, _, C => .inl C
  | k + 1, p, C => match passS F C (fs p) (hs p) with
    | some q => walkS F fs hs k (p + 1) q.1
    | none => .inr p
theorem walkS_s {F : FdT} {fs hs : Nat → Nat} {k p : Nat} {C : FdT} : walkS F fs hs (k + 1) p C = (match passS F C (fs p) (hs p) with
    | some q => walkS F fs hs k (p + 1) q.1
    | none => .inr p) := rfl
theorem walkS_CB {F : FdT} {fs hs : Nat → Nat} (hW : WC F) : ∀ (k p g : Nat) (C C' : FdT), (∀ q, q < p + k → fs q < F 0 0) → CB C g → walkS F fs hs k p C = .inl C' → CB C' (g + 36 * k)
  | 0, p, g, C, C', _, hB, h => by cases h; exact hB
  | k + 1, p, g, C, C', hf, hB, h => by
    rw [walkS_s] at h
    cases hx : passS F C (fs p) (hs p) with
    | none => rw [hx] at h; cases h
    | some q =>
      rw [hx] at h
      have := walkS_CB hW k (p + 1) (g + 36) q.1 C' (fun z hz => hf z (by omega)) (passS_CB (p := q.2) hW (hf p (by omega)) hB (by rw [hx])) h
      exact this.mono (by omega)
theorem walkS_lt {F : FdT} {fs hs : Nat → Nat} : ∀ (k p : Nat) (C : FdT) (j : Nat), walkS F fs hs k p C = .inr j → p ≤ j ∧ j < p + k
  | 0, p, C, j, h => by cases h
  | k + 1, p, C, j, h => by
    rw [walkS_s] at h
    cases hx : passS F C (fs p) (hs p) with
    | none => rw [hx] at h; cases h; omega
    | some q =>
      rw [hx] at h
      have := walkS_lt k (p + 1) q.1 j h
      omega
theorem at_c {m : Mem} {k j ln len : Nat} {c : Nat → Int32} (h : SC m k (some (ln, len, c))) (hl : len ≤ 60) (hj : j < len) : f_X4_at k (nI j) m = some (c j, m) := by
  have h1 := holds_n (n := 1) hl (show j < 2 ^ 31 by omega) (by decide) h.2.2.1
  rw [if_pos (by omega)] at h1
  have h1 : f_X4_holds k (nI j) 1 m = some (1, m) := h1
  simp [f_X4_at, h1, bnd, inB_nI (show j < 60 by omega) (by decide), ix_nI (show j < 2 ^ 31 by omega), h.2.2.2 j (by omega)]
theorem nI_2 (a p : Nat) : nI a + (2 : Int32) * nI p = nI (a + 2 * p) := by
  rw [show (2 : Int32) = nI 2 from rfl, pk_mul, nI_add]
/-- the cells of a row: pairs fish, how -/
def Row (F : FdT) (c : Nat → Int32) (a q : Nat) (fs hs : Nat → Nat) : Prop := ∀ p, p < q → fs p < F 0 0 ∧ hs p < 4 ∧ c (a + 2 * p) = nI (fs p) ∧ c (a + 2 * p + 1) = nI (hs p)
theorem walk_c {m : Mem} {w k a q ln len g : Nat} {c : Nat → Int32} {F C : FdT} {fs hs : Nat → Nat} (hX : XR m w F C) (hW : WC F) (hB : CB C g) (hS : SC m k (some (ln, len, c))) (hl : len ≤ 60) (ha : a + 2 * q ≤ len) (hR : Row F c a q fs hs) :
    match walkS F fs hs q 0 C with
    | .inl C' => ∃ m', f_X0_walk w k (nI a) (nI q) m = some (-9, m') ∧ XF m m' ∧ XR m' w F C'
    | .inr p => ∃ m', f_X0_walk w k (nI a) (nI q) m = some (nI p, m') ∧ XF m m' := by
  -- by turns left
  have key : ∀ (t p n g : Nat) (m0 : Mem) (C : FdT), p + t = q → t < n → XF m m0 → XR m0 w F C → CB C g → match walkS F fs hs t p C with
      | .inl C' => ∃ m', lpk (f_X0_walk_b3 w k (nI a) (nI q)) n (nI p, m0) (fun t3 => some ((-9 : Int32), t3)) = some (-9, m') ∧ XF m m' ∧ XR m' w F C'
      | .inr j => ∃ m', lpk (f_X0_walk_b3 w k (nI a) (nI q)) n (nI p, m0) (fun t3 => some ((-9 : Int32), t3)) = some (nI j, m') ∧ XF m m' := by
    intro t
    induction t with
    | zero =>
      intro p n g m0 C hp hn hF hX hB
      obtain ⟨n, rfl⟩ : ∃ n', n = n' + 1 := ⟨n - 1, by omega⟩
      have e : p = q := by omega
      subst e
      refine ⟨m0, ?_, hF, hX⟩
      rw [lpk_s]
      unfold f_X0_walk_b3
      dsimp only
      rw [if_pos (nI_le (Nat.le_refl _) (by omega))]
    | succ t ih =>
      intro p n g m0 C hp hn hF hX hB
      obtain ⟨n, rfl⟩ : ∃ n', n = n' + 1 := ⟨n - 1, by omega⟩
      obtain ⟨r1, r2, r3, r4⟩ := hR p (by omega)
      have hS0 : SC m0 k (some (ln, len, c)) := by
        unfold SC at hS ⊢
        rw [hF 2 (by decide), hF 3 (by decide)]
        exact hS
      have hge : ¬ nI q ≤ nI p := nI_ge (by omega) (by omega)
      have a1 := at_c hS0 hl (show a + 2 * p < len by omega)
      have a2 := at_c hS0 hl (show a + 2 * p + 1 < len by omega)
      rw [r3] at a1
      rw [r4] at a2
      have hp2 := pass_c hX hW hB r1 r2
      have step : ∀ (r : Int32) (m1 : Mem), f_X0_pass w (nI (fs p)) (nI (hs p)) m0 = some (r, m1) → lpk (f_X0_walk_b3 w k (nI a) (nI q)) (n + 1) (nI p, m0) (fun t3 => some ((-9 : Int32), t3)) = if r = -2 then some (nI p, m1) else lpk (f_X0_walk_b3 w k (nI a) (nI q)) n (nI (p + 1), m1) (fun t3 => some ((-9 : Int32), t3)) := by
        intro r m1 hr
        rw [lpk_s]
        unfold f_X0_walk_b3
        dsimp only
        rw [if_neg hge, nI_2, a1, bnd_some, nI_1, a2, bnd_some, hr, bnd_some, nI_1]
      rw [walkS_s]
      cases hx : passS F C (fs p) (hs p) with
      | none =>
        rw [hx] at hp2
        refine ⟨m0, ?_, hF⟩
        rw [step _ _ hp2, if_pos rfl]
      | some z =>
        rw [hx] at hp2
        obtain ⟨hz, m1, e1, e2, e3⟩ := hp2
        have hne : ¬ payI z.2 = -2 := by
          have : ∀ x, x < 6 → ¬ payI x = -2 := by decide
          exact this _ (by omega)
        have := ih (p + 1) n (g + 36) m1 z.1 (by omega) (by omega) (hF.tr e2) e3 (passS_CB (p := z.2) hW r1 hB (by rw [hx]))
        rw [step _ _ e1, if_neg hne]
        exact this
  unfold f_X0_walk
  exact key q 0 fuelN g m C (by omega) (by unfold fuelN; omega) XF.rf hX hB
/-! ===== a crossing begins ===== -/
theorem nI_1' : nI 1 = 1 := rfl
theorem nI_2' : nI 2 = 2 := rfl
theorem nI_3' : nI 3 = 3 := rfl
def StA (m : Mem) (w : Nat) (F : FdT) : Prop := m 7 w 8 = nI (F 0 0) ∧ m 7 w 9 = nI (F 1 0) ∧ m 7 w 10 = nI (F 2 0) ∧ m 7 w 11 = 0 ∧ m 7 w 12 = 0 ∧ m 7 w 13 = 0
def StF (m : Mem) (w : Nat) (F : FdT) (f : Nat) : Prop := m 8 w f = nI (F 3 f) ∧ m 9 w f = nI (F 4 f) ∧ m 10 w f = nI (F 5 f) ∧ m 11 w f = nI (F 6 f) ∧ m 12 w f = nI (F 7 f) ∧ ∀ g, g < F 0 0 → m 14 (5 * w + f) g = 0
theorem XF.fill {m m' : Mem} {t i a n : Nat} {v : Int32} (h : XF m m') (h1 : 7 ≤ t) (h2 : t ≤ 16) : XF m (mfill m' t i a n v) := fun t' ht => (mfill_ne (by omega)).trans (h t' ht)
theorem start_c {m : Mem} {F : FdT} (w : Nat) (hT : TC m F) (hW : WC F) : ∃ m', f_X0_start w m = some ((), m') ∧ XF m m' ∧ XR m' w F (startS F) := by
  have hn := hW.1
  have key : ∀ (t x n : Nat) (m0 : Mem), x + t = F 0 0 → t < n → XF m m0 → StA m0 w F → (∀ f, f < x → StF m0 w F f) → ∃ m1, lpk (f_X0_start_b41 w) n (nI x, m0) (fun t41 => some ((), t41)) = some ((), m1) ∧ XF m m1 ∧ StA m1 w F ∧ ∀ f, f < F 0 0 → StF m1 w F f := by
    intro t
    induction t with
    | zero =>
      intro x n m0 hx hn2 hF hA h
      obtain ⟨n, rfl⟩ : ∃ n', n = n' + 1 := ⟨n - 1, by omega⟩
      have e : x = F 0 0 := by omega
      subst e
      refine ⟨m0, ?_, hF, hA, h⟩
      have hle : nI (F 0 0) ≤ nI (F 0 0) := nI_le (Nat.le_refl _) (by omega)
      simp [lpk_s, f_X0_start_b41, hA.1, hle]
    | succ t ih =>
      intro x n m0 hx hn2 hF hA h
      obtain ⟨n, rfl⟩ : ∃ n', n = n' + 1 := ⟨n - 1, by omega⟩
      have hge : ¬ nI (F 0 0) ≤ nI x := nI_ge (by omega) (by omega)
      obtain ⟨b1, b2⟩ := i5 (f := x) (n := F 0 0) (by omega) hn
      obtain ⟨t0, t1, t2, t3, t4⟩ := hT.2.2.2 x (by omega)
      rw [← hF 6 (by decide)] at t0 t1 t2 t3 t4
      obtain ⟨m1, e1, e2, e3, e4⟩ := ih (x + 1) n (mfill (mset (mset (mset (mset (mset m0 8 w x (m0 6 x 0)) 9 w x (m0 6 x 1)) 10 w x (m0 6 x 2)) 11 w x (m0 6 x 3)) 12 w x (m0 6 x 4)) 14 (5 * w + x) 0 5 0) (by omega) (by omega)
        ((((((hF.set (by decide) (by decide)).set (by decide) (by decide)).set (by decide) (by decide)).set (by decide) (by decide)).set (by decide) (by decide)).fill (by decide) (by decide))
        (by unfold StA at hA ⊢; simpa [mset, mfill] using hA)
        (fun f hf => by
          by_cases e : f = x
          · subst e
            refine ⟨by simp [mset, mfill, t0], by simp [mset, mfill, t1], by simp [mset, mfill, t2], by simp [mset, mfill, t3], by simp [mset, mfill, t4], fun g hg => by simp [mfill]; omega⟩
          · have := h f (by omega)
            unfold StF at this ⊢
            simpa [mset, mfill, e] using this)
      refine ⟨m1, ?_, e2, e3, e4⟩
      rw [← e1]
      simp [lpk_s, f_X0_start_b41, hA.1, hge, b1, b2, fill14, bnd, nI_succ]
  obtain ⟨m1, e1, e2, e3, e4⟩ := key (F 0 0) 0 fuelN (mset (mset (mset (mset (mset (mset m 7 w 8 (m 4 0 1)) 7 w 9 (m 4 0 2)) 7 w 10 (m 4 0 3)) 7 w 11 (0 : Int32)) 7 w 12 (0 : Int32)) 7 w 13 (0 : Int32)) (by omega) (by unfold fuelN; omega)
    ((((((XF.rf.set (by decide) (by decide)).set (by decide) (by decide)).set (by decide) (by decide)).set (by decide) (by decide)).set (by decide) (by decide)).set (by decide) (by decide))
    (by
      obtain ⟨u0, u1, u2, -⟩ := hT
      refine ⟨by simp [mset, u0], by simp [mset, u1], by simp [mset, u2], by simp [mset], by simp [mset], by simp [mset]⟩) (fun f hf => by omega)
  refine ⟨m1, e1, e2, ?_⟩
  obtain ⟨a0, a1, a2, a3, a4, a5⟩ := e3
  refine ⟨a0, a1, by rw [a2]; simp [startS], by rw [a3]; simp [startS, nI_0], by rw [a4]; simp [startS, nI_0], by rw [a5]; simp [startS, nI_0], fun f hf => ?_⟩
  obtain ⟨f0, f1, f2, f3, f4, f5⟩ := e4 f hf
  exact ⟨f0, f1, by rw [f2]; simp [startS, hf], f3, f4, fun g hg => by rw [f5 g hg]; simp [startS, o5, nI_0]⟩
/-! ===== had, dears, kinds ===== -/
theorem SC_xf {m m' : Mem} {k : Nat} {v : Option (Nat × Nat × (Nat → Int32))} (h : XF m m') (hS : SC m k v) : SC m' k v := by
  unfold SC at hS ⊢
  rw [h 2 (by decide), h 3 (by decide)]
  exact hS
theorem TC_xf {m m' : Mem} {F : FdT} (h : XF m m') (hT : TC m F) : TC m' F := TC_cong (h 4 (by decide)) (h 6 (by decide)) hT
/-! ===== a row told: refused, stuck, or walked ===== -/
def wv : FdT ⊕ Nat → Int32
  | .inl _ => -9
  | .inr p => nI p
def Wok (F : FdT) : FdT ⊕ Nat → Prop
  | .inl C => CB C 720
  | .inr p => p < 20
/-! ===== passes ===== -/
theorem wv_l {C : FdT} : wv (.inl C) = -9 := rfl
theorem m9' {p : Nat} (hp : p < 20) : ¬ nI p = -9 := by
  have : ∀ x, x < 20 → ¬ nI x = -9 := by decide
  exact this p hp
/-! ===== a row tried with one number otherwise ===== -/
def XRs (m : Mem) (F : FdT) (W : FdT ⊕ Nat) : Prop := ∀ C, W = .inl C → XR m 0 F C
theorem try_c {m : Mem} {k a q la len : Nat} {c : Nat → Int32} {F : FdT} {fs hs : Nat → Nat} (hX : XR m 0 F (startS F)) (hW : WC F) (hS : SC m k (some (la, len, c))) (hl : len ≤ 60) (hal : a + 2 * q ≤ len) (hR : Row F c a q fs hs) :
    ∃ m3, f_X0_walk 0 k (nI a) (nI q) m = some (wv (walkS F fs hs q 0 (startS F)), m3) ∧ XF m m3 ∧ ∀ C, walkS F fs hs q 0 (startS F) = .inl C → XR m3 0 F C := by
  have hwk := walk_c hX hW (CB_start hW (g := 0)) hS hl hal hR
  cases hw : walkS F fs hs q 0 (startS F) with
  | inl C =>
    rw [hw] at hwk
    obtain ⟨m3, w1, w2, w3⟩ := hwk
    exact ⟨m3, w1, w2, fun C' hC => by cases hC; exact w3⟩
  | inr p =>
    rw [hw] at hwk
    obtain ⟨m3, w1, w2⟩ := hwk
    exact ⟨m3, w1, w2, fun C' hC => by cases hC⟩
theorem wv_9 {F : FdT} {fs hs : Nat → Nat} {q : Nat} {C0 : FdT} (hq : q ≤ 20) : wv (walkS F fs hs q 0 C0) = -9 ↔ (walkS F fs hs q 0 C0).isLeft = true := by
  cases hw : walkS F fs hs q 0 C0 with
  | inl C => exact ⟨fun _ => rfl, fun _ => rfl⟩
  | inr p =>
    have := walkS_lt q 0 C0 p hw
    exact ⟨fun z => absurd z (m9' (by omega)), fun z => by cases z⟩
/-! the class: one number of a crossing begun -/
theorem Row.cg {F F' : FdT} {c : Nat → Int32} {a q : Nat} {fs hs : Nat → Nat} (h : Row F c a q fs hs) (e : F' 0 0 = F 0 0) : Row F' c a q fs hs := fun p hp => by rw [e]; exact h p hp
theorem XR_5 {m : Mem} {F : FdT} {f v : Nat} (h : XR m 0 F (startS F)) (hf : f < F 0 0) : XR (mset m 10 0 f (nI v)) 0 (fset F 5 f v) (startS (fset F 5 f v)) := by
  obtain ⟨q0, q1, q2, q3, q4, q5, q6⟩ := h
  refine ⟨by simpa [mset, fset] using q0, by simpa [mset, fset] using q1, by simpa [mset, fset, startS] using q2, by simpa [mset, fset, startS] using q3, by simpa [mset, fset, startS] using q4, by simpa [mset, fset, startS] using q5, fun x hx => ?_⟩
  have hx' : x < F 0 0 := hx
  obtain ⟨p1, p2, p3, p4, p5, p6⟩ := q6 x hx'
  refine ⟨by simpa [mset, fset] using p1, by simpa [mset, fset] using p2, ?_, by simpa [mset, fset] using p4, by simpa [mset, fset] using p5, fun g hg => by simpa [mset, fset, startS, o5] using p6 g hg⟩
  by_cases e : x = f
  · subst e; simp [mset, fset, startS, hx']
  · simpa [mset, fset, startS, hx', e] using p3
/-! what may be supposed stays within bounds -/
theorem WC_5 {F : FdT} (h : WC F) {f v : Nat} (hv : v ≤ 198) : WC (fset F 5 f v) := ⟨h.1, h.2.1, h.2.2.1, fun x hx => by
  obtain ⟨p1, p2, p3, p4, p5, p6⟩ := h.2.2.2 x hx
  refine ⟨p1, p2, p3, ?_, p5, p6⟩
  by_cases e : x = f
  · simp [fset, e, hv]
  · simpa [fset, e] using p4⟩
/-! ===== wants ===== -/
def firstS (P : Nat → Bool) : Nat → Nat → Int32
  | _, 0 => -9
  | v, k + 1 => if P v = true then nI v else firstS P (v + 1) k
theorem firstS_s {P : Nat → Bool} {v k : Nat} : firstS P v (k + 1) = if P v = true then nI v else firstS P (v + 1) k := rfl
def moreB (F : FdT) (fs hs : Nat → Nat) (q f : Nat) (v : Nat) : Bool := (walkS (fset F 5 f (F 5 f + v)) fs hs q 0 (startS (fset F 5 f (F 5 f + v)))).isLeft
theorem wants_c {m0 : Mem} {f k a q la len : Nat} {c : Nat → Int32} {F : FdT} {fs hs : Nat → Nat} (hf : f < F 0 0) (hk : k < 4) (hq : q ≤ 20) (hF : WF F) (hT : TC m0 F) (hS : SC m0 k (some (la, len, c))) (hl : len ≤ 60) (hal : a + 2 * q ≤ len) (hR : Row F c a q fs hs) :
    ∀ t v n m, v + t = 100 → t < n → XF m0 m → ∃ m', XF m0 m' ∧ lpk (f_X6_wants_b24 (nI f) (nI k) (nI a) (nI q)) n (nI v, m) (fun t24 => some ((-9 : Int32), t24)) = some (firstS (moreB F fs hs q f) v t, m') := by
  have hW := hF.wc
  obtain ⟨b1, b2⟩ := i5 hf hW.1
  have b3 : inB (nI k) 4 = true := inB_nI hk (by decide)
  have b4 : ix (nI k) = k := ix_nI (by omega)
  intro t
  induction t with
  | zero =>
    intro v n m hv hn hX
    obtain ⟨n, rfl⟩ : ∃ n', n = n' + 1 := ⟨n - 1, by omega⟩
    have e : v = 100 := by omega
    subst e
    refine ⟨m, hX, ?_⟩
    rw [lpk_s]
    unfold f_X6_wants_b24
    dsimp only
    rw [if_pos (by decide)]
    rfl
  | succ t ih =>
    intro v n m hv hn hX
    obtain ⟨n, rfl⟩ : ∃ n', n = n' + 1 := ⟨n - 1, by omega⟩
    obtain ⟨m2, s1, s2, s3⟩ := start_c 0 (TC_xf hX hT) hW
    have h99 := (hF.2.2.2 f hf).2.2.2.1
    have p3 : m2 10 0 f = nI (F 5 f) := by
      rw [(s3.2.2.2.2.2.2 f hf).2.2.1]
      simp [startS, hf]
    have s4 : XF m (mset m2 10 0 f (nI (F 5 f + v))) := s2.set (by decide) (by decide)
    obtain ⟨m3, w1, w2, -⟩ := try_c (XR_5 (v := F 5 f + v) s3 hf) (WC_5 hW (by omega)) (SC_xf s4 (SC_xf hX hS)) hl hal (hR.cg rfl)
    have hlt : ¬ (99 : Int32) < nI v := fun z => by have := (nI_ltI (a := 99) (by decide) (by omega)).mp z; omega
    have st : ∀ next exit, f_X6_wants_b24 (nI f) (nI k) (nI a) (nI q) next exit (nI v, m) = if wv (walkS (fset F 5 f (F 5 f + v)) fs hs q 0 (startS (fset F 5 f (F 5 f + v)))) = -9 then some (nI v, m3) else next (nI (v + 1), m3) := fun next exit => by
      unfold f_X6_wants_b24
      dsimp only
      rw [if_neg hlt, s1, bnd_some, if_pos b1, if_pos b1, if_pos b3, b2, b4, p3, nI_add, w1, bnd_some, nI_1]
    rw [lpk_s, st, firstS_s]
    by_cases z : moreB F fs hs q f v = true
    · exact ⟨m3, hX.tr (s4.tr w2), by rw [if_pos ((wv_9 hq).mpr z), if_pos z]⟩
    · obtain ⟨m', e1, e2⟩ := ih (v + 1) n m3 (by omega) (by omega) (hX.tr (s4.tr w2))
      exact ⟨m', e1, by rw [if_neg (fun y => z ((wv_9 hq).mp y)), if_neg z]; exact e2⟩
end
section
/-! ===== ford: which cell fits which place ===== -/
def dgB (lo hi x : Int32) : Bool := if x < 48 + lo then false else if 48 + hi < x then false else true
def fitc (i : Nat) (x : Int32) : Bool :=
  if i = 0 then x == 104 else if i = 1 then dgB 0 9 x else if 32 ≤ i then false
  else if (i - 2) % 6 = 0 then x == 59 else if (i - 2) % 6 = 1 then x == 102 || x == 101 || x == 112
  else if (i - 2) % 6 = 2 then dgB 1 9 x else if (i - 2) % 6 = 3 then dgB 0 9 x else if (i - 2) % 6 = 4 then dgB 0 6 x else dgB 0 5 x
theorem isDigit_c (x lo hi : Int32) (m : Mem) : f_X6_isDigit x lo hi m = some (if dgB lo hi x = true then 1 else 0, m) := by
  unfold f_X6_isDigit f_X6_isWithin dgB
  by_cases h1 : x < 48 + lo
  · simp [h1, bnd]
  · by_cases h2 : 48 + hi < x
    · simp [h1, h2, bnd]
    · simp [h1, h2, bnd]
theorem digit_w {x lo hi : Int32} {m : Mem} : bnd (f_X6_isDigit x lo hi m) (fun r m => if r = 0 ∨ r = 1 then some (r, m) else none) = some (if dgB lo hi x = true then (1 : Int32) else 0, m) := by
  rw [isDigit_c, bnd_some]
  cases dgB lo hi x <;> simp
theorem place_q : ∀ i, i < 32 → 2 ≤ i → (nI i - 2) - (nI i - 2) / 6 * 6 = nI ((i - 2) % 6) := by decide +kernel
theorem goesOn_c {i : Nat} (hi : i < 100) (x : Int32) (m : Mem) : f_X6_goesOn (nI i) x m = some (if fitc i x = true then 1 else 0, m) := by
  have e2 : ((2 : Int32) ≤ nI i) ↔ 2 ≤ i := nI_leI (a := 2) (by decide) (by omega)
  have e32 : (nI i < (32 : Int32)) ↔ i < 32 := nI_ltI (b := 32) (by omega) (by decide)
  have e0 : (nI i = 0) ↔ i = 0 := nI_z (by omega)
  have h6 : ¬ (6 : Int32) = 0 := by decide
  unfold f_X6_goesOn
  by_cases h2 : 2 ≤ i
  · rw [if_pos (e2.mpr h2)]
    by_cases h32 : i < 32
    · rw [if_pos (e32.mpr h32), if_pos h6, place_q i h32 h2]
      unfold dv
      have hr : (i - 2) % 6 < 6 := Nat.mod_lt _ (by decide)
      have g0 : ¬ i = 0 := by omega
      have g1 : ¬ i = 1 := by omega
      have g3 : ¬ 32 ≤ i := by omega
      unfold fitc
      rw [if_neg g0, if_neg g1, if_neg g3]
      generalize (i - 2) % 6 = r at hr
      have hc : r = 0 ∨ r = 1 ∨ r = 2 ∨ r = 3 ∨ r = 4 ∨ r = 5 := by omega
      rcases hc with rfl | rfl | rfl | rfl | rfl | rfl
      · simp only [eq_true (show nI 0 = (0 : Int32) by decide), if_true, if_false]
        by_cases z : x = 59 <;> simp [z]
      · simp only [eq_false (show ¬ nI 1 = (0 : Int32) by decide), eq_true (show nI 1 = (1 : Int32) by decide), eq_false (show ¬ 1 = 0 by decide), if_true, if_false]
        by_cases z1 : x = 102
        · simp [z1]
        by_cases z2 : x = 101
        · simp [z2]
        by_cases z3 : x = 112
        · simp [z3]
        · simp [z1, z2, z3]
      · simp only [eq_false (show ¬ nI 2 = (0 : Int32) by decide), eq_false (show ¬ nI 2 = (1 : Int32) by decide), eq_true (show nI 2 = (2 : Int32) by decide), eq_false (show ¬ 2 = 0 by decide), eq_false (show ¬ 2 = 1 by decide), if_true, if_false]
        exact digit_w
      · simp only [eq_false (show ¬ nI 3 = (0 : Int32) by decide), eq_false (show ¬ nI 3 = (1 : Int32) by decide), eq_false (show ¬ nI 3 = (2 : Int32) by decide), eq_true (show nI 3 = (3 : Int32) by decide), eq_false (show ¬ 3 = 0 by decide), eq_false (show ¬ 3 = 1 by decide), eq_false (show ¬ 3 = 2 by decide), if_true, if_false]
        exact digit_w
      · simp only [eq_false (show ¬ nI 4 = (0 : Int32) by decide), eq_false (show ¬ nI 4 = (1 : Int32) by decide), eq_false (show ¬ nI 4 = (2 : Int32) by decide), eq_false (show ¬ nI 4 = (3 : Int32) by decide), eq_true (show nI 4 = (4 : Int32) by decide), eq_false (show ¬ 4 = 0 by decide), eq_false (show ¬ 4 = 1 by decide), eq_false (show ¬ 4 = 2 by decide), eq_false (show ¬ 4 = 3 by decide), if_true, if_false]
        exact digit_w
      · simp only [eq_false (show ¬ nI 5 = (0 : Int32) by decide), eq_false (show ¬ nI 5 = (1 : Int32) by decide), eq_false (show ¬ nI 5 = (2 : Int32) by decide), eq_false (show ¬ nI 5 = (3 : Int32) by decide), eq_false (show ¬ nI 5 = (4 : Int32) by decide), eq_false (show ¬ 5 = 0 by decide), eq_false (show ¬ 5 = 1 by decide), eq_false (show ¬ 5 = 2 by decide), eq_false (show ¬ 5 = 3 by decide), eq_false (show ¬ 5 = 4 by decide), if_true, if_false]
        exact digit_w
    · rw [if_neg (fun z => h32 (e32.mp z))]
      have g0 : ¬ i = 0 := by omega
      have g1 : ¬ i = 1 := by omega
      unfold fitc
      rw [if_neg g0, if_neg g1, if_pos (show 32 ≤ i by omega), if_neg (by decide)]
  · rw [if_neg (fun z => h2 (e2.mp z))]
    unfold fitc
    by_cases h0 : i = 0
    · rw [if_pos (e0.mpr h0), if_pos h0]
      by_cases z : x = 104 <;> simp [z]
    · rw [if_neg (fun z => h0 (e0.mp z)), if_neg h0, if_pos (show i = 1 by omega)]
      exact digit_w
/-- the first i cells from a fit -/
def Okto (c : Nat → Int32) (a i : Nat) : Prop := ∀ j, j < i → fitc j (c (a + j)) = true
theorem ff_step {m : Mem} {k a n la len i : Nat} {c : Nat → Int32} (hS : SC m k (some (la, len, c))) (hl : len ≤ 60) (hal : a + n ≤ len) (hi : i < n) (K : Mem → Option (Int32 × Mem)) (nx : Int32 × Mem → Option (Int32 × Mem)) :
    f_X6_firstFault_b2 k (nI a) (nI n) nx K (nI i, m) = if fitc i (c (a + i)) = true then nx (nI (i + 1), m) else some (nI i, m) := by
  have hge : ¬ nI n ≤ nI i := nI_ge (by omega) (by omega)
  unfold f_X6_firstFault_b2
  dsimp only
  rw [if_neg hge, nI_add, at_c hS hl (by omega), bnd_some, goesOn_c (by omega), bnd_some, nI_1]
  by_cases z : fitc i (c (a + i)) = true
  · rw [if_pos z, if_pos z, if_neg (by decide)]
  · rw [if_neg z, if_neg z, if_pos rfl]
theorem ff_to {m : Mem} {k a n la len : Nat} {c : Nat → Int32} (hS : SC m k (some (la, len, c))) (hl : len ≤ 60) (hal : a + n ≤ len) (K : Mem → Option (Int32 × Mem)) {j : Nat} (hj : j ≤ n) (hO : Okto c a j) :
    ∀ t p r, p + t = j → lpk (f_X6_firstFault_b2 k (nI a) (nI n)) (r + t) (nI p, m) K = lpk (f_X6_firstFault_b2 k (nI a) (nI n)) r (nI j, m) K
  | 0, p, r, h => by rw [show p = j by omega]; rfl
  | t + 1, p, r, h => by
    rw [show r + (t + 1) = (r + t) + 1 by omega, lpk_s, ff_step hS hl hal (by omega), if_pos (hO p (by omega))]
    exact ff_to hS hl hal K hj hO t (p + 1) r (by omega)
theorem ff_bad {m : Mem} {k a n la len j : Nat} {c : Nat → Int32} (hS : SC m k (some (la, len, c))) (hl : len ≤ 60) (hal : a + n ≤ len) (hj : j < n) (hO : Okto c a j) (hb : ¬ fitc j (c (a + j)) = true) : f_X6_firstFault k (nI a) (nI n) m = some (nI j, m) := by
  unfold f_X6_firstFault
  have e : fuelN = ((fuelN - j - 1) + 1) + j := by unfold fuelN; omega
  rw [e, show ((0 : Int32), m) = (nI 0, m) from rfl, ff_to hS hl hal _ (by omega) hO j 0 _ (by omega), lpk_s, ff_step hS hl hal hj, if_neg hb]
theorem ff_len : ∀ n, n < 61 → 8 ≤ n → (nI n - 2) - (nI n - 2) / 6 * 6 = nI ((n - 2) % 6) := by decide +kernel
theorem ff_end {m : Mem} {k a n la len : Nat} {c : Nat → Int32} (hS : SC m k (some (la, len, c))) (hl : len ≤ 60) (hal : a + n ≤ len) (hO : Okto c a n) : f_X6_firstFault k (nI a) (nI n) m = some (if 8 ≤ n ∧ (n - 2) % 6 = 0 then -9 else nI n, m) := by
  have hle : nI n ≤ nI n := nI_le (Nat.le_refl _) (by omega)
  have e8 : (nI n < (8 : Int32)) ↔ n < 8 := nI_ltI (b := 8) (by omega) (by decide)
  have h6 : ¬ (6 : Int32) = 0 := by decide
  have st : ∀ nx K, f_X6_firstFault_b2 k (nI a) (nI n) nx K (nI n, m) = K m := fun nx K => by
    unfold f_X6_firstFault_b2
    dsimp only
    rw [if_pos hle]
  unfold f_X6_firstFault
  have e : fuelN = ((fuelN - n - 1) + 1) + n := by unfold fuelN; omega
  rw [e, show ((0 : Int32), m) = (nI 0, m) from rfl, ff_to hS hl hal _ (Nat.le_refl _) hO n 0 _ (by omega), lpk_s, st]
  by_cases h8 : n < 8
  · rw [if_pos (e8.mpr h8), if_neg (fun z => by omega)]
    simp [f_X6_firstFault_j48, f_X6_firstFault_j49]
  · rw [if_neg (fun z => h8 (e8.mp z)), if_pos h6, ff_len n (by omega) (by omega)]
    unfold dv
    dsimp only
    have hr : (n - 2) % 6 < 6 := Nat.mod_lt _ (by decide)
    have ez : (nI ((n - 2) % 6) = 0) ↔ (n - 2) % 6 = 0 := nI_z (by omega)
    by_cases z : (n - 2) % 6 = 0
    · rw [if_pos (ez.mpr z), if_pos ⟨by omega, z⟩]
      simp [f_X6_firstFault_j49]
    · rw [if_neg (fun y => z (ez.mp y)), if_neg (fun y => z y.2)]
      simp [f_X6_firstFault_j48, f_X6_firstFault_j49]
/-! ===== ford: the ford that the cells say ===== -/
def kindc (x : Int32) : Nat := if x = 112 then 2 else if x = 101 then 1 else 0
def dg (x : Int32) : Nat := ix (x - 48)
/-- how many fish, how dear, nothing known; of fish j: its five cells -/
def fordF (c : Nat → Int32) (a N : Nat) : FdT := fun i j => if i = 0 then N else if i = 1 then dg (c (a + 1)) else if i = 2 then 0 else if i = 3 then kindc (c (a + (3 + 6 * j))) else dg (c (a + (i + 6 * j)))
theorem dg_at {x : Int32} {l h : Nat} (hh : h ≤ 9) (hl : l ≤ 9) (hx : dgB (nI l) (nI h) x = true) : x - 48 = nI (dg x) ∧ l ≤ dg x ∧ dg x ≤ h ∧ x = nI (48 + dg x) := by
  have e1 : (48 : Int32) + nI l = nI (48 + l) := nI_add 48 l
  have e2 : (48 : Int32) + nI h = nI (48 + h) := nI_add 48 h
  unfold dgB at hx
  rw [e1, e2] at hx
  by_cases h1 : x < nI (48 + l)
  · rw [if_pos h1] at hx; cases hx
  rw [if_neg h1] at hx
  by_cases h2 : nI (48 + h) < x
  · rw [if_pos h2] at hx; cases hx
  have h0 : ¬ x < 0 := fun q => by
    have g := nI_pos (show 48 + l < 2 ^ 31 by omega)
    rw [Int32.lt_iff_toInt_lt] at q h1 g
    omega
  obtain ⟨k, hk, rfl⟩ := nI_rng (b := nI (48 + h)) rfl (by omega) h0 h2
  have hk1 : 48 + l ≤ k := by
    by_cases q : 48 + l ≤ k
    · exact q
    · exact absurd ((nI_ltI (by omega) (by omega)).mpr (by omega)) h1
  have e3 : nI k - 48 = nI (k - 48) := pk_sub (b := 48) (by omega)
  have e4 : dg (nI k) = k - 48 := by
    unfold dg
    rw [e3, ix_nI (by omega)]
  rw [e4, e3]
  exact ⟨rfl, by omega, by omega, by rw [show 48 + (k - 48) = k by omega]⟩
theorem fit_0 {x : Int32} (h : fitc 0 x = true) : x = 104 := by simpa [fitc] using h
theorem fit_1 {x : Int32} (h : fitc 1 x = true) : dgB (nI 0) (nI 9) x = true := by
  have h' : dgB 0 9 x = true := by simpa [fitc] using h
  exact h'
theorem fit_k {f : Nat} {x : Int32} (hf : f < 5) (h : fitc (3 + 6 * f) x = true) : x = 102 ∨ x = 101 ∨ x = 112 := by
  unfold fitc at h
  rw [if_neg (by omega), if_neg (by omega), if_neg (by omega), if_neg (by omega), if_pos (by omega)] at h
  simpa [or_assoc] using h
theorem fit_4 {f : Nat} {x : Int32} (hf : f < 5) (h : fitc (4 + 6 * f) x = true) : dgB (nI 1) (nI 9) x = true := by
  unfold fitc at h
  rw [if_neg (by omega), if_neg (by omega), if_neg (by omega), if_neg (by omega), if_neg (by omega), if_pos (by omega)] at h
  exact h
theorem fit_5 {f : Nat} {x : Int32} (hf : f < 5) (h : fitc (5 + 6 * f) x = true) : dgB (nI 0) (nI 9) x = true := by
  unfold fitc at h
  rw [if_neg (by omega), if_neg (by omega), if_neg (by omega), if_neg (by omega), if_neg (by omega), if_neg (by omega), if_pos (by omega)] at h
  exact h
theorem fit_6 {f : Nat} {x : Int32} (hf : f < 5) (h : fitc (6 + 6 * f) x = true) : dgB (nI 0) (nI 6) x = true := by
  unfold fitc at h
  rw [if_neg (by omega), if_neg (by omega), if_neg (by omega), if_neg (by omega), if_neg (by omega), if_neg (by omega), if_neg (by omega), if_pos (by omega)] at h
  exact h
theorem fit_7 {f : Nat} {x : Int32} (hf : f < 5) (h : fitc (7 + 6 * f) x = true) : dgB (nI 0) (nI 5) x = true := by
  unfold fitc at h
  rw [if_neg (by omega), if_neg (by omega), if_neg (by omega), if_neg (by omega), if_neg (by omega), if_neg (by omega), if_neg (by omega), if_neg (by omega)] at h
  exact h
theorem kindc_le (x : Int32) : kindc x ≤ 2 := by unfold kindc; split <;> (try split) <;> omega
theorem fordF_WF {c : Nat → Int32} {a N : Nat} (hN : N ≤ 5) (hN1 : 1 ≤ N) (hO : Okto c a (2 + 6 * N)) : WF (fordF c a N) := by
  refine ⟨by simpa [fordF] using hN, ?_, by simp [fordF], fun f hf => ?_⟩
  · have := (dg_at (by decide) (by decide) (fit_1 (hO 1 (by omega)))).2.2.1
    simpa [fordF] using this
  · have hf' : f < N := hf
    have h4 := dg_at (by decide) (by decide) (fit_4 (by omega) (hO (4 + 6 * f) (by omega)))
    have h5 := dg_at (by decide) (by decide) (fit_5 (by omega) (hO (5 + 6 * f) (by omega)))
    have h6 := dg_at (by decide) (by decide) (fit_6 (by omega) (hO (6 + 6 * f) (by omega)))
    have h7 := dg_at (by decide) (by decide) (fit_7 (by omega) (hO (7 + 6 * f) (by omega)))
    have h3 := kindc_le (c (a + (3 + 6 * f)))
    refine ⟨by simpa [fordF] using h3, by simpa [fordF] using h4.2.1, by simpa [fordF] using h4.2.2.1, ?_, by simpa [fordF] using h6.2.2.1, by simpa [fordF] using h7.2.2.1⟩
    have := h5.2.2.1
    simp [fordF]
    omega
theorem kind_c (x : Int32) (m : Mem) : f_X6_kindOf x m = some (nI (kindc x), m) := by
  unfold f_X6_kindOf kindc
  by_cases h1 : x = 112
  · simp [h1, nI_2']
  by_cases h2 : x = 101
  · simp [h2, nI_1']
  · simp [h1, h2, nI_0]
/-- one fish taken from its cells -/
theorem take1 {m : Mem} {k a la len f : Nat} {c : Nat → Int32} (hS : SC m k (some (la, len, c))) (hl : len ≤ 60) (hal : a + (8 + 6 * f) ≤ len) : f_X1_take f k (nI (a + (2 + 6 * f))) m =
    some ((), mset (mset (mset (mset (mset m 6 f 0 (nI (kindc (c (a + (3 + 6 * f)))))) 6 f 1 (c (a + (4 + 6 * f)) - 48)) 6 f 2 (c (a + (5 + 6 * f)) - 48)) 6 f 3 (c (a + (6 + 6 * f)) - 48)) 6 f 4 (c (a + (7 + 6 * f)) - 48)) := by
  have at' : ∀ (m1 : Mem) (d : Nat) (x : Int32), x = nI d → m1 2 = m 2 → m1 3 = m 3 → d < 6 → f_X4_at k (nI (a + (2 + 6 * f)) + x) m1 = some (c (a + (d + 2 + 6 * f)), m1) := fun m1 d x hx h2 h3 hd => by
    have hS1 : SC m1 k (some (la, len, c)) := by
      unfold SC at hS ⊢
      rw [h2, h3]
      exact hS
    rw [hx, nI_add, show a + (2 + 6 * f) + d = a + (d + 2 + 6 * f) by omega]
    exact at_c hS1 hl (by omega)
  unfold f_X1_take
  rw [at' m 1 1 rfl rfl rfl (by decide), bnd_some, kind_c, bnd_some, at' _ 2 2 rfl (mset_ne (by decide)) (mset_ne (by decide)) (by decide), bnd_some,
    at' _ 3 3 rfl (by rw [mset_ne (by decide), mset_ne (by decide)]) (by rw [mset_ne (by decide), mset_ne (by decide)]) (by decide), bnd_some,
    at' _ 4 4 rfl (by rw [mset_ne (by decide), mset_ne (by decide), mset_ne (by decide)]) (by rw [mset_ne (by decide), mset_ne (by decide), mset_ne (by decide)]) (by decide), bnd_some,
    at' _ 5 5 rfl (by rw [mset_ne (by decide), mset_ne (by decide), mset_ne (by decide), mset_ne (by decide)]) (by rw [mset_ne (by decide), mset_ne (by decide), mset_ne (by decide), mset_ne (by decide)]) (by decide), bnd_some]
def TF (m m' : Mem) : Prop := ∀ t, t ≠ 4 → t ≠ 6 → m' t = m t
def TkF (m : Mem) (F : FdT) (f : Nat) : Prop := m 6 f 0 = nI (F 3 f) ∧ m 6 f 1 = nI (F 4 f) ∧ m 6 f 2 = nI (F 5 f) ∧ m 6 f 3 = nI (F 6 f) ∧ m 6 f 4 = nI (F 7 f)
theorem take_c {m : Mem} {k a la len N : Nat} {c : Nat → Int32} (hS : SC m k (some (la, len, c))) (hl : len ≤ 60) (hal : a + (2 + 6 * N) ≤ len) (hN : N ≤ 5) (hN1 : 1 ≤ N) (hO : Okto c a (2 + 6 * N)) :
    ∃ m', f_X5_take k (nI a) (nI (2 + 6 * N)) m = some ((), m') ∧ TF m m' ∧ TC m' (fordF c a N) := by
  have hSx : ∀ m', TF m m' → SC m' k (some (la, len, c)) := fun m' h => by
    unfold SC at hS ⊢
    rw [h 2 (by decide) (by decide), h 3 (by decide) (by decide)]
    exact hS
  have key : ∀ (t f n : Nat) (m0 : Mem), f + t = N → t < n → TF m m0 → (∀ j, m0 4 0 1 = nI N ∧ m0 4 0 2 = nI (fordF c a N 1 j) ∧ m0 4 0 3 = 0) → (∀ x, x < f → TkF m0 (fordF c a N) x) → ∃ m1, lpk (f_X5_take_b36 k (nI a)) n (nI f, m0) (fun t36 => some ((), t36)) = some ((), m1) ∧ TF m m1 ∧ (∀ j, m1 4 0 1 = nI N ∧ m1 4 0 2 = nI (fordF c a N 1 j) ∧ m1 4 0 3 = 0) ∧ ∀ x, x < N → TkF m1 (fordF c a N) x := by
    intro t
    induction t with
    | zero =>
      intro f n m0 hf hn hF h4 h
      obtain ⟨n, rfl⟩ : ∃ n', n = n' + 1 := ⟨n - 1, by omega⟩
      have e : f = N := by omega
      subst e
      refine ⟨m0, ?_, hF, h4, h⟩
      have hle : nI f ≤ nI f := nI_le (Nat.le_refl _) (by omega)
      simp [lpk_s, f_X5_take_b36, (h4 0).1, hle]
    | succ t ih =>
      intro f n m0 hf hn hF h4 h
      obtain ⟨n, rfl⟩ : ∃ n', n = n' + 1 := ⟨n - 1, by omega⟩
      have hge : ¬ nI N ≤ nI f := nI_ge (by omega) (by omega)
      obtain ⟨b1, b2⟩ := i5 (f := f) (n := N) (by omega) hN
      have ei : nI a + 2 + nI f * 6 = nI (a + (2 + 6 * f)) := by
        rw [show nI a + 2 = nI (a + 2) from nI_add a 2, show nI f * 6 = nI (f * 6) from pk_mul f 6, nI_add, show a + 2 + f * 6 = a + (2 + 6 * f) by omega]
      have h4' := (dg_at (by decide) (by decide) (fit_4 (f := f) (by omega) (hO (4 + 6 * f) (by omega)))).1
      have h5' := (dg_at (by decide) (by decide) (fit_5 (f := f) (by omega) (hO (5 + 6 * f) (by omega)))).1
      have h6' := (dg_at (by decide) (by decide) (fit_6 (f := f) (by omega) (hO (6 + 6 * f) (by omega)))).1
      have h7' := (dg_at (by decide) (by decide) (fit_7 (f := f) (by omega) (hO (7 + 6 * f) (by omega)))).1
      have tk := take1 (a := a) (f := f) (hSx m0 hF) hl (by omega)
      rw [h4', h5', h6', h7'] at tk
      obtain ⟨m1, e1, e2, e3, e4⟩ := ih (f + 1) n (mset (mset (mset (mset (mset m0 6 f 0 (nI (kindc (c (a + (3 + 6 * f)))))) 6 f 1 (nI (dg (c (a + (4 + 6 * f)))))) 6 f 2 (nI (dg (c (a + (5 + 6 * f)))))) 6 f 3 (nI (dg (c (a + (6 + 6 * f)))))) 6 f 4 (nI (dg (c (a + (7 + 6 * f)))))) (by omega) (by omega)
        (fun t h1 h2 => by rw [mset_ne h2, mset_ne h2, mset_ne h2, mset_ne h2, mset_ne h2, hF t h1 h2])
        (fun j => by simpa [mset] using h4 j)
        (fun x hx => by
          by_cases e : x = f
          · subst e
            exact ⟨by simp [mset, fordF], by simp [mset, fordF], by simp [mset, fordF], by simp [mset, fordF], by simp [mset, fordF]⟩
          · have := h x (by omega)
            unfold TkF at this ⊢
            simpa [mset, e] using this)
      refine ⟨m1, ?_, e2, e3, e4⟩
      rw [← e1, lpk_s]
      have st : ∀ nx, f_X5_take_b36 k (nI a) nx (fun t36 => some ((), t36)) (nI f, m0) = nx (nI (f + 1), mset (mset (mset (mset (mset m0 6 f 0 (nI (kindc (c (a + (3 + 6 * f)))))) 6 f 1 (nI (dg (c (a + (4 + 6 * f)))))) 6 f 2 (nI (dg (c (a + (5 + 6 * f)))))) 6 f 3 (nI (dg (c (a + (6 + 6 * f)))))) 6 f 4 (nI (dg (c (a + (7 + 6 * f)))))) := fun nx => by
        unfold f_X5_take_b36
        dsimp only
        have hge' : ¬ m0 4 0 1 ≤ nI f := by rw [(h4 0).1]; exact hge
        rw [if_neg hge', if_pos b1, b2, ei, tk, bnd_some, nI_1]
      rw [st]
  have a1 : f_X4_at k (nI a + 1) m = some (c (a + 1), m) := by rw [nI_1]; exact at_c hS hl (by omega)
  have hd := (dg_at (by decide) (by decide) (fit_1 (hO 1 (by omega)))).1
  have h6 : ¬ (6 : Int32) = 0 := by decide
  have eq : (nI (2 + 6 * N) - 2) / 6 = nI N := by
    rw [show nI (2 + 6 * N) - 2 = nI (2 + 6 * N - 2) from pk_sub (b := 2) (by omega)]
    rw [show nI (2 + 6 * N - 2) / 6 = nI ((2 + 6 * N - 2) / 6) from pk_div (d := 6) (by omega) (by decide) (by decide)]
    rw [show (2 + 6 * N - 2) / 6 = N by omega]
  have h5n : ¬ (5 : Int32) < nI N := fun z => by have := (nI_ltI (a := 5) (by decide) (by omega)).mp z; omega
  obtain ⟨m1, e1, e2, e3, e4⟩ := key N 0 fuelN (mset (mset (mset m 4 0 2 (nI (dg (c (a + 1))))) 4 0 3 0) 4 0 1 (nI N)) (by omega) (by unfold fuelN; omega)
    (fun t h1 h2 => by rw [mset_ne h1, mset_ne h1, mset_ne h1]) (fun j => by simp [mset, fordF]) (fun x hx => by omega)
  refine ⟨m1, ?_, e2, (e3 0).1, (e3 0).2.1, ?_, fun f hf => e4 f hf⟩
  · unfold f_X5_take
    rw [a1, bnd_some, if_pos h6, eq, hd]
    unfold dv
    dsimp only
    rw [if_neg h5n]
    exact e1
  · rw [(e3 0).2.2]; rfl
end
section
/-! ===== constructors: rows over a world that grows ===== -/
/-- what the tables say of arrays of arrays of ints -/
def va_AI (U : State) : Prop := (Cond.arrayOver (.array .int)).before #[] U = true
theorem va_AI.moved {u U : State} (hvm : u.vm.Alike U.vm) (h : va_AI u) : va_AI U := by
  obtain ⟨comp, c, k, h1, h2, h3, h4, h5⟩ := arrayOverA_spec h
  obtain ⟨k', hk', he⟩ := hvm.2.2 _ _ h3
  have hi : (U.vm.classes.findIdx? fun (x : Class) => match x.kind with | .array component _ => component == comp | _ => false) = some c := by
    rw [hvm.findIdx?_eq _ (fun _ => rfl)]
    exact h2
  have hkind : k'.kind = .array comp (.array .int) := by rw [he]; exact h4
  have f1 : U.vm.findClass (FieldType.array .int).toString = some comp := by rw [hvm.findClass]; exact h1
  have f2 : U.vm.findClass ("[" ++ (FieldType.array .int).toString) = some c := by rw [hvm.findClass]; exact h5
  unfold va_AI Cond.before Cond.holds
  simp only [Cond.value]
  rw [f1, Option.bind_some]
  refine (congrArg (fun o : Option Nat => (o.bind (fun c => (U.vm.classes[c]?).map fun (k : Class) => match k.kind with | .array _ ty => decide (ty = FieldType.array .int) && decide (U.vm.findClass ("[" ++ (FieldType.array .int).toString) = some c) | _ => false) == some true)) hi).trans ?_
  simp [hk', hkind, f2]
/-- what a state knows of the classes -/
def KU (dC : Nat → ClassId) (dI : Nat → Nat → Nat) (cs : Nat → ClassId) (U : State) : Prop := va_K (dC, dI) vwCl (tysM cs) U ∧ (va_AO RX4 U ∧ va_AO RX1 U ∧ va_AI U) ∧ ∀ w ∈ nestC, va_Nw w U
theorem KU.warm {dC : Nat → ClassId} {dI : Nat → Nat → Nat} {cs : Nat → ClassId} {s U : State} (hW : s.WarmedH U.vm) (h : KU dC dI cs s) : KU dC dI cs U := by
  refine ⟨va_K.moved hW.alike h.1, ⟨va_AO.moved hW.alike h.2.1.1, va_AO.moved hW.alike h.2.1.2.1, va_AI.moved hW.alike h.2.1.2.2⟩, fun w hw => ?_⟩
  obtain ⟨-, a, i, b, hh, rfl⟩ := nest_on hw
  exact va_Nw.warmM hW (h.2.2 _ hw)
theorem KU.call {dC : Nat → ClassId} {dI : Nat → Nat → Nat} {cs : Nat → ClassId} {U : State} {g : JFrame} {mk : MethodId} {a : Array Value} (h : KU dC dI cs U) : KU dC dI cs (U.calling g mk a) := by
  refine ⟨va_K.moved (u := U) (U := U.calling g mk a) (Vm.Alike.refl U.vm) h.1, ⟨va_AO.moved (u := U) (U := U.calling g mk a) (Vm.Alike.refl U.vm) h.2.1.1, va_AO.moved (u := U) (U := U.calling g mk a) (Vm.Alike.refl U.vm) h.2.1.2.1, va_AI.moved (u := U) (U := U.calling g mk a) (Vm.Alike.refl U.vm) h.2.1.2.2⟩, fun w hw => ?_⟩
  exact va_Nw.same (u := U) (U := U.calling g mk a) (nest_on hw).1 rfl (h.2.2 w hw)
def KC (X : XT) (cc : ByteArray) (own : String) : Prop := (xp X).tables.exec = Jvm.exec ∧ (xc X).code = cc ∧ (xc X).maxLocals = xn X ∧ (xs X).vm.findClass own = some (xm X).cls ∧ (∀ w ∈ wsC, w.before (xa X) (xs X) = true) ∧ KU (xC X) (xI X) (xk X) (xs X) ∧ (xM X).locks = false
/-- the machine, come to pc with these locals, this stack, this world, n cells and k slots used, ends in Q -/
def KG (X : XT) (A : Nat → Prop) (Q : State → Prop) (pc : Nat) (ls : List (Nat × Value)) (st : List Value) (ws : va_W) (n k : Nat) : Prop :=
  ∀ (H : Heap) (locs : List Loc) (lsa : Array Slot), va_P (xC X, xI X) vwCl ws H → va_D A ws → va_S A (xs X).heap H locs → lv_has lsa (xn X) ls →
    W (xp X) (xl X) (xe X) (xR X) (xs X) (xm X) (xa X) (xb X) (xM X) (xc X) H locs n k Q (F0 (xm X) pc lsa st)
section KROWS
variable {X : XT} {cc : ByteArray} {own : String} {A : Nat → Prop} {Q : State → Prop} {pc : Nat} {ls ls' : List (Nat × Value)} {st : List Value} {ws ws' : va_W} {n k : Nat}
theorem kg_aload (h : KC X cc own) {j : Fin 4} {x i : Nat} (hd : decode cc pc = .ok (.aload_n j, 1)) (hl : ls[i]? = some ((j : Nat), .ref x)) (kk : KG X A Q (pc + 1) ls (.ref x :: st) ws n k) : KG X A Q pc ls st ws n k :=
  fun H locs lsa hP hD hS hL => lv_aload_n h.1 h.2.1 hd rfl (lv_at hL i hl) (kk H locs lsa hP hD hS hL)
theorem kg_iload (h : KC X cc own) {j : Fin 4} {x : Int32} {i : Nat} (hd : decode cc pc = .ok (.iload_n j, 1)) (hl : ls[i]? = some ((j : Nat), .int x)) (kk : KG X A Q (pc + 1) ls (.int x :: st) ws n k) : KG X A Q pc ls st ws n k :=
  fun H locs lsa hP hD hS hL => lv_iload_n h.1 h.2.1 hd rfl (lv_at hL i hl) (kk H locs lsa hP hD hS hL)
theorem kg_iconst (h : KC X cc own) {z : Int} (v : Int32) (hd : decode cc pc = .ok (.iconst z, 1)) (hv : Int32.ofInt z = v) (kk : KG X A Q (pc + 1) ls (.int v :: st) ws n k) : KG X A Q pc ls st ws n k :=
  fun H locs lsa hP hD hS hL => lv_iconst h.1 h.2.1 hd hv (kk H locs lsa hP hD hS hL)
theorem kg_bipush (h : KC X cc own) {z : Int} (v : Int32) (hd : decode cc pc = .ok (.bipush z, 2)) (hv : (Int8.ofInt z).toInt32 = v) (kk : KG X A Q (pc + 2) ls (.int v :: st) ws n k) : KG X A Q pc ls st ws n k :=
  fun H locs lsa hP hD hS hL => lv_bipush h.1 h.2.1 hd hv (kk H locs lsa hP hD hS hL)
theorem kg_sipush (h : KC X cc own) {z : Int} (v : Int32) (hd : decode cc pc = .ok (.sipush z, 3)) (hv : (Int16.ofInt z).toInt32 = v) (kk : KG X A Q (pc + 3) ls (.int v :: st) ws n k) : KG X A Q pc ls st ws n k :=
  fun H locs lsa hP hD hS hL => lv_sipush h.1 h.2.1 hd hv (kk H locs lsa hP hD hS hL)
theorem kg_ldc (h : KC X cc own) {index : Nat} (v : Int32) (hd : decode cc pc = .ok (.ldc index, 2)) (hw : Cond.constant own index v ∈ wsC) (kk : KG X A Q (pc + 2) ls (.int v :: st) ws n k) : KG X A Q pc ls st ws n k :=
  fun H locs lsa hP hD hS hL => lv_ldc h.1 h.2.1 h.2.2.2.1 (h.2.2.2.2.1 _ hw) hd (kk H locs lsa hP hD hS hL)
theorem kg_dup (h : KC X cc own) {v : Value} (hd : decode cc pc = .ok (.dup, 1)) (hv : v.category = 1) (kk : KG X A Q (pc + 1) ls (v :: v :: st) ws n k) : KG X A Q pc ls (v :: st) ws n k :=
  fun H locs lsa hP hD hS hL => lv_dup h.1 h.2.1 hd hv (kk H locs lsa hP hD hS hL)
theorem kg_istore (h : KC X cc own) {j : Fin 4} {x : Int32} (hd : decode cc pc = .ok (.istore_n j, 1)) (hn : (j : Nat) < xn X) (hl : ((j : Nat), Value.int x) :: ls.filter (fun q => !(q.1 == (j : Nat)) && !(q.1 + 1 == (j : Nat) && q.2.category == 2)) = ls') (kk : KG X A Q (pc + 1) ls' st ws n k) : KG X A Q pc ls (.int x :: st) ws n k :=
  fun H locs lsa hP hD hS hL => lv_istore_n h.1 h.2.1 hd rfl hL hn hl (fun l2 hL2 => kk H locs l2 hP hD hS hL2)
theorem kg_astore (h : KC X cc own) {j : Fin 4} {x : Nat} (hd : decode cc pc = .ok (.astore_n j, 1)) (hn : (j : Nat) < xn X) (hl : ((j : Nat), Value.ref x) :: ls.filter (fun q => !(q.1 == (j : Nat)) && !(q.1 + 1 == (j : Nat) && q.2.category == 2)) = ls') (kk : KG X A Q (pc + 1) ls' st ws n k) : KG X A Q pc ls (.ref x :: st) ws n k :=
  fun H locs lsa hP hD hS hL => lv_astore_n h.1 h.2.1 hd rfl hL hn hl (fun l2 hL2 => kk H locs l2 hP hD hS hL2)
theorem kg_iinc (h : KC X cc own) {i q : Nat} {z : Int} {x v : Int32} (hd : decode cc pc = .ok (.iinc i z, 3)) (hk : ls[q]? = some (i, .int x)) (hv : x + Int32.ofInt z = v) (hn : i < xn X) (hl : (i, Value.int v) :: ls.filter (fun q => !(q.1 == i) && !(q.1 + 1 == i && q.2.category == 2)) = ls') (kk : KG X A Q (pc + 3) ls' st ws n k) : KG X A Q pc ls st ws n k :=
  fun H locs lsa hP hD hS hL => lv_iinc h.1 h.2.1 hd hL hk hv hn hl (fun l2 hL2 => kk H locs l2 hP hD hS hL2)
theorem kg_goto (h : KC X cc own) {off : Int} (tgt : Nat) (hd : decode cc pc = .ok (.goto off, 3)) (ht : (pc : Int) + off = (tgt : Int)) (kk : KG X A Q tgt ls st ws n k) : KG X A Q pc ls st ws n k :=
  fun H locs lsa hP hD hS hL => lv_goto h.1 h.2.1 hd ht (kk H locs lsa hP hD hS hL)
theorem kg_geT (h : KC X cc own) {off : Int} {x y : Int32} (tgt : Nat) (hd : decode cc pc = .ok (.if_icmp .ge off, 3)) (ht : (pc : Int) + off = (tgt : Int)) (hc : y ≤ x) (kk : KG X A Q tgt ls st ws n k) : KG X A Q pc ls (.int y :: .int x :: st) ws n k :=
  fun H locs lsa hP hD hS hL => lv_icmp_ge h.1 h.2.1 hd ht (fun _ => kk H locs lsa hP hD hS hL) (fun q => absurd hc q)
theorem kg_geF (h : KC X cc own) {off : Int} {x y : Int32} (tgt : Nat) (hd : decode cc pc = .ok (.if_icmp .ge off, 3)) (ht : (pc : Int) + off = (tgt : Int)) (hc : ¬ y ≤ x) (kk : KG X A Q (pc + 3) ls st ws n k) : KG X A Q pc ls (.int y :: .int x :: st) ws n k :=
  fun H locs lsa hP hD hS hL => lv_icmp_ge h.1 h.2.1 hd ht (fun q => absurd q hc) (fun _ => kk H locs lsa hP hD hS hL)
theorem kg_obj (h : KC X cc own) {index a : Nat} (hd : decode cc pc = .ok (.invokespecial index, 3)) (w1 : Cond.methodLink own index objectInit ∈ wsC) (w2 : Cond.instanceMethod objectInit ∈ wsC) (w3 : Cond.code objectInit ⟨#[0xb1]⟩ 1 none ∈ wsC) (hR : 1 ≤ (xR X).frames ∧ 12 ≤ (xR X).locals) (kk : KG X A Q (pc + 3) ls [] ws n k) : KG X A Q pc ls [.ref a] ws n k :=
  fun H locs lsa hP hD hS hL => W.objInit h.1 h.2.1 h.2.2.2.1 (h.2.2.2.2.1 _ w1) (h.2.2.2.2.1 _ w2) (h.2.2.2.2.1 _ w3) rfl (hL.1.trans h.2.2.1.symm) rfl hd hR.1 (by simpa using hR.2) (kk H locs lsa hP hD hS hL)
theorem kg_new (h : KC X cc own) (hA : ∀ q, (xs X).heap.size ≤ q → A q) {index ci : Nat} {C : String} {T : u_T} {N : Nat} {fs : List Value} (hcz : vwCl[ci]? = some (C, T, N)) (hd : decode cc pc = .ok (.new index, 3)) (w1 : Cond.classLink own index C ∈ wsC) (w2 : Cond.instantiable C N ∈ wsC) (w3 : Cond.initialized C ∈ wsC) (hfs : ∀ j, j < N → defaultValue (tyK ci j) = vp_V fs j) (hn : n + 1 ≤ (xR X).cells ∧ k + N ≤ (xR X).slots)
    (kk : ∀ q, KG X A Q (pc + 3) ls (.ref q :: st) (ws ++ [(q, .inr (ci, fs))]) (n + 1) (k + N)) : KG X A Q pc ls st ws n k :=
  fun H locs lsa hP hD hS hL => va_new h.1 h.2.1 h.2.2.2.2.1 (u_all ci _ hcz) (tyK ci) (ty_all ci _ hcz) h.2.2.2.1 (h.2.2.2.2.1 _ w1) (h.2.2.2.2.1 _ w2) (h.2.2.2.2.1 _ w3) h.2.2.2.2.2.1.1 hP hD hS hA hcz hfs hn.1 hn.2 hd (fun q H1 hP1 hD1 hS1 => kk q H1 locs lsa hP1 hD1 hS1 hL)
/-- a new row of ints -/
theorem kg_newa (h : KC X cc own) (hA : ∀ q, (xs X).heap.size ≤ q → A q) {x : Int32} (N : Nat) (hx : x.toNatClampNeg = N) (h0 : ¬ x < 0) (h9 : N ≤ 1000) (hd : decode cc pc = .ok (.newarray .int, 2)) (w1 : Cond.arrayClass .int ∈ wsC) (hn : n + 1 ≤ (xR X).cells ∧ k + N ≤ (xR X).slots)
    (kk : ∀ q, KG X A Q (pc + 2) ls (.ref q :: st) (ws ++ [(q, .inl (xk X 0, N, .inl (fun _ => 0)))]) (n + 1) (k + N)) : KG X A Q pc ls (.int x :: st) ws n k := by
  intro H locs lsa hP hD hS hL
  have hK := h.2.2.2.2.2.1.1
  refine va_newa (atype := .int) (ty := .int) (N' := N) (a0 := (N, .inl (fun _ => 0))) h.1 h.2.1 (h.2.2.2.2.1 _ w1) rfl hK hP hD hS hA (fun cA => rfl) h0 hx (by show N * 4 ≤ 536870912; omega) hn.1 hn.2 hd (fun q cA H1 hK1 hP1 hD1 hS1 => ?_)
  have e : cA = xk X 0 := by
    have h1 : (xs X).vm.findClass _ = some cA := (hK1.2 4 (cA, .int) rfl).2
    have h2 : (xs X).vm.findClass _ = some (xk X 0) := (hK.2 0 (xk X 0, .int) rfl).2
    exact Option.some.inj (h1.symm.trans h2)
  subst e
  exact kk q H1 locs lsa hP1 hD1 hS1 hL
/-- a new row of objects, all null -/
theorem kg_newq (h : KC X cc own) (hA : ∀ q, (xs X).heap.size ≤ q → A q) {index t : Nat} {C : String} {x : Int32} (N : Nat) (hx : x.toNatClampNeg = N) (h0 : ¬ x < 0) (h9 : N ≤ 1000) (hd : decode cc pc = .ok (.anewarray index, 3)) (w1 : Cond.classLink own index C ∈ wsC) (hO : va_AO C (xs X)) (ht : (tysM (xk X))[t]? = some (xk X t, .object C)) (hn : n + 1 ≤ (xR X).cells ∧ k + N ≤ (xR X).slots)
    (kk : ∀ q, KG X A Q (pc + 3) ls (.ref q :: st) (ws ++ [(q, .inl (xk X t, N, .inr (.inr (.inr (.inr (fun _ => none))))))]) (n + 1) (k + N)) : KG X A Q pc ls (.int x :: st) ws n k := by
  intro H locs lsa hP hD hS hL
  have hK := h.2.2.2.2.2.1.1
  refine va_newq (N' := N) h.1 h.2.1 h.2.2.2.1 (h.2.2.2.2.1 _ w1) hO hK hP hD hS hA h0 hx (by omega) hn.1 hn.2 hd (fun q cA H1 hK1 hP1 hD1 hS1 => ?_)
  have e : cA = xk X t := by
    obtain ⟨_, _, _, _, _, h1⟩ := (hK1.2 4 (cA, .object C) rfl).2
    obtain ⟨_, _, _, _, _, h2⟩ := (hK.2 t (xk X t, .object C) ht).2
    exact Option.some.inj (h1.symm.trans h2)
  subst e
  exact kk q H1 locs lsa hP1 hD1 hS1 hL
theorem kg_put (h : KC X cc own) {index ci q0 fk a : Nat} {C : String} {T : u_T} {N : Nat} {fs : List Value} {v : Value} (hcz : vwCl[ci]? = some (C, T, N)) (he : ws[q0]? = some (a, .inr (ci, fs))) (hk : fk < N) (hd : decode cc pc = .ok (.putfield index, 3)) (w1 : Cond.fieldLink own index (T fk).1 (T fk).2.1 (T fk).2.2.1 ∈ wsC) (hfin : (T fk).2.2.2 = false) (hn : narrow (tyK ci fk) v = v) (hf : fits (tyK ci fk) v = true) (hl : fk < fs.length) (hws : ws.set q0 (a, .inr (ci, fs.set fk v)) = ws')
    (kk : KG X A Q (pc + 3) ls st ws' n k) : KG X A Q pc ls (v :: .ref a :: st) ws n k := by
  subst hws
  exact fun H locs lsa hP hD hS hL => va_put (D := (xC X, xI X)) (ci := ci) (v := v) (ty := tyK ci fk) (C := C) (T := T) (N := N) h.1 h.2.1 h.2.2.2.2.1 (u_all ci _ hcz) (tyK ci) (ty_all ci _ hcz) (nm_all ci _ hcz) h.2.2.2.1 h.2.2.2.2.2.1.1 hP hD hS q0 he hcz fk hk (h.2.2.2.2.1 _ w1) (fun _ h9 => h9) hfin (ty_all ci _ hcz fk hk) hn hf hl hd (fun H1 locs1 hP1 hD1 hS1 => kk H1 locs1 lsa hP1 hD1 hS1 hL)
theorem kg_putF (h : KC X cc own) (hin : (xM X).name = "<init>") {index ci q0 fk a : Nat} {C : String} {T : u_T} {N : Nat} {fs : List Value} {v : Value} (hcz : vwCl[ci]? = some (C, T, N)) (he : ws[q0]? = some (a, .inr (ci, fs))) (hk : fk < N) (hd : decode cc pc = .ok (.putfield index, 3)) (w1 : Cond.fieldLink own index (T fk).1 (T fk).2.1 (T fk).2.2.1 ∈ wsC) (hfin : (T fk).2.2.2 = true) (hdc : (T fk).1 = own) (hn : narrow (tyK ci fk) v = v) (hf : fits (tyK ci fk) v = true) (hl : fk < fs.length) (hws : ws.set q0 (a, .inr (ci, fs.set fk v)) = ws')
    (kk : KG X A Q (pc + 3) ls st ws' n k) : KG X A Q pc ls (v :: .ref a :: st) ws n k := by
  subst hws
  exact fun H locs lsa hP hD hS hL => va_putF (D := (xC X, xI X)) (ci := ci) (v := v) (ty := tyK ci fk) (C := C) (T := T) (N := N) h.1 h.2.1 h.2.2.2.2.1 (u_all ci _ hcz) (tyK ci) (ty_all ci _ hcz) (nm_all ci _ hcz) h.2.2.2.1 h.2.2.2.2.2.1.1 hP hD hS q0 he hcz fk hk (h.2.2.2.2.1 _ w1) (fun _ h9 => h9) hfin hin hdc (ty_all ci _ hcz fk hk) hn hf hl hd (fun H1 locs1 hP1 hD1 hS1 => kk H1 locs1 lsa hP1 hD1 hS1 hL)
theorem kg_get (h : KC X cc own) {index ci q0 fk a : Nat} {C : String} {T : u_T} {N : Nat} {fs : List Value} (v : Value) (hcz : vwCl[ci]? = some (C, T, N)) (he : ws[q0]? = some (a, .inr (ci, fs))) (hk : fk < N) (hd : decode cc pc = .ok (.getfield index, 3)) (w1 : Cond.fieldLink own index (T fk).1 (T fk).2.1 (T fk).2.2.1 ∈ wsC) (hv : fs[fk]? = some v)
    (kk : KG X A Q (pc + 3) ls (v :: st) ws n k) : KG X A Q pc ls (.ref a :: st) ws n k :=
  fun H locs lsa hP hD hS hL => va_get (D := (xC X, xI X)) (ci := ci) (C := C) (T := T) (N := N) h.1 h.2.1 h.2.2.2.2.1 (u_all ci _ hcz) h.2.2.2.1 h.2.2.2.2.2.1.1 hP q0 he hcz fk hk (h.2.2.2.2.1 _ w1) (fun _ h9 => h9) hv hd (kk H locs lsa hP hD hS hL)
theorem kg_iast (h : KC X cc own) {q0 a N j : Nat} {x y : Int32} {f : Nat → Int32} (he : ws[q0]? = some (a, .inl (xk X 0, N, .inl f))) (hin : vp_in y N) (hj : y.toNatClampNeg = j) (hd : decode cc pc = .ok (.iastore, 1)) (hws : ws.set q0 (a, .inl (xk X 0, N, .inl (upd f j x))) = ws')
    (kk : KG X A Q (pc + 1) ls st ws' n k) : KG X A Q pc ls (.int x :: .int y :: .ref a :: st) ws n k := by
  subst hws; subst hj
  exact fun H locs lsa hP hD hS hL => va_iast h.1 h.2.1 h.2.2.2.2.2.1.1 hP hD hS q0 0 he rfl hin hd (fun H1 locs1 hP1 hD1 hS1 => kk H1 locs1 lsa hP1 hD1 hS1 hL)
theorem kg_aast (h : KC X cc own) {q0 qk a t N j v ci : Nat} {C : String} {T : u_T} {N2 : Nat} {y : Int32} {f : Nat → Option Nat} {vs : List Value} (hcz : vwCl[ci]? = some (C, T, N2)) (ht : (tysM (xk X))[t]? = some (xk X t, .object C)) (he : ws[q0]? = some (a, .inl (xk X t, N, .inr (.inr (.inr (.inr f)))))) (hv : ws[qk]? = some (v, .inr (ci, vs))) (hin : vp_in y N) (hj : y.toNatClampNeg = j) (hd : decode cc pc = .ok (.aastore, 1)) (hws : ws.set q0 (a, .inl (xk X t, N, .inr (.inr (.inr (.inr (va_up f j (some v))))))) = ws')
    (kk : KG X A Q (pc + 1) ls st ws' n k) : KG X A Q pc ls (.ref v :: .int y :: .ref a :: st) ws n k := by
  subst hws; subst hj
  exact fun H locs lsa hP hD hS hL => va_astq h.1 h.2.1 h.2.2.2.2.2.1.1 hP hD hS q0 t qk ci he ht hv hcz hin hd (fun H1 locs1 hP1 hD1 hS1 => kk H1 locs1 lsa hP1 hD1 hS1 hL)
theorem kg_widen {n' k' : Nat} (h1 : n ≤ n') (h2 : k ≤ k') (kk : KG X A Q pc ls st ws n' k') : KG X A Q pc ls st ws n k :=
  fun H locs lsa hP hD hS hL => W.widen h1 h2 (kk H locs lsa hP hD hS hL)
end KROWS
end
section
/-! ===== five rows of five ints: the machine's own steps ===== -/
def mrow (cB : ClassId) : Cell := arrV cB 5 (fun _ => .int 0)
def mtop (cA : ClassId) (h i : Nat) : Cell := arrV cA 5 (fun j => if j < i then .ref (h + 1 + j) else .null)
theorem mtop_set (cA : ClassId) (h i : Nat) : (mtop cA h i).setSlot i (.ref (h + 1 + i)) = mtop cA h (i + 1) := by
  unfold mtop
  rw [arrV_store]
  congr 1
  funext j
  unfold updV
  by_cases e : j = i
  · subst e
    rw [if_pos rfl, if_pos (Nat.lt_succ_self j)]
  · rw [if_neg e]
    dsimp only
    by_cases c : j < i
    · rw [if_pos c, if_pos (by omega)]
    · rw [if_neg c, if_neg (by omega)]
theorem mtop_size (cA : ClassId) (h i : Nat) : (mtop cA h i).slots.size = 5 := arrV_size _ _ _
/-- the state with the top row, and i of its rows -/
def mst (s : State) (cA cB : ClassId) : Nat → State
  | 0 => s.pushCell (mtop cA s.heap.size 0)
  | i + 1 => ((mst s cA cB i).pushCell (mrow cB)).setCell s.heap.size ((mtop cA s.heap.size i).setSlot i (.ref (s.heap.size + 1 + i)))
theorem mst_is (s : State) (cA cB : ClassId) : ∀ i, (mst s cA cB i).heap.size = s.heap.size + 1 + i ∧ (mst s cA cB i).heap[s.heap.size]? = some (mtop cA s.heap.size i) ∧ (mst s cA cB i).vm = s.vm ∧ (mst s cA cB i).slotsUsed = s.slotsUsed + 5 + i * 5 ∧ (∀ a, a < s.heap.size → (mst s cA cB i).heap[a]? = s.heap[a]?) ∧ ∀ j, j < i → (mst s cA cB i).heap[s.heap.size + 1 + j]? = some (mrow cB)
  | 0 => by
    refine ⟨by simp [mst], by simp [mst], rfl, by simp [mst, mtop_size], fun a ha => State.heap_pushCell_of_lt _ _ ha, fun j hj => absurd hj (Nat.not_lt_zero j)⟩
  | i + 1 => by
    obtain ⟨h1, h2, h3, h4, h5, h6⟩ := mst_is s cA cB i
    have hlt : s.heap.size < (mst s cA cB i).heap.size := by omega
    have hc : ((mst s cA cB i).pushCell (mrow cB)).heap[s.heap.size]? = some (mtop cA s.heap.size i) := by rw [State.heap_pushCell_of_lt (h := hlt)]; exact h2
    refine ⟨?_, ?_, by simp [mst, h3], ?_, fun a ha => ?_, fun j hj => ?_⟩
    · simp [mst, State.setCell, h1]; omega
    · rw [← mtop_set]
      exact State.heap_setCell_self hc
    · simp [mst, h4, mrow, arrV_size]; omega
    · show (((mst s cA cB i).pushCell (mrow cB)).setCell s.heap.size _).heap[a]? = _
      rw [State.heap_setCell_other (Nat.ne_of_gt ha), State.heap_pushCell_of_lt (h := Nat.lt_trans ha hlt)]
      exact h5 a ha
    · show (((mst s cA cB i).pushCell (mrow cB)).setCell s.heap.size _).heap[s.heap.size + 1 + j]? = _
      rw [State.heap_setCell_other (show s.heap.size ≠ s.heap.size + 1 + j by omega)]
      by_cases e : j < i
      · rw [State.heap_pushCell_of_lt (h := show s.heap.size + 1 + j < (mst s cA cB i).heap.size by omega)]
        exact h6 j e
      · have : j = i := by omega
        subst this
        rw [← h1]
        exact State.heap_pushCell_size _ _
theorem mst_top (s : State) (f : JFrame) (cA cB : ClassId) : ∀ i, mst (s.setTop f) cA cB i = (mst s cA cB i).setTop f
  | 0 => rfl
  | i + 1 => by simp only [mst, mst_top s f cA cB i, State.heap_setTop, State.pushCell_setTop, State.setCell_setTop]
section MW5
variable {E : CtlPost} {e : Env} {d : Bool} {acts : List Action} {s : State}
/-- a new row of five of one value -/
theorem wp_row5 {c comp : ClassId} {k : Class} {type : FieldType} {v : Value} (hk : s.vm.classes[c]? = some k) (hkind : k.kind = .array comp type) (hl : ¬ 5 > e.platform.arrayLengthLimit) (hh : ¬ 5 * componentBytes type > e.platform.maxHeapBytes)
    (hfit : fits type v = true) (hdef : v.isDefault = true) {Q : Addr → Pre} (h1 : s.heap.size < e.platform.maxCells) (h2 : s.slotsUsed + 5 ≤ e.platform.maxSlots) (hq : Q s.heap.size d acts (s.pushCell (arrV c 5 (fun _ => v)))) :
    wp (Jvm.newArray c 5 v) Q E e d acts s := by
  have hf : ∀ i w, (Array.replicate 5 v)[i]? = some w → s.fitsSlot c .none i w = true := fun i w hw => by
    rw [Array.getElem?_replicate] at hw
    split at hw
    case isFalse => cases hw
    cases hw
    simp [State.fitsSlot, State.slotType?, hk, hkind, hfit]
  have ha : allocActs (Array.replicate 5 v) s.heap.size acts = acts := by
    unfold allocActs
    rw [if_pos (by rw [Array.all_replicate]; simp [hdef])]
  simp only [Jvm.newArray, Jvm.arrayFits, wp_bind', W.ask, W.ite, hl, if_false, wp_pure', W.theClass, hk, hkind, hh, W.alloc, W.stop, Option.some.injEq, exists_eq_left', Array.size_replicate, ha]
  rw [if_neg (by omega)]
  rw [← arrV_new] at hq
  exact ⟨h1, h2, hf, hq⟩
theorem wp_line5 {cB cC : ClassId} {kB : Class} (hB : s.vm.classes[cB]? = some kB) (hkB : kB.kind = .array cC .int) (hl : ¬ 5 > e.platform.arrayLengthLimit) (hh : ¬ 20 > e.platform.maxHeapBytes) (h1 : s.heap.size < e.platform.maxCells) (h2 : s.slotsUsed + 5 ≤ e.platform.maxSlots) {Q : Addr → Pre} (hq : Q s.heap.size d acts (s.pushCell (mrow cB))) :
    wp (multianewarray.make cB [5]) Q E e d acts s := by
  have n5 : (5 : Int32).toNatClampNeg = 5 := by decide
  rw [multianewarray.make]
  simp only [wp_bind', W.ite, show ¬ (5 : Int32) < 0 by decide, if_false, wp_pure', W.theClass, hB, hkB, Option.some.injEq, exists_eq_left', n5]
  exact wp_row5 hB hkB hl (by show ¬ 5 * 4 > _; omega) rfl rfl h1 h2 hq
theorem wp_make5 {cA cB cC : ClassId} {kA kB : Class} (hA : s.vm.classes[cA]? = some kA) (hkA : kA.kind = .array cB (.array .int)) (hB : s.vm.classes[cB]? = some kB) (hkB : kB.kind = .array cC .int)
    (hl : ¬ 5 > e.platform.arrayLengthLimit) (hh : ¬ 20 > e.platform.maxHeapBytes) (h1 : s.heap.size + 6 ≤ e.platform.maxCells) (h2 : s.slotsUsed + 30 ≤ e.platform.maxSlots) {Q : Addr → Pre} (hq : ∀ d' acts', Q s.heap.size d' acts' (mst s cA cB 5)) :
    wp (multianewarray.make cA [5, 5]) Q E e d acts s := by
  have n5 : (5 : Int32).toNatClampNeg = 5 := by decide
  have hfind : ([(5 : Int32)].find? (· < 0)) = none := by decide
  rw [multianewarray.make]
  simp only [wp_bind', W.ite, show ¬ (5 : Int32) < 0 by decide, if_false, wp_pure', W.theClass, hA, hkA, Option.some.injEq, exists_eq_left', n5]
  refine wp_row5 hA hkA hl (by show ¬ 5 * 4 > _; omega) rfl rfl (by omega) (by omega) ?_
  simp only [hfind]
  rw [ite_self, wp_bind', Std.Legacy.Range.forIn_eq_forIn_range']
  have hsz : ([:5] : Std.Legacy.Range).size = 5 := by simp [Std.Legacy.Range.size]
  rw [hsz]
  show wp (forIn (List.range' 0 5 1) PUnit.unit _) _ E e d acts _
  refine wp_forIn_inv (fun r t => ∃ i, i ≤ 5 ∧ r = List.range' i (5 - i) ∧ t = mst s cA cB i) _ _ ⟨0, by omega, rfl, rfl⟩ ?_ ?_
  · rintro x r t d' acts' Q' ⟨i, hi, hr, rfl⟩ hnext
    have hlt : i < 5 := by
      by_cases z : i < 5
      · exact z
      · rw [show 5 - i = 0 by omega] at hr; cases hr
    rw [show 5 - i = (5 - (i + 1)) + 1 by omega, List.range'_succ] at hr
    obtain ⟨rfl, hr⟩ := List.cons.inj hr
    obtain ⟨f1, f2, f3, f4, -, -⟩ := mst_is s cA cB x
    have hlt0 : s.heap.size < (mst s cA cB x).heap.size := by omega
    simp only [wp_bind']
    refine wp_line5 (by rw [f3]; exact hB) hkB hl hh (by rw [f1]; omega) (by rw [f4]; omega) ?_
    simp only [wp_bind', W.writeLoc, wp_pure']
    refine ⟨mtop cA s.heap.size x, by rw [State.heap_pushCell_of_lt (h := hlt0)]; exact f2, (by intro q; cases q), by rw [mtop_size]; exact hlt, ?_, hnext _ _ _ ⟨x + 1, hlt, hr, ?_⟩⟩
    · simp [State.fitsSlot, State.slotType?, mtop, arrV, f3, hA, hkA, fits]
    · rw [f1]
      rfl
  · rintro t d' acts' ⟨i, hi, hr, rfl⟩
    have : i = 5 := by
      by_cases z : i < 5
      · rw [show 5 - i = (5 - (i + 1)) + 1 by omega, List.range'_succ] at hr; cases hr
      · omega
    subst this
    simp only [wp_pure']
    exact hq _ _
end MW5
section MS5
variable {p : Program} {l : Launch} {e : Env} {R : Room} {s : State} {m : MethodId} {args : Array Value} {below : List Frame} {meth : Method} {c : Code} {T : State} {locs : List Loc} {cells slots : Nat}
theorem mst_stand (X : Stand p l e R s m args below meth c T locs cells slots) (cA cB : ClassId) : ∀ i, ∃ L, (∀ x ∈ L, x.base = T.heap.size) ∧ Stand p l e R s m args below meth c (mst T cA cB i) (locs ++ L) (cells + 1 + i) (slots + 5 + i * 5)
  | 0 => by
    have h := X.pushed (mtop cA T.heap.size 0)
    rw [mtop_size] at h
    exact ⟨[], fun x hx => (by cases hx), by simpa [mst] using h⟩
  | i + 1 => by
    obtain ⟨L, hL, Xi⟩ := mst_stand X cA cB i
    obtain ⟨f1, f2, -, -, -, -⟩ := mst_is T cA cB i
    have hc : ((mst T cA cB i).pushCell (mrow cB)).heap[T.heap.size]? = some (mtop cA T.heap.size i) := by rw [State.heap_pushCell_of_lt (h := show T.heap.size < (mst T cA cB i).heap.size by omega)]; exact f2
    have h := (Xi.pushed (mrow cB)).stored hc i (.ref (T.heap.size + 1 + i))
    have e1 : (mrow cB).slots.size = 5 := arrV_size _ _ _
    rw [e1] at h
    refine ⟨L ++ [⟨T.heap.size, i⟩], fun x hx => ?_, ?_⟩
    · rcases List.mem_append.mp hx with h1 | h1
      · exact hL x h1
      · rw [List.mem_singleton.mp h1]
    · rw [← List.append_assoc, show slots + 5 + (i + 1) * 5 = slots + 5 + i * 5 + 5 by omega]
      exact h
theorem mna_run (X : Stand p l e R s m args below meth c T locs cells slots) (hexec : p.tables.exec = Jvm.exec) {own : String} {index : Nat} (hown : s.vm.findClass own = some m.cls)
    (hclink : (Cond.classLink own index ("[" ++ (FieldType.array .int).toString)).before args s = true) (hover : (Cond.arrayOver (.array .int)).before args s = true) (harr : (Cond.arrayClass .int).before args s = true)
    {g : JFrame} (hg : g.method = m) (hdg : decode c.code g.pc = .ok (.multianewarray index 2, 4)) {rest : List Value} (hstack : g.stack = .int 5 :: .int 5 :: rest) (hcells : cells + 6 ≤ R.cells) (hslots : slots + 30 ≤ R.slots) :
    ∃ (vm₁ : Vm) (cA cB : ClassId) (L : List Loc), s.vm.findClass ("[" ++ (FieldType.array .int).toString) = some cA ∧ s.vm.findClass (FieldType.array .int).toString = some cB ∧ (∀ x ∈ L, x.base = T.heap.size) ∧
      Stand p l e R s m args below meth c (mst (T.setVm vm₁) cA cB 5) (locs ++ L) (cells + 6) (slots + 30) ∧
      ∀ target, Steps p.tables e below ((mst (T.setVm vm₁) cA cB 5).setTop { g with pc := g.pc + 4, stack := .ref T.heap.size :: rest }) target → Steps p.tables e below (T.setTop g) target := by
  subst hg
  have hpl : e.platform.magicAccessors = ({} : Platform).magicAccessors := by rw [X.admits.platform]
  obtain ⟨cB, cA, kA, hB, -, hkA, hkindA, hA⟩ := arrayOverA_spec hover
  obtain ⟨cB', kB, cC, hB', hkB, hkindB⟩ := Cond.arrayClass_spec harr
  have eBB : cB' = cB := Option.some.inj (hB'.symm.trans hB)
  subst eBB
  obtain ⟨c0, hc0, hcl⟩ := Cond.classLink_spec hown hclink e.platform hpl
  cases hA.symm.trans hc0
  obtain ⟨hgv, hwarm, hready⟩ := State.classEntry (e := e) X.warmed hcl
  generalize T.vm.noted g.method.cls index (.cls cA) = vm₁ at hgv hwarm hready
  have hal : s.vm.Alike vm₁ := hwarm.alike
  obtain ⟨kA1, hkA1, eA⟩ := hal.2.2 _ _ hkA
  obtain ⟨kB1, hkB1, eB⟩ := hal.2.2 _ _ hkB
  have hkindA1 : kA1.kind = .array cB' (.array .int) := by rw [eA]; exact hkindA
  have hkindB1 : kB1.kind = .array cC .int := by rw [eB]; exact hkindB
  have X1 := X.noted hwarm
  obtain ⟨hr1, hr2⟩ := X.roomAbove hcells hslots
  obtain ⟨L, hL, X5⟩ := mst_stand X1 cA cB' 5
  refine ⟨vm₁, cA, cB', L, hA, hB, hL, X5, fun target hrest => ?_⟩
  have hl : ¬ 5 > e.platform.arrayLengthLimit := by rw [Launch.admits_arrayLengthLimit X.admits]; omega
  have hh : ¬ 20 > e.platform.maxHeapBytes := by rw [Launch.admits_maxHeapBytes X.admits]; omega
  jvm_step X.here [hexec, hdg]
  simp only [multianewarray.sem, wp_bind', W.resolveClassAt_links (State.method?_setTop g X.here.top) hgv]
  rw [W.popN, if_neg (by decide)]
  refine ⟨g, State.topJava?_setTop' (s := T.setVm vm₁) g X.here.top, [.int 5, .int 5], rest, rfl, hstack, ?_⟩
  simp only [List.mapM_cons, List.mapM_nil, wp_bind', wp_pure']
  have eS : ((T.setTop g).setVm vm₁).setTop { g with stack := rest } = (T.setVm vm₁).setTop { g with stack := rest } := by
    show ((T.setVm vm₁).setTop g).setTop _ = _
    rw [State.setTop_setTop]
  rw [eS]
  refine wp_make5 (s := (T.setVm vm₁).setTop { g with stack := rest }) (kA := kA1) (kB := kB1) (cB := cB') (cC := cC) hkA1 hkindA1 hkB1 hkindB1 hl hh hr1 hr2 (fun d' acts' => ?_)
  rw [mst_top]
  simp only [wp_bind', W.mark, W.pushRef, State.topJava?_setTop' _ X5.here.top, Option.some.injEq, exists_eq_left', State.setTop_setTop, State.heap_setTop]
  intro acts
  simp [jvm, X5.here.top]
  exact hrest
end MS5
end
section
/-! ===== constructors: a row of rows, a call, an end ===== -/
theorem mtop_arr (cA : ClassId) (h0 : Nat) : mtop cA h0 5 = vp_cell cA (5, .inr (.inr (.inr (.inr (fun j => if j < 5 then some (h0 + 1 + j) else none))))) := by
  rw [vp_cell_q]
  unfold mtop
  congr 1
  funext j
  by_cases c : j < 5
  · rw [if_pos c, if_pos c]; rfl
  · rw [if_neg c, if_neg c]; rfl
def sixW (X : XT) (q : Nat) : va_W := [(q, .inl (xk X 3, 5, .inr (.inr (.inr (.inr (fun j => if j < 5 then some (q + 1 + j) else none)))))), (q + 1, .inl (xk X 0, 5, .inl (fun _ => 0))), (q + 2, .inl (xk X 0, 5, .inl (fun _ => 0))), (q + 3, .inl (xk X 0, 5, .inl (fun _ => 0))), (q + 4, .inl (xk X 0, 5, .inl (fun _ => 0))), (q + 5, .inl (xk X 0, 5, .inl (fun _ => 0)))]
theorem sixW_at {X : XT} {q i : Nat} {x : Nat × va_E} (h : (sixW X q)[i]? = some x) : x.1 = q + i ∧ i < 6 := by
  have hl : i < 6 := (List.getElem?_eq_some_iff.mp h).1
  have : i = 0 ∨ i = 1 ∨ i = 2 ∨ i = 3 ∨ i = 4 ∨ i = 5 := by omega
  rcases this with rfl | rfl | rfl | rfl | rfl | rfl <;> (cases h; exact ⟨rfl, by omega⟩)
section KMNA
variable {X : XT} {cc : ByteArray} {own : String} {A : Nat → Prop} {Q : State → Prop} {pc : Nat} {ls : List (Nat × Value)} {st : List Value} {ws : va_W} {n k : Nat}
theorem kg_mna (h : KC X cc own) (hA : ∀ q, (xs X).heap.size ≤ q → A q) {index : Nat} (hd : decode cc pc = .ok (.multianewarray index 2, 4)) (w1 : Cond.classLink own index ("[" ++ (FieldType.array .int).toString) ∈ wsC) (w2 : Cond.arrayClass .int ∈ wsC) (hn : n + 6 ≤ (xR X).cells ∧ k + 30 ≤ (xR X).slots)
    (kk : ∀ q, KG X A Q (pc + 4) ls (.ref q :: st) (ws ++ sixW X q) (n + 6) (k + 30)) : KG X A Q pc ls (.int 5 :: .int 5 :: st) ws n k := by
  intro H locs lsa hP hD hS hL T hT X9
  have hK := h.2.2.2.2.2.1.1
  obtain ⟨vm₁, cA, comp, L, e1, e2, hLb, X', step⟩ := mna_run X9 h.1 (own := own) (index := index) h.2.2.2.1 (h.2.2.2.2.1 _ w1) h.2.2.2.2.2.1.2.1.2.2 (h.2.2.2.2.1 _ w2) (g := F0 (xm X) pc lsa (.int 5 :: .int 5 :: st)) rfl (by rw [h.2.1]; exact hd) (rest := st) rfl hn.1 hn.2
  have ea : cA = xk X 3 := by
    have h2 : (xs X).vm.findClass _ = some (xk X 3) := (hK.2 3 (xk X 3, .array .int) rfl).2
    exact Option.some.inj (e1.symm.trans h2)
  have ec : comp = xk X 0 := by
    have h2 : (xs X).vm.findClass ("[" ++ FieldType.int.toString) = some (xk X 0) := (hK.2 0 (xk X 0, .int) rfl).2
    have h3 : (FieldType.array .int).toString = "[" ++ FieldType.int.toString := by decide
    rw [h3] at e2
    exact Option.some.inj (e2.symm.trans h2)
  subst ea; subst ec
  obtain ⟨f1, f2, -, -, f3, f4⟩ := mst_is (T.setVm vm₁) (xk X 3) (xk X 0) 5
  have hTH : (T.setVm vm₁).heap = H := by show T.heap = H; exact hT
  have hTs : T.heap.size = H.size := by rw [hT]
  rw [hTH] at f1 f2
  simp only [hTH] at f3 f4
  rw [hTs] at step
  rw [mtop_arr] at f2
  have hin : mrow (xk X 0) = vp_cell (xk X 0) (5, .inl (fun _ => 0)) := rfl
  rw [hin] at f4
  generalize hF : mst (T.setVm vm₁) (xk X 3) (xk X 0) 5 = T' at f1 f2 f3 f4 X' step
  have hk : ∀ (i : Nat) (x : Nat × va_E), ws[i]? = some x → T'.heap[x.1]? = H[x.1]? := fun i x hx => f3 x.1 ((hP i x hx).lt)
  have hP6 : va_P (xC X, xI X) vwCl (sixW X H.size) T'.heap := by
    intro i x hx
    have hl := (sixW_at hx).2
    have : i = 0 ∨ i = 1 ∨ i = 2 ∨ i = 3 ∨ i = 4 ∨ i = 5 := by omega
    rcases this with rfl | rfl | rfl | rfl | rfl | rfl
    · cases hx; exact f2
    · cases hx; exact f4 0 (by omega)
    · cases hx; exact f4 1 (by omega)
    · cases hx; exact f4 2 (by omega)
    · cases hx; exact f4 3 (by omega)
    · cases hx; exact f4 4 (by omega)
  have hD6 : va_D A (sixW X H.size) := ⟨fun i j x y hx hy hxy => by
    have a1 := (sixW_at hx).1
    have a2 := (sixW_at hy).1
    omega, fun i x hx => hA _ (by have a1 := (sixW_at hx).1; have := hS.1; omega)⟩
  have hD1 : va_D A (ws ++ sixW X H.size) := va_D.app hD hD6 (fun i j x y hx hy hxy => by
    have a1 := (hP i x hx).lt
    have a2 := (sixW_at hy).1
    omega)
  have hS1 : va_S A (xs X).heap T'.heap (locs ++ L) := ⟨Nat.le_trans hS.1 (by omega), fun x h1 h2 => (f3 x (Nat.lt_of_lt_of_le h1 hS.1)).trans (hS.2.1 x h1 h2), fun q hq => by
    rcases List.mem_append.mp hq with h1 | h1
    · exact hS.2.2 q h1
    · rw [hLb q h1, hTs]
      exact hA _ hS.1⟩
  obtain ⟨t, a1, b1⟩ := kk H.size T'.heap (locs ++ L) lsa ((hP.kept hk).app hP6) hD1 hS1 hL T' rfl X'
  exact ⟨t, step t a1, b1⟩
end KMNA
/-! a constructor's contract: it makes mc cells of ms slots, and leaves the world L, of new addresses -/
def CtI (l : Launch) (dC : Nat → ClassId) (dI : Nat → Nat → Nat) (cs : Nat → ClassId) (y : MethodName) (cc : ByteArray) (maxL d mc ms ci : Nat) (fs : List Value) (L : Nat → (Nat → Nat) → va_W) : Prop :=
  ∀ h0 sz : Nat, Met l y (.code y cc maxL none :: wsC) { frames := d, cells := mc, slots := ms, locals := 40 * d }
    (va_Pc [.ref h0] (fun U => U.heap.size = sz ∧ va_P (dC, dI) vwCl [(h0, .inr (ci, fs))] U.heap ∧ KU dC dI cs U ∧ va_D (fun _ => True) [(h0, .inr (ci, fs))]))
    (va_Qv (fun _ : Nat → Nat => True) (fun as t => va_P (dC, dI) vwCl (L h0 as) t.heap ∧ va_D (va_A [(h0, .inr (ci, fs))] sz) (L h0 as)) (va_A [(h0, .inr (ci, fs))] sz)) mc ms (va_A [(h0, .inr (ci, fs))] sz)
abbrev QI (X : XT) (A : Nat → Prop) (mc ms : Nat) (L : (Nat → Nat) → va_W) : State → Prop := MQ (xb X) (va_Qv (fun _ : Nat → Nat => True) (fun as t => va_P (xC X, xI X) vwCl (L as) t.heap ∧ va_D A (L as)) A) (xa X) (xs X) mc ms A
theorem cti_of {l : Launch} {dC : Nat → ClassId} {dI : Nat → Nat → Nat} {cs : Nat → ClassId} {y : MethodName} {cc : ByteArray} {maxL d mc ms ci : Nat} {fs : List Value} {L : Nat → (Nat → Nat) → va_W} (hy : plainName y.cls = true) (hnm : y.name = "<init>") (hle : Nat.ble 1 maxL = true)
    (body : ∀ (X : XT) (A : Nat → Prop) (h0 : Nat), KC X cc y.cls → (xM X).name = "<init>" → xl X = l → xC X = dC → xI X = dI → xk X = cs → xR X = { frames := d, cells := mc, slots := ms, locals := 40 * d } → xn X = maxL → (xM X).sig.returnType = none → (∀ q, (xs X).heap.size ≤ q → A q) →
      KG X A (QI X A mc ms (L h0)) 0 [(0, .ref h0)] [] [(h0, .inr (ci, fs))] 0 0) : CtI l dC dI cs y cc maxL d mc ms ci fs L := by
  intro h0 sz
  refine Met.ofW (cc := cc) (maxL := maxL) (ret := none) hy rfl ?_
  intro p e s mi args below meth c s₁ B hml hv
  obtain ⟨rfl, hsz, hP, hK, hD0⟩ := hv
  have hts := atoms_spec (ws := .code y cc maxL none :: wsC) B.pre
  have hfc : s.vm.findClass y.cls = some mi.cls := findClass_of_methodNamed B.named
  have hin : meth.name = "<init>" := (name_of_methodNamed B.named B.method).1.trans hnm
  subst hsz
  have hD := hD0.self (sz := s.heap.size)
  have hl := lv_entry ([.ref h0]) (n := maxL) (Nat.le_of_ble_eq_true hle)
  rw [lg_entry_eq]
  have hkc : KC (p, e, { frames := d, cells := mc, slots := ms, locals := 40 * d }, s, mi, ([.ref h0] : List Value).toArray, below, meth, c, (l, (fun _ => 0), dC, dI, cs, false, 0, fun _ => 0), 0, 0, maxL) cc y.cls :=
    ⟨B.exec, B.bytes, hml, hfc, fun w hw => hts w (List.mem_cons_of_mem _ hw), hK, B.notSynchronized⟩
  exact body _ _ h0 hkc hin rfl rfl rfl rfl rfl rfl B.returns (fun q h => Or.inr h) s.heap [] _ hP hD va_S.rf hl
theorem va_nd_of : ∀ l : List Nat, l.Nodup → va_nd l = true
  | [], _ => rfl
  | x :: l, h => by
    rw [List.nodup_cons] at h
    simp only [va_nd, Bool.and_eq_true, decide_eq_true_eq]
    exact ⟨h.1, va_nd_of l h.2⟩
theorem rest_at {ws : va_W} {x : Nat × va_E} : (List.range ws.length).map (fun i => (ws ++ [x])[i]?) = ws.map some := by
  apply List.ext_getElem?
  intro i
  rw [List.getElem?_map, List.getElem?_map]
  by_cases h : i < ws.length
  · rw [List.getElem?_range h]
    simp [List.getElem?_append_left h, List.getElem?_eq_getElem h]
  · rw [List.getElem?_eq_none (by simpa using h), List.getElem?_eq_none (by omega)]
    rfl
section KCALL
variable {X : XT} {cc : ByteArray} {own : String} {A : Nat → Prop} {Q : State → Prop} {pc : Nat} {ls : List (Nat × Value)} {st : List Value} {ws ws' : va_W} {n k : Nat}
theorem kg_behind {y : MethodName} {bytes : ByteArray} {mc ms ci q : Nat} {fs : List Value} {L : Nat → (Nat → Nat) → va_W} (hA : ∀ q, (xs X).heap.size ≤ q → A q) (kk : ∀ as, KG X A Q (pc + 3) ls st (ws ++ L q as) (n + mc) (k + ms))
    {H : Heap} {locs : List Loc} {lsa : Array Slot} (hP : va_P (xC X, xI X) vwCl (ws ++ [(q, .inr (ci, fs))]) H) (hD : va_D A (ws ++ [(q, .inr (ci, fs))])) (hS : va_S A (xs X).heap H locs) (hL : lv_has lsa (xn X) ls)
    (hr : va_Run (xp X) (xl X) (xe X) (xR X) (xs X) (xm X) (xa X) (xb X) (xM X) (xc X) H locs n k mc ms (F0 (xm X) pc lsa (.ref q :: st)) st (va_Qv (fun _ : Nat → Nat => True) (fun as t => va_P (xC X, xI X) vwCl (L q as) t.heap ∧ va_D (va_A [(q, .inr (ci, fs))] H.size) (L q as)) (va_A [(q, .inr (ci, fs))] H.size) (Value.ref q :: ([] : List Value)).toArray) (va_A [(q, .inr (ci, fs))] H.size)) :
    W (xp X) (xl X) (xe X) (xR X) (xs X) (xm X) (xa X) (xb X) (xM X) (xc X) H locs n k Q (F0 (xm X) pc lsa (.ref q :: st)) := by
  have hC : [ws.length].map (fun i => (ws ++ [(q, (.inr (ci, fs) : va_E))])[i]?) = [(q, (.inr (ci, fs) : va_E))].map some := by simp
  have hFc := va_free (wc := [(q, .inr (ci, fs))]) hD hS hA [ws.length] hC
  refine va_callv hr hS (fun q _ h => hFc q h) hFc (fun as t H1 locs1 ht hvm _ hB hz1 hk1 hS1 => ?_)
  obtain ⟨hP1, hD1⟩ := hB
  rw [ht] at hP1
  obtain ⟨hP2, hD2⟩ := va_join (wr := ws) (w1 := L q as) hP hD [ws.length] (List.range ws.length) hC rest_at (va_nd_of _ List.nodup_range) (fun i hi hj => by
    have := List.mem_range.mp hi
    have := List.mem_singleton.mp hj
    omega) hk1 hFc hP1 hD1
  exact kk as H1 locs1 lsa hP2 hD2 hS1 hL
theorem one_P {ci q : Nat} {fs : List Value} {D : va_G} {H : Heap} (hP : va_P D vwCl (ws ++ [(q, .inr (ci, fs))]) H) : va_P D vwCl [(q, .inr (ci, fs))] H := fun i x hx => by
  have hi : i < 1 := (List.getElem?_eq_some_iff.mp hx).1
  have : i = 0 := by omega
  subst this
  exact hP ws.length x (by simpa using hx)
theorem one_D {ci q : Nat} {fs : List Value} : va_D (fun _ => True) [(q, (.inr (ci, fs) : va_E))] := ⟨fun i j x y hx hy _ => by
  have := (List.getElem?_eq_some_iff.mp hx).1
  have := (List.getElem?_eq_some_iff.mp hy).1
  simp at *
  omega, fun _ _ _ => trivial⟩
theorem kg_ctor (h : KC X cc own) (hA : ∀ q, (xs X).heap.size ≤ q → A q) {y : MethodName} {bytes : ByteArray} {maxL d mc ms ci index q : Nat} {fs : List Value} {L : Nat → (Nat → Nat) → va_W} (hct : CtI (xl X) (xC X) (xI X) (xk X) y bytes maxL d mc ms ci fs L) (hd : decode cc pc = .ok (.invokespecial index, 3))
    (w1 : Cond.methodLink own index y ∈ wsC) (w2 : Cond.instanceMethod y ∈ wsC) (w3 : Cond.initialized y.cls ∈ wsC) (w4 : Cond.code y bytes maxL none ∈ wsC) (hy1 : y.name = "<init>") (hy2 : y.cls ≠ "java/lang/invoke/MethodHandle" ∧ y.cls ≠ "java/lang/invoke/VarHandle" ∧ (parseMethodDescriptor y.desc).map (fun d => d.parameters.length) = some 0)
    (hR : d + 1 ≤ (xR X).frames ∧ 8 + (maxL + 11) + 40 * d ≤ (xR X).locals) (hn : n + mc ≤ (xR X).cells ∧ k + ms ≤ (xR X).slots) (hcat : (st.map fun v => v.category).sum ≤ 8) (kk : ∀ as, KG X A Q (pc + 3) ls st (ws ++ L q as) (n + mc) (k + ms)) : KG X A Q pc ls (.ref q :: st) (ws ++ [(q, .inr (ci, fs))]) n k := by
  intro H locs lsa hP hD hS hL
  have hts := h.2.2.2.2.1
  exact kg_behind (y := y) (bytes := bytes) hA kk hP hD hS hL (va_runI (As := []) (rest := st) ⟨h.1, h.2.1, h.2.2.1, h.2.2.2.1, hts⟩ (hct q H.size) (cwI 0 hts (good_ws w4) rfl rfl rfl (hts _ w3) (hts _ w1) (hts _ w2) hy1 hy2 hR)
    ⟨fun a U g mk q => by obtain ⟨q0, q1, qP, qK, qD⟩ := q; exact ⟨q0, q1, qP, qK.call, qD⟩, fun U hU hW => ⟨rfl, by rw [hU], by rw [hU]; exact one_P hP, h.2.2.2.2.2.1.warm hW, one_D⟩⟩ rfl rfl hL.1 rfl (lv_room hcat) hd hn)
theorem kg_ctorN (h : KC X cc own) (hA : ∀ q, (xs X).heap.size ≤ q → A q) {y : MethodName} {host : String} {bytes : ByteArray} {maxL d mc ms ci index q : Nat} {fs : List Value} {L : Nat → (Nat → Nat) → va_W} (hct : CtI (xl X) (xC X) (xI X) (xk X) y bytes maxL d mc ms ci fs L) (hd : decode cc pc = .ok (.invokespecial index, 3))
    (w1 : Cond.methodLinkNest own index y host ∈ nestC) (w2 : Cond.instanceMethod y ∈ wsC) (w3 : Cond.initialized y.cls ∈ wsC) (w4 : Cond.code y bytes maxL none ∈ wsC) (hy1 : y.name = "<init>") (hy2 : y.cls ≠ "java/lang/invoke/MethodHandle" ∧ y.cls ≠ "java/lang/invoke/VarHandle" ∧ (parseMethodDescriptor y.desc).map (fun d => d.parameters.length) = some 0)
    (hR : d + 1 ≤ (xR X).frames ∧ 8 + (maxL + 11) + 40 * d ≤ (xR X).locals) (hn : n + mc ≤ (xR X).cells ∧ k + ms ≤ (xR X).slots) (hcat : (st.map fun v => v.category).sum ≤ 8) (kk : ∀ as, KG X A Q (pc + 3) ls st (ws ++ L q as) (n + mc) (k + ms)) : KG X A Q pc ls (.ref q :: st) (ws ++ [(q, .inr (ci, fs))]) n k := by
  intro H locs lsa hP hD hS hL
  have hts := h.2.2.2.2.1
  exact kg_behind (y := y) (bytes := bytes) hA kk hP hD hS hL (va_runIN (As := []) (rest := st) ⟨h.1, h.2.1, h.2.2.1, h.2.2.2.1, hts⟩ (hct q H.size) ⟨va_cnB 0 hts (good_ws w4) rfl rfl rfl (h.2.2.2.2.2.1.2.2 _ w1) (hts _ w3) hy2 hR, hy1, hts _ w2⟩
    ⟨fun a U g mk q => by obtain ⟨q0, q1, qP, qK, qD⟩ := q; exact ⟨q0, q1, qP, qK.call, qD⟩, fun U hU hW => ⟨rfl, by rw [hU], by rw [hU]; exact one_P hP, h.2.2.2.2.2.1.warm hW, one_D⟩⟩ rfl rfl hL.1 rfl (lv_room hcat) hd hn)
theorem kg_ret (h : KC X cc own) (hr : (xM X).sig.returnType = none) (hd : decode cc pc = .ok (.return_, 1)) {L : (Nat → Nat) → va_W} (as : Nat → Nat) (hw : ws = L as) : KG X A (QI X A n k L) pc ls [] ws n k := by
  intro H locs lsa hP hD hS hL
  subst hw
  exact W.vret h.1 h.2.1 hr (fun t ht hW => ⟨⟨as, rfl, trivial, by rw [ht]; exact hP, hD⟩, hS.F ht⟩) hS.2.2 hd h.2.2.2.2.2.2
end KCALL
end
section
/-! ===== the small constructors (printed by wip/p31/gen91.py) ===== -/
/-- HeronFord$Fish() -/
def dvX1 : List Value := [.int 0, .int 0, .int 0, .int 0, .int 0]
theorem dfX1 : ∀ j, j < 5 → defaultValue (tyK 1 j) = vp_V dvX1 j := fun j hj => by
  rcases (show j = 0 ∨ j = 1 ∨ j = 2 ∨ j = 3 ∨ j = 4 by omega) with rfl | rfl | rfl | rfl | rfl <;> rfl
def LX1 (cs : Nat → ClassId) (h0 : Nat) (as : Nat → Nat) : va_W := [(h0, .inr (1, [.int 0, .int 0, .int 0, .int 0, .int 0]))]
set_option maxHeartbeats 4000000 in
set_option maxRecDepth 100000 in
theorem ctiX1 (l : Launch) (dC : Nat → ClassId) (dI : Nat → Nat → Nat) (cs : Nat → ClassId) : CtI l dC dI cs yX1_init prog_3_method_1_code 1 1 0 0 1 dvX1 (LX1 cs) := by
  refine cti_of (by decide +kernel) rfl rfl (fun X A h0 h hin hl hC hI hk hR hn hr hA => ?_)
  subst hl hC hI hk
  refine kg_aload h (j := 0) (x := h0) (i := 0) (by decide +kernel) rfl ?_
  refine kg_obj h (index := 1) (by decide +kernel) (wsC_at 64 (by decide +kernel) rfl) (wsC_at 28 (by decide +kernel) rfl) (wsC_at 29 (by decide +kernel) rfl) (by rw [hR]; exact ⟨Nat.le_of_ble_eq_true rfl, Nat.le_of_ble_eq_true rfl⟩) ?_
  refine kg_widen (n' := 0) (k' := 0) (Nat.le_of_ble_eq_true rfl) (Nat.le_of_ble_eq_true rfl) ?_
  exact kg_ret h hr (by decide +kernel) (fun j => [].getD j 0) rfl
/-- HeronFord$Readings() -/
def dvX2 : List Value := [.null, .null, .int 0]
theorem dfX2 : ∀ j, j < 3 → defaultValue (tyK 2 j) = vp_V dvX2 j := fun j hj => by
  rcases (show j = 0 ∨ j = 1 ∨ j = 2 by omega) with rfl | rfl | rfl <;> rfl
def LX2 (cs : Nat → ClassId) (h0 : Nat) (as : Nat → Nat) : va_W := [(h0, .inr (2, [.ref (as 0), .ref (as 1), .int 0])), (as 0, .inl (cs 0, 8, .inl (fun _ => 0))), (as 1, .inl (cs 0, 8, .inl (fun _ => 0)))]
set_option maxHeartbeats 4000000 in
set_option maxRecDepth 100000 in
theorem ctiX2 (l : Launch) (dC : Nat → ClassId) (dI : Nat → Nat → Nat) (cs : Nat → ClassId) : CtI l dC dI cs yX2_init prog_4_method_1_code 1 1 2 16 2 dvX2 (LX2 cs) := by
  refine cti_of (by decide +kernel) rfl rfl (fun X A h0 h hin hl hC hI hk hR hn hr hA => ?_)
  subst hl hC hI hk
  refine kg_aload h (j := 0) (x := h0) (i := 0) (by decide +kernel) rfl ?_
  refine kg_obj h (index := 3) (by decide +kernel) (wsC_at 199 (by decide +kernel) rfl) (wsC_at 28 (by decide +kernel) rfl) (wsC_at 29 (by decide +kernel) rfl) (by rw [hR]; exact ⟨Nat.le_of_ble_eq_true rfl, Nat.le_of_ble_eq_true rfl⟩) ?_
  refine kg_aload h (j := 0) (x := h0) (i := 0) (by decide +kernel) rfl ?_
  refine kg_bipush h (z := 8) (8 : Int32) (by decide +kernel) (by decide) ?_
  refine kg_newa h hA 8 (by decide) (by decide) (by decide) (by decide +kernel) (wsC_at 51 (by decide +kernel) rfl) (by rw [hR]; exact ⟨Nat.le_of_ble_eq_true rfl, Nat.le_of_ble_eq_true rfl⟩) (fun a0 => ?_)
  refine kg_putF h hin (index := 9) (ci := 2) (q0 := 0) (fk := 0) (C := RX2) (T := TX2) (N := 3) (v := .ref a0) (ws' := [(h0, .inr (2, [.ref a0, .null, .int 0])), (a0, .inl (xk X 0, 8, .inl (fun _ => 0)))]) rfl rfl (by decide) (by decide +kernel) (wsC_at 200 (by decide +kernel) rfl) rfl rfl rfl rfl (Nat.le_of_ble_eq_true rfl) rfl ?_
  refine kg_aload h (j := 0) (x := h0) (i := 0) (by decide +kernel) rfl ?_
  refine kg_bipush h (z := 8) (8 : Int32) (by decide +kernel) (by decide) ?_
  refine kg_newa h hA 8 (by decide) (by decide) (by decide) (by decide +kernel) (wsC_at 51 (by decide +kernel) rfl) (by rw [hR]; exact ⟨Nat.le_of_ble_eq_true rfl, Nat.le_of_ble_eq_true rfl⟩) (fun a1 => ?_)
  refine kg_putF h hin (index := 15) (ci := 2) (q0 := 0) (fk := 1) (C := RX2) (T := TX2) (N := 3) (v := .ref a1) (ws' := [(h0, .inr (2, [.ref a0, .ref a1, .int 0])), (a0, .inl (xk X 0, 8, .inl (fun _ => 0))), (a1, .inl (xk X 0, 8, .inl (fun _ => 0)))]) rfl rfl (by decide) (by decide +kernel) (wsC_at 201 (by decide +kernel) rfl) rfl rfl rfl rfl (Nat.le_of_ble_eq_true rfl) rfl ?_
  refine kg_aload h (j := 0) (x := h0) (i := 0) (by decide +kernel) rfl ?_
  refine kg_iconst h (z := 0) (0 : Int32) (by decide +kernel) (by decide) ?_
  refine kg_put h (index := 18) (ci := 2) (q0 := 0) (fk := 2) (C := RX2) (T := TX2) (N := 3) (v := .int 0) (ws' := [(h0, .inr (2, [.ref a0, .ref a1, .int 0])), (a0, .inl (xk X 0, 8, .inl (fun _ => 0))), (a1, .inl (xk X 0, 8, .inl (fun _ => 0)))]) rfl rfl (by decide) (by decide +kernel) (wsC_at 202 (by decide +kernel) rfl) rfl rfl rfl (Nat.le_of_ble_eq_true rfl) rfl ?_
  refine kg_widen (n' := 2) (k' := 16) (Nat.le_of_ble_eq_true rfl) (Nat.le_of_ble_eq_true rfl) ?_
  exact kg_ret h hr (by decide +kernel) (fun j => [a0, a1].getD j 0) rfl
/-- HeronFord$Sheet() -/
def dvX4 : List Value := [.null, .int 0, .int 0, .int 0]
theorem dfX4 : ∀ j, j < 4 → defaultValue (tyK 4 j) = vp_V dvX4 j := fun j hj => by
  rcases (show j = 0 ∨ j = 1 ∨ j = 2 ∨ j = 3 by omega) with rfl | rfl | rfl | rfl <;> rfl
def LX4 (cs : Nat → ClassId) (h0 : Nat) (as : Nat → Nat) : va_W := [(h0, .inr (4, [.ref (as 0), .int 0, .int 0, .int 0])), (as 0, .inl (cs 0, 60, .inl (fun _ => 0)))]
set_option maxHeartbeats 4000000 in
set_option maxRecDepth 100000 in
theorem ctiX4 (l : Launch) (dC : Nat → ClassId) (dI : Nat → Nat → Nat) (cs : Nat → ClassId) : CtI l dC dI cs yX4_init prog_6_method_1_code 1 1 1 60 4 dvX4 (LX4 cs) := by
  refine cti_of (by decide +kernel) rfl rfl (fun X A h0 h hin hl hC hI hk hR hn hr hA => ?_)
  subst hl hC hI hk
  refine kg_aload h (j := 0) (x := h0) (i := 0) (by decide +kernel) rfl ?_
  refine kg_obj h (index := 3) (by decide +kernel) (wsC_at 36 (by decide +kernel) rfl) (wsC_at 28 (by decide +kernel) rfl) (wsC_at 29 (by decide +kernel) rfl) (by rw [hR]; exact ⟨Nat.le_of_ble_eq_true rfl, Nat.le_of_ble_eq_true rfl⟩) ?_
  refine kg_aload h (j := 0) (x := h0) (i := 0) (by decide +kernel) rfl ?_
  refine kg_bipush h (z := 60) (60 : Int32) (by decide +kernel) (by decide) ?_
  refine kg_newa h hA 60 (by decide) (by decide) (by decide) (by decide +kernel) (wsC_at 51 (by decide +kernel) rfl) (by rw [hR]; exact ⟨Nat.le_of_ble_eq_true rfl, Nat.le_of_ble_eq_true rfl⟩) (fun a0 => ?_)
  refine kg_putF h hin (index := 9) (ci := 4) (q0 := 0) (fk := 0) (C := RX4) (T := TX4) (N := 4) (v := .ref a0) (ws' := [(h0, .inr (4, [.ref a0, .int 0, .int 0, .int 0])), (a0, .inl (xk X 0, 60, .inl (fun _ => 0)))]) rfl rfl (by decide) (by decide +kernel) (wsC_at 37 (by decide +kernel) rfl) rfl rfl rfl rfl (Nat.le_of_ble_eq_true rfl) rfl ?_
  refine kg_aload h (j := 0) (x := h0) (i := 0) (by decide +kernel) rfl ?_
  refine kg_iconst h (z := 0) (0 : Int32) (by decide +kernel) (by decide) ?_
  refine kg_put h (index := 15) (ci := 4) (q0 := 0) (fk := 1) (C := RX4) (T := TX4) (N := 4) (v := .int 0) (ws' := [(h0, .inr (4, [.ref a0, .int 0, .int 0, .int 0])), (a0, .inl (xk X 0, 60, .inl (fun _ => 0)))]) rfl rfl (by decide) (by decide +kernel) (wsC_at 38 (by decide +kernel) rfl) rfl rfl rfl (Nat.le_of_ble_eq_true rfl) rfl ?_
  refine kg_aload h (j := 0) (x := h0) (i := 0) (by decide +kernel) rfl ?_
  refine kg_iconst h (z := 0) (0 : Int32) (by decide +kernel) (by decide) ?_
  refine kg_put h (index := 19) (ci := 4) (q0 := 0) (fk := 2) (C := RX4) (T := TX4) (N := 4) (v := .int 0) (ws' := [(h0, .inr (4, [.ref a0, .int 0, .int 0, .int 0])), (a0, .inl (xk X 0, 60, .inl (fun _ => 0)))]) rfl rfl (by decide) (by decide +kernel) (wsC_at 40 (by decide +kernel) rfl) rfl rfl rfl (Nat.le_of_ble_eq_true rfl) rfl ?_
  refine kg_aload h (j := 0) (x := h0) (i := 0) (by decide +kernel) rfl ?_
  refine kg_iconst h (z := 0) (0 : Int32) (by decide +kernel) (by decide) ?_
  refine kg_put h (index := 23) (ci := 4) (q0 := 0) (fk := 3) (C := RX4) (T := TX4) (N := 4) (v := .int 0) (ws' := [(h0, .inr (4, [.ref a0, .int 0, .int 0, .int 0])), (a0, .inl (xk X 0, 60, .inl (fun _ => 0)))]) rfl rfl (by decide) (by decide +kernel) (wsC_at 41 (by decide +kernel) rfl) rfl rfl rfl (Nat.le_of_ble_eq_true rfl) rfl ?_
  refine kg_widen (n' := 1) (k' := 60) (Nat.le_of_ble_eq_true rfl) (Nat.le_of_ble_eq_true rfl) ?_
  exact kg_ret h hr (by decide +kernel) (fun j => [a0].getD j 0) rfl
/-- HeronFord$Crossing() -/
def dvX0 : List Value := [.null, .null, .null, .null, .null, .null, .null, .null, .int 0, .int 0, .int 0, .int 0, .int 0, .int 0]
theorem dfX0 : ∀ j, j < 14 → defaultValue (tyK 0 j) = vp_V dvX0 j := fun j hj => by
  rcases (show j = 0 ∨ j = 1 ∨ j = 2 ∨ j = 3 ∨ j = 4 ∨ j = 5 ∨ j = 6 ∨ j = 7 ∨ j = 8 ∨ j = 9 ∨ j = 10 ∨ j = 11 ∨ j = 12 ∨ j = 13 by omega) with rfl | rfl | rfl | rfl | rfl | rfl | rfl | rfl | rfl | rfl | rfl | rfl | rfl | rfl <;> rfl
def LX0 (cs : Nat → ClassId) (h0 : Nat) (as : Nat → Nat) : va_W := [(h0, .inr (0, [.ref (as 0), .ref (as 1), .ref (as 2), .ref (as 3), .ref (as 4), .ref (as 5), .ref (as 6), .ref (as 7), .int 0, .int 0, .int 0, .int 0, .int 0, .int 0])), (as 0, .inl (cs 0, 5, .inl (fun _ => 0))), (as 1, .inl (cs 0, 5, .inl (fun _ => 0))), (as 2, .inl (cs 0, 5, .inl (fun _ => 0))), (as 3, .inl (cs 0, 5, .inl (fun _ => 0))), (as 4, .inl (cs 0, 5, .inl (fun _ => 0))), (as 5, .inl (cs 3, 5, .inr (.inr (.inr (.inr (fun j => if j < 5 then some (as 5 + 1 + j) else none)))))), (as 5 + 1, .inl (cs 0, 5, .inl (fun _ => 0))), (as 5 + 2, .inl (cs 0, 5, .inl (fun _ => 0))), (as 5 + 3, .inl (cs 0, 5, .inl (fun _ => 0))), (as 5 + 4, .inl (cs 0, 5, .inl (fun _ => 0))), (as 5 + 5, .inl (cs 0, 5, .inl (fun _ => 0))), (as 6, .inl (cs 0, 32, .inl (fun _ => 0))), (as 7, .inl (cs 0, 32, .inl (fun _ => 0)))]
set_option maxHeartbeats 4000000 in
set_option maxRecDepth 100000 in
theorem ctiX0 (l : Launch) (dC : Nat → ClassId) (dI : Nat → Nat → Nat) (cs : Nat → ClassId) : CtI l dC dI cs yX0_init prog_2_method_1_code 1 1 13 119 0 dvX0 (LX0 cs) := by
  refine cti_of (by decide +kernel) rfl rfl (fun X A h0 h hin hl hC hI hk hR hn hr hA => ?_)
  subst hl hC hI hk
  refine kg_aload h (j := 0) (x := h0) (i := 0) (by decide +kernel) rfl ?_
  refine kg_obj h (index := 3) (by decide +kernel) (wsC_at 117 (by decide +kernel) rfl) (wsC_at 28 (by decide +kernel) rfl) (wsC_at 29 (by decide +kernel) rfl) (by rw [hR]; exact ⟨Nat.le_of_ble_eq_true rfl, Nat.le_of_ble_eq_true rfl⟩) ?_
  refine kg_aload h (j := 0) (x := h0) (i := 0) (by decide +kernel) rfl ?_
  refine kg_iconst h (z := 5) (5 : Int32) (by decide +kernel) (by decide) ?_
  refine kg_newa h hA 5 (by decide) (by decide) (by decide) (by decide +kernel) (wsC_at 51 (by decide +kernel) rfl) (by rw [hR]; exact ⟨Nat.le_of_ble_eq_true rfl, Nat.le_of_ble_eq_true rfl⟩) (fun a0 => ?_)
  refine kg_putF h hin (index := 9) (ci := 0) (q0 := 0) (fk := 0) (C := RX0) (T := TX0) (N := 14) (v := .ref a0) (ws' := [(h0, .inr (0, [.ref a0, .null, .null, .null, .null, .null, .null, .null, .int 0, .int 0, .int 0, .int 0, .int 0, .int 0])), (a0, .inl (xk X 0, 5, .inl (fun _ => 0)))]) rfl rfl (by decide) (by decide +kernel) (wsC_at 120 (by decide +kernel) rfl) rfl rfl rfl rfl (Nat.le_of_ble_eq_true rfl) rfl ?_
  refine kg_aload h (j := 0) (x := h0) (i := 0) (by decide +kernel) rfl ?_
  refine kg_iconst h (z := 5) (5 : Int32) (by decide +kernel) (by decide) ?_
  refine kg_newa h hA 5 (by decide) (by decide) (by decide) (by decide +kernel) (wsC_at 51 (by decide +kernel) rfl) (by rw [hR]; exact ⟨Nat.le_of_ble_eq_true rfl, Nat.le_of_ble_eq_true rfl⟩) (fun a1 => ?_)
  refine kg_putF h hin (index := 15) (ci := 0) (q0 := 0) (fk := 1) (C := RX0) (T := TX0) (N := 14) (v := .ref a1) (ws' := [(h0, .inr (0, [.ref a0, .ref a1, .null, .null, .null, .null, .null, .null, .int 0, .int 0, .int 0, .int 0, .int 0, .int 0])), (a0, .inl (xk X 0, 5, .inl (fun _ => 0))), (a1, .inl (xk X 0, 5, .inl (fun _ => 0)))]) rfl rfl (by decide) (by decide +kernel) (wsC_at 121 (by decide +kernel) rfl) rfl rfl rfl rfl (Nat.le_of_ble_eq_true rfl) rfl ?_
  refine kg_aload h (j := 0) (x := h0) (i := 0) (by decide +kernel) rfl ?_
  refine kg_iconst h (z := 5) (5 : Int32) (by decide +kernel) (by decide) ?_
  refine kg_newa h hA 5 (by decide) (by decide) (by decide) (by decide +kernel) (wsC_at 51 (by decide +kernel) rfl) (by rw [hR]; exact ⟨Nat.le_of_ble_eq_true rfl, Nat.le_of_ble_eq_true rfl⟩) (fun a2 => ?_)
  refine kg_putF h hin (index := 18) (ci := 0) (q0 := 0) (fk := 2) (C := RX0) (T := TX0) (N := 14) (v := .ref a2) (ws' := [(h0, .inr (0, [.ref a0, .ref a1, .ref a2, .null, .null, .null, .null, .null, .int 0, .int 0, .int 0, .int 0, .int 0, .int 0])), (a0, .inl (xk X 0, 5, .inl (fun _ => 0))), (a1, .inl (xk X 0, 5, .inl (fun _ => 0))), (a2, .inl (xk X 0, 5, .inl (fun _ => 0)))]) rfl rfl (by decide) (by decide +kernel) (wsC_at 122 (by decide +kernel) rfl) rfl rfl rfl rfl (Nat.le_of_ble_eq_true rfl) rfl ?_
  refine kg_aload h (j := 0) (x := h0) (i := 0) (by decide +kernel) rfl ?_
  refine kg_iconst h (z := 5) (5 : Int32) (by decide +kernel) (by decide) ?_
  refine kg_newa h hA 5 (by decide) (by decide) (by decide) (by decide +kernel) (wsC_at 51 (by decide +kernel) rfl) (by rw [hR]; exact ⟨Nat.le_of_ble_eq_true rfl, Nat.le_of_ble_eq_true rfl⟩) (fun a3 => ?_)
  refine kg_putF h hin (index := 21) (ci := 0) (q0 := 0) (fk := 3) (C := RX0) (T := TX0) (N := 14) (v := .ref a3) (ws' := [(h0, .inr (0, [.ref a0, .ref a1, .ref a2, .ref a3, .null, .null, .null, .null, .int 0, .int 0, .int 0, .int 0, .int 0, .int 0])), (a0, .inl (xk X 0, 5, .inl (fun _ => 0))), (a1, .inl (xk X 0, 5, .inl (fun _ => 0))), (a2, .inl (xk X 0, 5, .inl (fun _ => 0))), (a3, .inl (xk X 0, 5, .inl (fun _ => 0)))]) rfl rfl (by decide) (by decide +kernel) (wsC_at 124 (by decide +kernel) rfl) rfl rfl rfl rfl (Nat.le_of_ble_eq_true rfl) rfl ?_
  refine kg_aload h (j := 0) (x := h0) (i := 0) (by decide +kernel) rfl ?_
  refine kg_iconst h (z := 5) (5 : Int32) (by decide +kernel) (by decide) ?_
  refine kg_newa h hA 5 (by decide) (by decide) (by decide) (by decide +kernel) (wsC_at 51 (by decide +kernel) rfl) (by rw [hR]; exact ⟨Nat.le_of_ble_eq_true rfl, Nat.le_of_ble_eq_true rfl⟩) (fun a4 => ?_)
  refine kg_putF h hin (index := 24) (ci := 0) (q0 := 0) (fk := 4) (C := RX0) (T := TX0) (N := 14) (v := .ref a4) (ws' := [(h0, .inr (0, [.ref a0, .ref a1, .ref a2, .ref a3, .ref a4, .null, .null, .null, .int 0, .int 0, .int 0, .int 0, .int 0, .int 0])), (a0, .inl (xk X 0, 5, .inl (fun _ => 0))), (a1, .inl (xk X 0, 5, .inl (fun _ => 0))), (a2, .inl (xk X 0, 5, .inl (fun _ => 0))), (a3, .inl (xk X 0, 5, .inl (fun _ => 0))), (a4, .inl (xk X 0, 5, .inl (fun _ => 0)))]) rfl rfl (by decide) (by decide +kernel) (wsC_at 125 (by decide +kernel) rfl) rfl rfl rfl rfl (Nat.le_of_ble_eq_true rfl) rfl ?_
  refine kg_aload h (j := 0) (x := h0) (i := 0) (by decide +kernel) rfl ?_
  refine kg_iconst h (z := 5) (5 : Int32) (by decide +kernel) (by decide) ?_
  refine kg_iconst h (z := 5) (5 : Int32) (by decide +kernel) (by decide) ?_
  refine kg_mna h hA (index := 27) (by decide +kernel) (wsC_at 118 (by decide +kernel) rfl) (wsC_at 51 (by decide +kernel) rfl) (by rw [hR]; exact ⟨Nat.le_of_ble_eq_true rfl, Nat.le_of_ble_eq_true rfl⟩) (fun a5 => ?_)
  refine kg_putF h hin (index := 29) (ci := 0) (q0 := 0) (fk := 5) (C := RX0) (T := TX0) (N := 14) (v := .ref a5) (ws' := [(h0, .inr (0, [.ref a0, .ref a1, .ref a2, .ref a3, .ref a4, .ref a5, .null, .null, .int 0, .int 0, .int 0, .int 0, .int 0, .int 0])), (a0, .inl (xk X 0, 5, .inl (fun _ => 0))), (a1, .inl (xk X 0, 5, .inl (fun _ => 0))), (a2, .inl (xk X 0, 5, .inl (fun _ => 0))), (a3, .inl (xk X 0, 5, .inl (fun _ => 0))), (a4, .inl (xk X 0, 5, .inl (fun _ => 0))), (a5, .inl (xk X 3, 5, .inr (.inr (.inr (.inr (fun j => if j < 5 then some (a5 + 1 + j) else none)))))), (a5 + 1, .inl (xk X 0, 5, .inl (fun _ => 0))), (a5 + 2, .inl (xk X 0, 5, .inl (fun _ => 0))), (a5 + 3, .inl (xk X 0, 5, .inl (fun _ => 0))), (a5 + 4, .inl (xk X 0, 5, .inl (fun _ => 0))), (a5 + 5, .inl (xk X 0, 5, .inl (fun _ => 0)))]) rfl rfl (by decide) (by decide +kernel) (wsC_at 126 (by decide +kernel) rfl) rfl rfl rfl rfl (Nat.le_of_ble_eq_true rfl) rfl ?_
  refine kg_aload h (j := 0) (x := h0) (i := 0) (by decide +kernel) rfl ?_
  refine kg_bipush h (z := 32) (32 : Int32) (by decide +kernel) (by decide) ?_
  refine kg_newa h hA 32 (by decide) (by decide) (by decide) (by decide +kernel) (wsC_at 51 (by decide +kernel) rfl) (by rw [hR]; exact ⟨Nat.le_of_ble_eq_true rfl, Nat.le_of_ble_eq_true rfl⟩) (fun a6 => ?_)
  refine kg_putF h hin (index := 32) (ci := 0) (q0 := 0) (fk := 6) (C := RX0) (T := TX0) (N := 14) (v := .ref a6) (ws' := [(h0, .inr (0, [.ref a0, .ref a1, .ref a2, .ref a3, .ref a4, .ref a5, .ref a6, .null, .int 0, .int 0, .int 0, .int 0, .int 0, .int 0])), (a0, .inl (xk X 0, 5, .inl (fun _ => 0))), (a1, .inl (xk X 0, 5, .inl (fun _ => 0))), (a2, .inl (xk X 0, 5, .inl (fun _ => 0))), (a3, .inl (xk X 0, 5, .inl (fun _ => 0))), (a4, .inl (xk X 0, 5, .inl (fun _ => 0))), (a5, .inl (xk X 3, 5, .inr (.inr (.inr (.inr (fun j => if j < 5 then some (a5 + 1 + j) else none)))))), (a5 + 1, .inl (xk X 0, 5, .inl (fun _ => 0))), (a5 + 2, .inl (xk X 0, 5, .inl (fun _ => 0))), (a5 + 3, .inl (xk X 0, 5, .inl (fun _ => 0))), (a5 + 4, .inl (xk X 0, 5, .inl (fun _ => 0))), (a5 + 5, .inl (xk X 0, 5, .inl (fun _ => 0))), (a6, .inl (xk X 0, 32, .inl (fun _ => 0)))]) rfl rfl (by decide) (by decide +kernel) (wsC_at 128 (by decide +kernel) rfl) rfl rfl rfl rfl (Nat.le_of_ble_eq_true rfl) rfl ?_
  refine kg_aload h (j := 0) (x := h0) (i := 0) (by decide +kernel) rfl ?_
  refine kg_bipush h (z := 32) (32 : Int32) (by decide +kernel) (by decide) ?_
  refine kg_newa h hA 32 (by decide) (by decide) (by decide) (by decide +kernel) (wsC_at 51 (by decide +kernel) rfl) (by rw [hR]; exact ⟨Nat.le_of_ble_eq_true rfl, Nat.le_of_ble_eq_true rfl⟩) (fun a7 => ?_)
  refine kg_putF h hin (index := 35) (ci := 0) (q0 := 0) (fk := 7) (C := RX0) (T := TX0) (N := 14) (v := .ref a7) (ws' := [(h0, .inr (0, [.ref a0, .ref a1, .ref a2, .ref a3, .ref a4, .ref a5, .ref a6, .ref a7, .int 0, .int 0, .int 0, .int 0, .int 0, .int 0])), (a0, .inl (xk X 0, 5, .inl (fun _ => 0))), (a1, .inl (xk X 0, 5, .inl (fun _ => 0))), (a2, .inl (xk X 0, 5, .inl (fun _ => 0))), (a3, .inl (xk X 0, 5, .inl (fun _ => 0))), (a4, .inl (xk X 0, 5, .inl (fun _ => 0))), (a5, .inl (xk X 3, 5, .inr (.inr (.inr (.inr (fun j => if j < 5 then some (a5 + 1 + j) else none)))))), (a5 + 1, .inl (xk X 0, 5, .inl (fun _ => 0))), (a5 + 2, .inl (xk X 0, 5, .inl (fun _ => 0))), (a5 + 3, .inl (xk X 0, 5, .inl (fun _ => 0))), (a5 + 4, .inl (xk X 0, 5, .inl (fun _ => 0))), (a5 + 5, .inl (xk X 0, 5, .inl (fun _ => 0))), (a6, .inl (xk X 0, 32, .inl (fun _ => 0))), (a7, .inl (xk X 0, 32, .inl (fun _ => 0)))]) rfl rfl (by decide) (by decide +kernel) (wsC_at 129 (by decide +kernel) rfl) rfl rfl rfl rfl (Nat.le_of_ble_eq_true rfl) rfl ?_
  refine kg_widen (n' := 13) (k' := 119) (Nat.le_of_ble_eq_true rfl) (Nat.le_of_ble_eq_true rfl) ?_
  exact kg_ret h hr (by decide +kernel) (fun j => [a0, a1, a2, a3, a4, a5, a6, a7].getD j 0) rfl
/-- HeronFord$Search() -/
def dvX3 : List Value := [.null, .null, .null, .int 0, .int 0]
theorem dfX3 : ∀ j, j < 5 → defaultValue (tyK 3 j) = vp_V dvX3 j := fun j hj => by
  rcases (show j = 0 ∨ j = 1 ∨ j = 2 ∨ j = 3 ∨ j = 4 by omega) with rfl | rfl | rfl | rfl | rfl <;> rfl
def LX3 (cs : Nat → ClassId) (h0 : Nat) (as : Nat → Nat) : va_W := [(h0, .inr (3, [.ref (as 0), .ref (as 9), .ref (as 10), .int 0, .int 1000000])), (as 0, .inr (0, [.ref (as 1), .ref (as 2), .ref (as 3), .ref (as 4), .ref (as 5), .ref (as 6), .ref (as 7), .ref (as 8), .int 0, .int 0, .int 0, .int 0, .int 0, .int 0])), (as 1, .inl (cs 0, 5, .inl (fun _ => 0))), (as 2, .inl (cs 0, 5, .inl (fun _ => 0))), (as 3, .inl (cs 0, 5, .inl (fun _ => 0))), (as 4, .inl (cs 0, 5, .inl (fun _ => 0))), (as 5, .inl (cs 0, 5, .inl (fun _ => 0))), (as 6, .inl (cs 3, 5, .inr (.inr (.inr (.inr (fun j => if j < 5 then some (as 6 + 1 + j) else none)))))), (as 6 + 1, .inl (cs 0, 5, .inl (fun _ => 0))), (as 6 + 2, .inl (cs 0, 5, .inl (fun _ => 0))), (as 6 + 3, .inl (cs 0, 5, .inl (fun _ => 0))), (as 6 + 4, .inl (cs 0, 5, .inl (fun _ => 0))), (as 6 + 5, .inl (cs 0, 5, .inl (fun _ => 0))), (as 7, .inl (cs 0, 32, .inl (fun _ => 0))), (as 8, .inl (cs 0, 32, .inl (fun _ => 0))), (as 9, .inl (cs 0, 5, .inl (fun _ => 0))), (as 10, .inl (cs 0, 5, .inl (fun _ => 0)))]
set_option maxHeartbeats 4000000 in
set_option maxRecDepth 100000 in
theorem ctiX3 (l : Launch) (dC : Nat → ClassId) (dI : Nat → Nat → Nat) (cs : Nat → ClassId) : CtI l dC dI cs yX3_init prog_5_method_1_code 1 2 16 143 3 dvX3 (LX3 cs) := by
  refine cti_of (by decide +kernel) rfl rfl (fun X A h0 h hin hl hC hI hk hR hn hr hA => ?_)
  subst hl hC hI hk
  refine kg_aload h (j := 0) (x := h0) (i := 0) (by decide +kernel) rfl ?_
  refine kg_obj h (index := 3) (by decide +kernel) (wsC_at 174 (by decide +kernel) rfl) (wsC_at 28 (by decide +kernel) rfl) (wsC_at 29 (by decide +kernel) rfl) (by rw [hR]; exact ⟨Nat.le_of_ble_eq_true rfl, Nat.le_of_ble_eq_true rfl⟩) ?_
  refine kg_aload h (j := 0) (x := h0) (i := 0) (by decide +kernel) rfl ?_
  refine kg_new h hA (index := 9) (ci := 0) (C := RX0) (T := TX0) (N := 14) (fs := dvX0) rfl (by decide +kernel) (wsC_at 175 (by decide +kernel) rfl) (wsC_at 113 (by decide +kernel) rfl) (wsC_at 17 (by decide +kernel) rfl) dfX0 (by rw [hR]; exact ⟨Nat.le_of_ble_eq_true rfl, Nat.le_of_ble_eq_true rfl⟩) (fun a0 => ?_)
  refine kg_dup h (by decide +kernel) rfl ?_
  refine kg_ctor h hA (index := 11) (ctiX0 _ _ _ _) (by decide +kernel) (wsC_at 176 (by decide +kernel) rfl) (wsC_at 115 (by decide +kernel) rfl) (wsC_at 17 (by decide +kernel) rfl) (wsC_at 116 (by decide +kernel) rfl) rfl (by decide +kernel) (by rw [hR]; exact ⟨Nat.le_of_ble_eq_true rfl, Nat.le_of_ble_eq_true rfl⟩) (by rw [hR]; exact ⟨Nat.le_of_ble_eq_true rfl, Nat.le_of_ble_eq_true rfl⟩) (Nat.le_of_ble_eq_true rfl) (fun s1 => ?_)
  refine kg_putF h hin (index := 12) (ci := 3) (q0 := 0) (fk := 0) (C := RX3) (T := TX3) (N := 5) (v := .ref a0) (ws' := [(h0, .inr (3, [.ref a0, .null, .null, .int 0, .int 0])), (a0, .inr (0, [.ref (s1 0), .ref (s1 1), .ref (s1 2), .ref (s1 3), .ref (s1 4), .ref (s1 5), .ref (s1 6), .ref (s1 7), .int 0, .int 0, .int 0, .int 0, .int 0, .int 0])), (s1 0, .inl (xk X 0, 5, .inl (fun _ => 0))), (s1 1, .inl (xk X 0, 5, .inl (fun _ => 0))), (s1 2, .inl (xk X 0, 5, .inl (fun _ => 0))), (s1 3, .inl (xk X 0, 5, .inl (fun _ => 0))), (s1 4, .inl (xk X 0, 5, .inl (fun _ => 0))), (s1 5, .inl (xk X 3, 5, .inr (.inr (.inr (.inr (fun j => if j < 5 then some (s1 5 + 1 + j) else none)))))), (s1 5 + 1, .inl (xk X 0, 5, .inl (fun _ => 0))), (s1 5 + 2, .inl (xk X 0, 5, .inl (fun _ => 0))), (s1 5 + 3, .inl (xk X 0, 5, .inl (fun _ => 0))), (s1 5 + 4, .inl (xk X 0, 5, .inl (fun _ => 0))), (s1 5 + 5, .inl (xk X 0, 5, .inl (fun _ => 0))), (s1 6, .inl (xk X 0, 32, .inl (fun _ => 0))), (s1 7, .inl (xk X 0, 32, .inl (fun _ => 0)))]) rfl rfl (by decide) (by decide +kernel) (wsC_at 178 (by decide +kernel) rfl) rfl rfl rfl rfl (Nat.le_of_ble_eq_true rfl) rfl ?_
  refine kg_aload h (j := 0) (x := h0) (i := 0) (by decide +kernel) rfl ?_
  refine kg_iconst h (z := 5) (5 : Int32) (by decide +kernel) (by decide) ?_
  refine kg_newa h hA 5 (by decide) (by decide) (by decide) (by decide +kernel) (wsC_at 51 (by decide +kernel) rfl) (by rw [hR]; exact ⟨Nat.le_of_ble_eq_true rfl, Nat.le_of_ble_eq_true rfl⟩) (fun a2 => ?_)
  refine kg_putF h hin (index := 18) (ci := 3) (q0 := 0) (fk := 1) (C := RX3) (T := TX3) (N := 5) (v := .ref a2) (ws' := [(h0, .inr (3, [.ref a0, .ref a2, .null, .int 0, .int 0])), (a0, .inr (0, [.ref (s1 0), .ref (s1 1), .ref (s1 2), .ref (s1 3), .ref (s1 4), .ref (s1 5), .ref (s1 6), .ref (s1 7), .int 0, .int 0, .int 0, .int 0, .int 0, .int 0])), (s1 0, .inl (xk X 0, 5, .inl (fun _ => 0))), (s1 1, .inl (xk X 0, 5, .inl (fun _ => 0))), (s1 2, .inl (xk X 0, 5, .inl (fun _ => 0))), (s1 3, .inl (xk X 0, 5, .inl (fun _ => 0))), (s1 4, .inl (xk X 0, 5, .inl (fun _ => 0))), (s1 5, .inl (xk X 3, 5, .inr (.inr (.inr (.inr (fun j => if j < 5 then some (s1 5 + 1 + j) else none)))))), (s1 5 + 1, .inl (xk X 0, 5, .inl (fun _ => 0))), (s1 5 + 2, .inl (xk X 0, 5, .inl (fun _ => 0))), (s1 5 + 3, .inl (xk X 0, 5, .inl (fun _ => 0))), (s1 5 + 4, .inl (xk X 0, 5, .inl (fun _ => 0))), (s1 5 + 5, .inl (xk X 0, 5, .inl (fun _ => 0))), (s1 6, .inl (xk X 0, 32, .inl (fun _ => 0))), (s1 7, .inl (xk X 0, 32, .inl (fun _ => 0))), (a2, .inl (xk X 0, 5, .inl (fun _ => 0)))]) rfl rfl (by decide) (by decide +kernel) (wsC_at 179 (by decide +kernel) rfl) rfl rfl rfl rfl (Nat.le_of_ble_eq_true rfl) rfl ?_
  refine kg_aload h (j := 0) (x := h0) (i := 0) (by decide +kernel) rfl ?_
  refine kg_iconst h (z := 5) (5 : Int32) (by decide +kernel) (by decide) ?_
  refine kg_newa h hA 5 (by decide) (by decide) (by decide) (by decide +kernel) (wsC_at 51 (by decide +kernel) rfl) (by rw [hR]; exact ⟨Nat.le_of_ble_eq_true rfl, Nat.le_of_ble_eq_true rfl⟩) (fun a3 => ?_)
  refine kg_putF h hin (index := 22) (ci := 3) (q0 := 0) (fk := 2) (C := RX3) (T := TX3) (N := 5) (v := .ref a3) (ws' := [(h0, .inr (3, [.ref a0, .ref a2, .ref a3, .int 0, .int 0])), (a0, .inr (0, [.ref (s1 0), .ref (s1 1), .ref (s1 2), .ref (s1 3), .ref (s1 4), .ref (s1 5), .ref (s1 6), .ref (s1 7), .int 0, .int 0, .int 0, .int 0, .int 0, .int 0])), (s1 0, .inl (xk X 0, 5, .inl (fun _ => 0))), (s1 1, .inl (xk X 0, 5, .inl (fun _ => 0))), (s1 2, .inl (xk X 0, 5, .inl (fun _ => 0))), (s1 3, .inl (xk X 0, 5, .inl (fun _ => 0))), (s1 4, .inl (xk X 0, 5, .inl (fun _ => 0))), (s1 5, .inl (xk X 3, 5, .inr (.inr (.inr (.inr (fun j => if j < 5 then some (s1 5 + 1 + j) else none)))))), (s1 5 + 1, .inl (xk X 0, 5, .inl (fun _ => 0))), (s1 5 + 2, .inl (xk X 0, 5, .inl (fun _ => 0))), (s1 5 + 3, .inl (xk X 0, 5, .inl (fun _ => 0))), (s1 5 + 4, .inl (xk X 0, 5, .inl (fun _ => 0))), (s1 5 + 5, .inl (xk X 0, 5, .inl (fun _ => 0))), (s1 6, .inl (xk X 0, 32, .inl (fun _ => 0))), (s1 7, .inl (xk X 0, 32, .inl (fun _ => 0))), (a2, .inl (xk X 0, 5, .inl (fun _ => 0))), (a3, .inl (xk X 0, 5, .inl (fun _ => 0)))]) rfl rfl (by decide) (by decide +kernel) (wsC_at 180 (by decide +kernel) rfl) rfl rfl rfl rfl (Nat.le_of_ble_eq_true rfl) rfl ?_
  refine kg_aload h (j := 0) (x := h0) (i := 0) (by decide +kernel) rfl ?_
  refine kg_iconst h (z := 0) (0 : Int32) (by decide +kernel) (by decide) ?_
  refine kg_put h (index := 25) (ci := 3) (q0 := 0) (fk := 3) (C := RX3) (T := TX3) (N := 5) (v := .int 0) (ws' := [(h0, .inr (3, [.ref a0, .ref a2, .ref a3, .int 0, .int 0])), (a0, .inr (0, [.ref (s1 0), .ref (s1 1), .ref (s1 2), .ref (s1 3), .ref (s1 4), .ref (s1 5), .ref (s1 6), .ref (s1 7), .int 0, .int 0, .int 0, .int 0, .int 0, .int 0])), (s1 0, .inl (xk X 0, 5, .inl (fun _ => 0))), (s1 1, .inl (xk X 0, 5, .inl (fun _ => 0))), (s1 2, .inl (xk X 0, 5, .inl (fun _ => 0))), (s1 3, .inl (xk X 0, 5, .inl (fun _ => 0))), (s1 4, .inl (xk X 0, 5, .inl (fun _ => 0))), (s1 5, .inl (xk X 3, 5, .inr (.inr (.inr (.inr (fun j => if j < 5 then some (s1 5 + 1 + j) else none)))))), (s1 5 + 1, .inl (xk X 0, 5, .inl (fun _ => 0))), (s1 5 + 2, .inl (xk X 0, 5, .inl (fun _ => 0))), (s1 5 + 3, .inl (xk X 0, 5, .inl (fun _ => 0))), (s1 5 + 4, .inl (xk X 0, 5, .inl (fun _ => 0))), (s1 5 + 5, .inl (xk X 0, 5, .inl (fun _ => 0))), (s1 6, .inl (xk X 0, 32, .inl (fun _ => 0))), (s1 7, .inl (xk X 0, 32, .inl (fun _ => 0))), (a2, .inl (xk X 0, 5, .inl (fun _ => 0))), (a3, .inl (xk X 0, 5, .inl (fun _ => 0)))]) rfl rfl (by decide) (by decide +kernel) (wsC_at 181 (by decide +kernel) rfl) rfl rfl rfl (Nat.le_of_ble_eq_true rfl) rfl ?_
  refine kg_aload h (j := 0) (x := h0) (i := 0) (by decide +kernel) rfl ?_
  refine kg_ldc h (index := 29) (1000000 : Int32) (by decide +kernel) (wsC_at 177 (by decide +kernel) rfl) ?_
  refine kg_put h (index := 30) (ci := 3) (q0 := 0) (fk := 4) (C := RX3) (T := TX3) (N := 5) (v := .int 1000000) (ws' := [(h0, .inr (3, [.ref a0, .ref a2, .ref a3, .int 0, .int 1000000])), (a0, .inr (0, [.ref (s1 0), .ref (s1 1), .ref (s1 2), .ref (s1 3), .ref (s1 4), .ref (s1 5), .ref (s1 6), .ref (s1 7), .int 0, .int 0, .int 0, .int 0, .int 0, .int 0])), (s1 0, .inl (xk X 0, 5, .inl (fun _ => 0))), (s1 1, .inl (xk X 0, 5, .inl (fun _ => 0))), (s1 2, .inl (xk X 0, 5, .inl (fun _ => 0))), (s1 3, .inl (xk X 0, 5, .inl (fun _ => 0))), (s1 4, .inl (xk X 0, 5, .inl (fun _ => 0))), (s1 5, .inl (xk X 3, 5, .inr (.inr (.inr (.inr (fun j => if j < 5 then some (s1 5 + 1 + j) else none)))))), (s1 5 + 1, .inl (xk X 0, 5, .inl (fun _ => 0))), (s1 5 + 2, .inl (xk X 0, 5, .inl (fun _ => 0))), (s1 5 + 3, .inl (xk X 0, 5, .inl (fun _ => 0))), (s1 5 + 4, .inl (xk X 0, 5, .inl (fun _ => 0))), (s1 5 + 5, .inl (xk X 0, 5, .inl (fun _ => 0))), (s1 6, .inl (xk X 0, 32, .inl (fun _ => 0))), (s1 7, .inl (xk X 0, 32, .inl (fun _ => 0))), (a2, .inl (xk X 0, 5, .inl (fun _ => 0))), (a3, .inl (xk X 0, 5, .inl (fun _ => 0)))]) rfl rfl (by decide) (by decide +kernel) (wsC_at 182 (by decide +kernel) rfl) rfl rfl rfl (Nat.le_of_ble_eq_true rfl) rfl ?_
  refine kg_widen (n' := 16) (k' := 143) (Nat.le_of_ble_eq_true rfl) (Nat.le_of_ble_eq_true rfl) ?_
  exact kg_ret h hr (by decide +kernel) (fun j => [a0, (s1 0), (s1 1), (s1 2), (s1 3), (s1 4), (s1 5), (s1 6), (s1 7), a2, a3].getD j 0) rfl
end
section
/-! ===== constructors (printed by wip/p31/gen91.py) ===== -/
/-- HeronFord$Told() -/
def dvX5 : List Value := [.null, .int 0, .int 0, .int 0]
theorem dfX5 : ∀ j, j < 4 → defaultValue (tyK 5 j) = vp_V dvX5 j := fun j hj => by
  rcases (show j = 0 ∨ j = 1 ∨ j = 2 ∨ j = 3 by omega) with rfl | rfl | rfl | rfl <;> rfl
def LX5 (cs : Nat → ClassId) (h0 : Nat) (as : Nat → Nat) : va_W := [(h0, .inr (5, [.ref (as 0), .int 0, .int 0, .int 0])), (as 0, .inl (cs 2, 5, .inr (.inr (.inr (.inr (va_up (va_up (va_up (va_up (va_up (fun _ => none) 0 (some (as 1))) 1 (some (as 2))) 2 (some (as 3))) 3 (some (as 4))) 4 (some (as 5)))))))), (as 1, .inr (1, [.int 0, .int 0, .int 0, .int 0, .int 0])), (as 2, .inr (1, [.int 0, .int 0, .int 0, .int 0, .int 0])), (as 3, .inr (1, [.int 0, .int 0, .int 0, .int 0, .int 0])), (as 4, .inr (1, [.int 0, .int 0, .int 0, .int 0, .int 0])), (as 5, .inr (1, [.int 0, .int 0, .int 0, .int 0, .int 0]))]
set_option maxHeartbeats 4000000 in
set_option maxRecDepth 100000 in
theorem ctiX5 (l : Launch) (dC : Nat → ClassId) (dI : Nat → Nat → Nat) (cs : Nat → ClassId) : CtI l dC dI cs yX5_init prog_7_method_1_code 2 2 6 30 5 dvX5 (LX5 cs) := by
  refine cti_of (by decide +kernel) rfl rfl (fun X A h0 h hin hl hC hI hk hR hn hr hA => ?_)
  subst hl hC hI hk
  refine kg_aload h (j := 0) (x := h0) (i := 0) (by decide +kernel) rfl ?_
  refine kg_obj h (index := 3) (by decide +kernel) (wsC_at 57 (by decide +kernel) rfl) (wsC_at 28 (by decide +kernel) rfl) (wsC_at 29 (by decide +kernel) rfl) (by rw [hR]; exact ⟨Nat.le_of_ble_eq_true rfl, Nat.le_of_ble_eq_true rfl⟩) ?_
  refine kg_aload h (j := 0) (x := h0) (i := 0) (by decide +kernel) rfl ?_
  refine kg_iconst h (z := 5) (5 : Int32) (by decide +kernel) (by decide) ?_
  refine kg_newq h hA (index := 9) (t := 2) (C := RX1) 5 (by decide) (by decide) (by decide) (by decide +kernel) (wsC_at 58 (by decide +kernel) rfl) h.2.2.2.2.2.1.2.1.2.1 rfl (by rw [hR]; exact ⟨Nat.le_of_ble_eq_true rfl, Nat.le_of_ble_eq_true rfl⟩) (fun a0 => ?_)
  refine kg_putF h hin (index := 11) (ci := 5) (q0 := 0) (fk := 0) (C := RX5) (T := TX5) (N := 4) (v := .ref a0) (ws' := [(h0, .inr (5, [.ref a0, .int 0, .int 0, .int 0])), (a0, .inl (xk X 2, 5, .inr (.inr (.inr (.inr (fun _ => none))))))]) rfl rfl (by decide) (by decide +kernel) (wsC_at 91 (by decide +kernel) rfl) rfl rfl rfl rfl (Nat.le_of_ble_eq_true rfl) rfl ?_
  refine kg_iconst h (z := 0) (0 : Int32) (by decide +kernel) (by decide) ?_
  refine kg_istore h (j := 1) (ls' := [(1, .int 0), (0, .ref h0)]) (by decide +kernel) (by rw [hn]; decide) rfl ?_
  refine kg_iload h (j := 1) (x := 0) (i := 0) (by decide +kernel) rfl ?_
  refine kg_iconst h (z := 5) (5 : Int32) (by decide +kernel) (by decide) ?_
  refine kg_geF h (off := 22) 38 (by decide +kernel) (by decide) (by decide) ?_
  refine kg_aload h (j := 0) (x := h0) (i := 1) (by decide +kernel) rfl ?_
  refine kg_get h (index := 11) (ci := 5) (q0 := 0) (fk := 0) (C := RX5) (T := TX5) (N := 4) (.ref a0) rfl rfl (by decide) (by decide +kernel) (wsC_at 91 (by decide +kernel) rfl) rfl ?_
  refine kg_iload h (j := 1) (x := 0) (i := 0) (by decide +kernel) rfl ?_
  refine kg_new h hA (index := 9) (ci := 1) (C := RX1) (T := TX1) (N := 5) (fs := dvX1) rfl (by decide +kernel) (wsC_at 58 (by decide +kernel) rfl) (wsC_at 60 (by decide +kernel) rfl) (wsC_at 16 (by decide +kernel) rfl) dfX1 (by rw [hR]; exact ⟨Nat.le_of_ble_eq_true rfl, Nat.le_of_ble_eq_true rfl⟩) (fun a1 => ?_)
  refine kg_dup h (by decide +kernel) rfl ?_
  refine kg_ctorN h hA (index := 17) (host := "HeronFord") (ctiX1 _ _ _ _) (by decide +kernel) (List.mem_filter.mpr ⟨List.mem_of_getElem? (i := 61) (by decide +kernel), rfl⟩) (wsC_at 62 (by decide +kernel) rfl) (wsC_at 16 (by decide +kernel) rfl) (wsC_at 63 (by decide +kernel) rfl) rfl (by decide +kernel) (by rw [hR]; exact ⟨Nat.le_of_ble_eq_true rfl, Nat.le_of_ble_eq_true rfl⟩) (by rw [hR]; exact ⟨Nat.le_of_ble_eq_true rfl, Nat.le_of_ble_eq_true rfl⟩) (Nat.le_of_ble_eq_true rfl) (fun s2 => ?_)
  refine kg_aast h (q0 := 1) (qk := 2) (t := 2) (N := 5) (j := 0) (ci := 1) (C := RX1) (T := TX1) (N2 := 5) (ws' := [(h0, .inr (5, [.ref a0, .int 0, .int 0, .int 0])), (a0, .inl (xk X 2, 5, .inr (.inr (.inr (.inr (va_up (fun _ => none) 0 (some a1))))))), (a1, .inr (1, [.int 0, .int 0, .int 0, .int 0, .int 0]))]) rfl rfl rfl rfl (inB_in (by decide)).1 (by decide) (by decide +kernel) rfl ?_
  refine kg_iinc h (i := 1) (z := 1) (q := 0) (v := 1) (ls' := [(1, .int 1), (0, .ref h0)]) (by decide +kernel) rfl (by decide) (by rw [hn]; decide) rfl ?_
  refine kg_goto h (off := -21) 14 (by decide +kernel) (by decide) ?_
  refine kg_iload h (j := 1) (x := 1) (i := 0) (by decide +kernel) rfl ?_
  refine kg_iconst h (z := 5) (5 : Int32) (by decide +kernel) (by decide) ?_
  refine kg_geF h (off := 22) 38 (by decide +kernel) (by decide) (by decide) ?_
  refine kg_aload h (j := 0) (x := h0) (i := 1) (by decide +kernel) rfl ?_
  refine kg_get h (index := 11) (ci := 5) (q0 := 0) (fk := 0) (C := RX5) (T := TX5) (N := 4) (.ref a0) rfl rfl (by decide) (by decide +kernel) (wsC_at 91 (by decide +kernel) rfl) rfl ?_
  refine kg_iload h (j := 1) (x := 1) (i := 0) (by decide +kernel) rfl ?_
  refine kg_new h hA (index := 9) (ci := 1) (C := RX1) (T := TX1) (N := 5) (fs := dvX1) rfl (by decide +kernel) (wsC_at 58 (by decide +kernel) rfl) (wsC_at 60 (by decide +kernel) rfl) (wsC_at 16 (by decide +kernel) rfl) dfX1 (by rw [hR]; exact ⟨Nat.le_of_ble_eq_true rfl, Nat.le_of_ble_eq_true rfl⟩) (fun a3 => ?_)
  refine kg_dup h (by decide +kernel) rfl ?_
  refine kg_ctorN h hA (index := 17) (host := "HeronFord") (ctiX1 _ _ _ _) (by decide +kernel) (List.mem_filter.mpr ⟨List.mem_of_getElem? (i := 61) (by decide +kernel), rfl⟩) (wsC_at 62 (by decide +kernel) rfl) (wsC_at 16 (by decide +kernel) rfl) (wsC_at 63 (by decide +kernel) rfl) rfl (by decide +kernel) (by rw [hR]; exact ⟨Nat.le_of_ble_eq_true rfl, Nat.le_of_ble_eq_true rfl⟩) (by rw [hR]; exact ⟨Nat.le_of_ble_eq_true rfl, Nat.le_of_ble_eq_true rfl⟩) (Nat.le_of_ble_eq_true rfl) (fun s4 => ?_)
  refine kg_aast h (q0 := 1) (qk := 3) (t := 2) (N := 5) (j := 1) (ci := 1) (C := RX1) (T := TX1) (N2 := 5) (ws' := [(h0, .inr (5, [.ref a0, .int 0, .int 0, .int 0])), (a0, .inl (xk X 2, 5, .inr (.inr (.inr (.inr (va_up (va_up (fun _ => none) 0 (some a1)) 1 (some a3))))))), (a1, .inr (1, [.int 0, .int 0, .int 0, .int 0, .int 0])), (a3, .inr (1, [.int 0, .int 0, .int 0, .int 0, .int 0]))]) rfl rfl rfl rfl (inB_in (by decide)).1 (by decide) (by decide +kernel) rfl ?_
  refine kg_iinc h (i := 1) (z := 1) (q := 0) (v := 2) (ls' := [(1, .int 2), (0, .ref h0)]) (by decide +kernel) rfl (by decide) (by rw [hn]; decide) rfl ?_
  refine kg_goto h (off := -21) 14 (by decide +kernel) (by decide) ?_
  refine kg_iload h (j := 1) (x := 2) (i := 0) (by decide +kernel) rfl ?_
  refine kg_iconst h (z := 5) (5 : Int32) (by decide +kernel) (by decide) ?_
  refine kg_geF h (off := 22) 38 (by decide +kernel) (by decide) (by decide) ?_
  refine kg_aload h (j := 0) (x := h0) (i := 1) (by decide +kernel) rfl ?_
  refine kg_get h (index := 11) (ci := 5) (q0 := 0) (fk := 0) (C := RX5) (T := TX5) (N := 4) (.ref a0) rfl rfl (by decide) (by decide +kernel) (wsC_at 91 (by decide +kernel) rfl) rfl ?_
  refine kg_iload h (j := 1) (x := 2) (i := 0) (by decide +kernel) rfl ?_
  refine kg_new h hA (index := 9) (ci := 1) (C := RX1) (T := TX1) (N := 5) (fs := dvX1) rfl (by decide +kernel) (wsC_at 58 (by decide +kernel) rfl) (wsC_at 60 (by decide +kernel) rfl) (wsC_at 16 (by decide +kernel) rfl) dfX1 (by rw [hR]; exact ⟨Nat.le_of_ble_eq_true rfl, Nat.le_of_ble_eq_true rfl⟩) (fun a5 => ?_)
  refine kg_dup h (by decide +kernel) rfl ?_
  refine kg_ctorN h hA (index := 17) (host := "HeronFord") (ctiX1 _ _ _ _) (by decide +kernel) (List.mem_filter.mpr ⟨List.mem_of_getElem? (i := 61) (by decide +kernel), rfl⟩) (wsC_at 62 (by decide +kernel) rfl) (wsC_at 16 (by decide +kernel) rfl) (wsC_at 63 (by decide +kernel) rfl) rfl (by decide +kernel) (by rw [hR]; exact ⟨Nat.le_of_ble_eq_true rfl, Nat.le_of_ble_eq_true rfl⟩) (by rw [hR]; exact ⟨Nat.le_of_ble_eq_true rfl, Nat.le_of_ble_eq_true rfl⟩) (Nat.le_of_ble_eq_true rfl) (fun s6 => ?_)
  refine kg_aast h (q0 := 1) (qk := 4) (t := 2) (N := 5) (j := 2) (ci := 1) (C := RX1) (T := TX1) (N2 := 5) (ws' := [(h0, .inr (5, [.ref a0, .int 0, .int 0, .int 0])), (a0, .inl (xk X 2, 5, .inr (.inr (.inr (.inr (va_up (va_up (va_up (fun _ => none) 0 (some a1)) 1 (some a3)) 2 (some a5))))))), (a1, .inr (1, [.int 0, .int 0, .int 0, .int 0, .int 0])), (a3, .inr (1, [.int 0, .int 0, .int 0, .int 0, .int 0])), (a5, .inr (1, [.int 0, .int 0, .int 0, .int 0, .int 0]))]) rfl rfl rfl rfl (inB_in (by decide)).1 (by decide) (by decide +kernel) rfl ?_
  refine kg_iinc h (i := 1) (z := 1) (q := 0) (v := 3) (ls' := [(1, .int 3), (0, .ref h0)]) (by decide +kernel) rfl (by decide) (by rw [hn]; decide) rfl ?_
  refine kg_goto h (off := -21) 14 (by decide +kernel) (by decide) ?_
  refine kg_iload h (j := 1) (x := 3) (i := 0) (by decide +kernel) rfl ?_
  refine kg_iconst h (z := 5) (5 : Int32) (by decide +kernel) (by decide) ?_
  refine kg_geF h (off := 22) 38 (by decide +kernel) (by decide) (by decide) ?_
  refine kg_aload h (j := 0) (x := h0) (i := 1) (by decide +kernel) rfl ?_
  refine kg_get h (index := 11) (ci := 5) (q0 := 0) (fk := 0) (C := RX5) (T := TX5) (N := 4) (.ref a0) rfl rfl (by decide) (by decide +kernel) (wsC_at 91 (by decide +kernel) rfl) rfl ?_
  refine kg_iload h (j := 1) (x := 3) (i := 0) (by decide +kernel) rfl ?_
  refine kg_new h hA (index := 9) (ci := 1) (C := RX1) (T := TX1) (N := 5) (fs := dvX1) rfl (by decide +kernel) (wsC_at 58 (by decide +kernel) rfl) (wsC_at 60 (by decide +kernel) rfl) (wsC_at 16 (by decide +kernel) rfl) dfX1 (by rw [hR]; exact ⟨Nat.le_of_ble_eq_true rfl, Nat.le_of_ble_eq_true rfl⟩) (fun a7 => ?_)
  refine kg_dup h (by decide +kernel) rfl ?_
  refine kg_ctorN h hA (index := 17) (host := "HeronFord") (ctiX1 _ _ _ _) (by decide +kernel) (List.mem_filter.mpr ⟨List.mem_of_getElem? (i := 61) (by decide +kernel), rfl⟩) (wsC_at 62 (by decide +kernel) rfl) (wsC_at 16 (by decide +kernel) rfl) (wsC_at 63 (by decide +kernel) rfl) rfl (by decide +kernel) (by rw [hR]; exact ⟨Nat.le_of_ble_eq_true rfl, Nat.le_of_ble_eq_true rfl⟩) (by rw [hR]; exact ⟨Nat.le_of_ble_eq_true rfl, Nat.le_of_ble_eq_true rfl⟩) (Nat.le_of_ble_eq_true rfl) (fun s8 => ?_)
  refine kg_aast h (q0 := 1) (qk := 5) (t := 2) (N := 5) (j := 3) (ci := 1) (C := RX1) (T := TX1) (N2 := 5) (ws' := [(h0, .inr (5, [.ref a0, .int 0, .int 0, .int 0])), (a0, .inl (xk X 2, 5, .inr (.inr (.inr (.inr (va_up (va_up (va_up (va_up (fun _ => none) 0 (some a1)) 1 (some a3)) 2 (some a5)) 3 (some a7))))))), (a1, .inr (1, [.int 0, .int 0, .int 0, .int 0, .int 0])), (a3, .inr (1, [.int 0, .int 0, .int 0, .int 0, .int 0])), (a5, .inr (1, [.int 0, .int 0, .int 0, .int 0, .int 0])), (a7, .inr (1, [.int 0, .int 0, .int 0, .int 0, .int 0]))]) rfl rfl rfl rfl (inB_in (by decide)).1 (by decide) (by decide +kernel) rfl ?_
  refine kg_iinc h (i := 1) (z := 1) (q := 0) (v := 4) (ls' := [(1, .int 4), (0, .ref h0)]) (by decide +kernel) rfl (by decide) (by rw [hn]; decide) rfl ?_
  refine kg_goto h (off := -21) 14 (by decide +kernel) (by decide) ?_
  refine kg_iload h (j := 1) (x := 4) (i := 0) (by decide +kernel) rfl ?_
  refine kg_iconst h (z := 5) (5 : Int32) (by decide +kernel) (by decide) ?_
  refine kg_geF h (off := 22) 38 (by decide +kernel) (by decide) (by decide) ?_
  refine kg_aload h (j := 0) (x := h0) (i := 1) (by decide +kernel) rfl ?_
  refine kg_get h (index := 11) (ci := 5) (q0 := 0) (fk := 0) (C := RX5) (T := TX5) (N := 4) (.ref a0) rfl rfl (by decide) (by decide +kernel) (wsC_at 91 (by decide +kernel) rfl) rfl ?_
  refine kg_iload h (j := 1) (x := 4) (i := 0) (by decide +kernel) rfl ?_
  refine kg_new h hA (index := 9) (ci := 1) (C := RX1) (T := TX1) (N := 5) (fs := dvX1) rfl (by decide +kernel) (wsC_at 58 (by decide +kernel) rfl) (wsC_at 60 (by decide +kernel) rfl) (wsC_at 16 (by decide +kernel) rfl) dfX1 (by rw [hR]; exact ⟨Nat.le_of_ble_eq_true rfl, Nat.le_of_ble_eq_true rfl⟩) (fun a9 => ?_)
  refine kg_dup h (by decide +kernel) rfl ?_
  refine kg_ctorN h hA (index := 17) (host := "HeronFord") (ctiX1 _ _ _ _) (by decide +kernel) (List.mem_filter.mpr ⟨List.mem_of_getElem? (i := 61) (by decide +kernel), rfl⟩) (wsC_at 62 (by decide +kernel) rfl) (wsC_at 16 (by decide +kernel) rfl) (wsC_at 63 (by decide +kernel) rfl) rfl (by decide +kernel) (by rw [hR]; exact ⟨Nat.le_of_ble_eq_true rfl, Nat.le_of_ble_eq_true rfl⟩) (by rw [hR]; exact ⟨Nat.le_of_ble_eq_true rfl, Nat.le_of_ble_eq_true rfl⟩) (Nat.le_of_ble_eq_true rfl) (fun s10 => ?_)
  refine kg_aast h (q0 := 1) (qk := 6) (t := 2) (N := 5) (j := 4) (ci := 1) (C := RX1) (T := TX1) (N2 := 5) (ws' := [(h0, .inr (5, [.ref a0, .int 0, .int 0, .int 0])), (a0, .inl (xk X 2, 5, .inr (.inr (.inr (.inr (va_up (va_up (va_up (va_up (va_up (fun _ => none) 0 (some a1)) 1 (some a3)) 2 (some a5)) 3 (some a7)) 4 (some a9))))))), (a1, .inr (1, [.int 0, .int 0, .int 0, .int 0, .int 0])), (a3, .inr (1, [.int 0, .int 0, .int 0, .int 0, .int 0])), (a5, .inr (1, [.int 0, .int 0, .int 0, .int 0, .int 0])), (a7, .inr (1, [.int 0, .int 0, .int 0, .int 0, .int 0])), (a9, .inr (1, [.int 0, .int 0, .int 0, .int 0, .int 0]))]) rfl rfl rfl rfl (inB_in (by decide)).1 (by decide) (by decide +kernel) rfl ?_
  refine kg_iinc h (i := 1) (z := 1) (q := 0) (v := 5) (ls' := [(1, .int 5), (0, .ref h0)]) (by decide +kernel) rfl (by decide) (by rw [hn]; decide) rfl ?_
  refine kg_goto h (off := -21) 14 (by decide +kernel) (by decide) ?_
  refine kg_iload h (j := 1) (x := 5) (i := 0) (by decide +kernel) rfl ?_
  refine kg_iconst h (z := 5) (5 : Int32) (by decide +kernel) (by decide) ?_
  refine kg_geT h (off := 22) 38 (by decide +kernel) (by decide) (by decide) ?_
  refine kg_aload h (j := 0) (x := h0) (i := 1) (by decide +kernel) rfl ?_
  refine kg_iconst h (z := 0) (0 : Int32) (by decide +kernel) (by decide) ?_
  refine kg_put h (index := 18) (ci := 5) (q0 := 0) (fk := 1) (C := RX5) (T := TX5) (N := 4) (v := .int 0) (ws' := [(h0, .inr (5, [.ref a0, .int 0, .int 0, .int 0])), (a0, .inl (xk X 2, 5, .inr (.inr (.inr (.inr (va_up (va_up (va_up (va_up (va_up (fun _ => none) 0 (some a1)) 1 (some a3)) 2 (some a5)) 3 (some a7)) 4 (some a9))))))), (a1, .inr (1, [.int 0, .int 0, .int 0, .int 0, .int 0])), (a3, .inr (1, [.int 0, .int 0, .int 0, .int 0, .int 0])), (a5, .inr (1, [.int 0, .int 0, .int 0, .int 0, .int 0])), (a7, .inr (1, [.int 0, .int 0, .int 0, .int 0, .int 0])), (a9, .inr (1, [.int 0, .int 0, .int 0, .int 0, .int 0]))]) rfl rfl (by decide) (by decide +kernel) (wsC_at 94 (by decide +kernel) rfl) rfl rfl rfl (Nat.le_of_ble_eq_true rfl) rfl ?_
  refine kg_aload h (j := 0) (x := h0) (i := 1) (by decide +kernel) rfl ?_
  refine kg_iconst h (z := 0) (0 : Int32) (by decide +kernel) (by decide) ?_
  refine kg_put h (index := 22) (ci := 5) (q0 := 0) (fk := 2) (C := RX5) (T := TX5) (N := 4) (v := .int 0) (ws' := [(h0, .inr (5, [.ref a0, .int 0, .int 0, .int 0])), (a0, .inl (xk X 2, 5, .inr (.inr (.inr (.inr (va_up (va_up (va_up (va_up (va_up (fun _ => none) 0 (some a1)) 1 (some a3)) 2 (some a5)) 3 (some a7)) 4 (some a9))))))), (a1, .inr (1, [.int 0, .int 0, .int 0, .int 0, .int 0])), (a3, .inr (1, [.int 0, .int 0, .int 0, .int 0, .int 0])), (a5, .inr (1, [.int 0, .int 0, .int 0, .int 0, .int 0])), (a7, .inr (1, [.int 0, .int 0, .int 0, .int 0, .int 0])), (a9, .inr (1, [.int 0, .int 0, .int 0, .int 0, .int 0]))]) rfl rfl (by decide) (by decide +kernel) (wsC_at 97 (by decide +kernel) rfl) rfl rfl rfl (Nat.le_of_ble_eq_true rfl) rfl ?_
  refine kg_aload h (j := 0) (x := h0) (i := 1) (by decide +kernel) rfl ?_
  refine kg_iconst h (z := 0) (0 : Int32) (by decide +kernel) (by decide) ?_
  refine kg_put h (index := 25) (ci := 5) (q0 := 0) (fk := 3) (C := RX5) (T := TX5) (N := 4) (v := .int 0) (ws' := [(h0, .inr (5, [.ref a0, .int 0, .int 0, .int 0])), (a0, .inl (xk X 2, 5, .inr (.inr (.inr (.inr (va_up (va_up (va_up (va_up (va_up (fun _ => none) 0 (some a1)) 1 (some a3)) 2 (some a5)) 3 (some a7)) 4 (some a9))))))), (a1, .inr (1, [.int 0, .int 0, .int 0, .int 0, .int 0])), (a3, .inr (1, [.int 0, .int 0, .int 0, .int 0, .int 0])), (a5, .inr (1, [.int 0, .int 0, .int 0, .int 0, .int 0])), (a7, .inr (1, [.int 0, .int 0, .int 0, .int 0, .int 0])), (a9, .inr (1, [.int 0, .int 0, .int 0, .int 0, .int 0]))]) rfl rfl (by decide) (by decide +kernel) (wsC_at 100 (by decide +kernel) rfl) rfl rfl rfl (Nat.le_of_ble_eq_true rfl) rfl ?_
  refine kg_widen (n' := 6) (k' := 30) (Nat.le_of_ble_eq_true rfl) (Nat.le_of_ble_eq_true rfl) ?_
  exact kg_ret h hr (by decide +kernel) (fun j => [a0, a1, a3, a5, a7, a9].getD j 0) rfl
end
section
/-! ===== constructors (printed by wip/p31/gen91.py) ===== -/
/-- HeronFord() -/
def dvX6 : List Value := [.null, .null, .null, .null, .null, .int 0, .int 0]
theorem dfX6 : ∀ j, j < 7 → defaultValue (tyK 6 j) = vp_V dvX6 j := fun j hj => by
  rcases (show j = 0 ∨ j = 1 ∨ j = 2 ∨ j = 3 ∨ j = 4 ∨ j = 5 ∨ j = 6 by omega) with rfl | rfl | rfl | rfl | rfl | rfl | rfl <;> rfl
def LX6 (cs : Nat → ClassId) (h0 : Nat) (as : Nat → Nat) : va_W := [(h0, .inr (6, [.ref (as 0), .ref (as 9), .ref (as 16), .ref (as 25), .ref (as 37), .int 0, .int 0])), (as 0, .inl (cs 1, 4, .inr (.inr (.inr (.inr (va_up (va_up (va_up (va_up (fun _ => none) 0 (some (as 1))) 1 (some (as 3))) 2 (some (as 5))) 3 (some (as 7)))))))), (as 1, .inr (4, [.ref (as 2), .int 0, .int 0, .int 0])), (as 2, .inl (cs 0, 60, .inl (fun _ => 0))), (as 3, .inr (4, [.ref (as 4), .int 0, .int 0, .int 0])), (as 4, .inl (cs 0, 60, .inl (fun _ => 0))), (as 5, .inr (4, [.ref (as 6), .int 0, .int 0, .int 0])), (as 6, .inl (cs 0, 60, .inl (fun _ => 0))), (as 7, .inr (4, [.ref (as 8), .int 0, .int 0, .int 0])), (as 8, .inl (cs 0, 60, .inl (fun _ => 0))), (as 9, .inr (5, [.ref (as 10), .int 0, .int 0, .int 0])), (as 10, .inl (cs 2, 5, .inr (.inr (.inr (.inr (va_up (va_up (va_up (va_up (va_up (fun _ => none) 0 (some (as 11))) 1 (some (as 12))) 2 (some (as 13))) 3 (some (as 14))) 4 (some (as 15)))))))), (as 11, .inr (1, [.int 0, .int 0, .int 0, .int 0, .int 0])), (as 12, .inr (1, [.int 0, .int 0, .int 0, .int 0, .int 0])), (as 13, .inr (1, [.int 0, .int 0, .int 0, .int 0, .int 0])), (as 14, .inr (1, [.int 0, .int 0, .int 0, .int 0, .int 0])), (as 15, .inr (1, [.int 0, .int 0, .int 0, .int 0, .int 0])), (as 16, .inr (0, [.ref (as 17), .ref (as 18), .ref (as 19), .ref (as 20), .ref (as 21), .ref (as 22), .ref (as 23), .ref (as 24), .int 0, .int 0, .int 0, .int 0, .int 0, .int 0])), (as 17, .inl (cs 0, 5, .inl (fun _ => 0))), (as 18, .inl (cs 0, 5, .inl (fun _ => 0))), (as 19, .inl (cs 0, 5, .inl (fun _ => 0))), (as 20, .inl (cs 0, 5, .inl (fun _ => 0))), (as 21, .inl (cs 0, 5, .inl (fun _ => 0))), (as 22, .inl (cs 3, 5, .inr (.inr (.inr (.inr (fun j => if j < 5 then some (as 22 + 1 + j) else none)))))), (as 22 + 1, .inl (cs 0, 5, .inl (fun _ => 0))), (as 22 + 2, .inl (cs 0, 5, .inl (fun _ => 0))), (as 22 + 3, .inl (cs 0, 5, .inl (fun _ => 0))), (as 22 + 4, .inl (cs 0, 5, .inl (fun _ => 0))), (as 22 + 5, .inl (cs 0, 5, .inl (fun _ => 0))), (as 23, .inl (cs 0, 32, .inl (fun _ => 0))), (as 24, .inl (cs 0, 32, .inl (fun _ => 0))), (as 25, .inr (3, [.ref (as 26), .ref (as 35), .ref (as 36), .int 0, .int 1000000])), (as 26, .inr (0, [.ref (as 27), .ref (as 28), .ref (as 29), .ref (as 30), .ref (as 31), .ref (as 32), .ref (as 33), .ref (as 34), .int 0, .int 0, .int 0, .int 0, .int 0, .int 0])), (as 27, .inl (cs 0, 5, .inl (fun _ => 0))), (as 28, .inl (cs 0, 5, .inl (fun _ => 0))), (as 29, .inl (cs 0, 5, .inl (fun _ => 0))), (as 30, .inl (cs 0, 5, .inl (fun _ => 0))), (as 31, .inl (cs 0, 5, .inl (fun _ => 0))), (as 32, .inl (cs 3, 5, .inr (.inr (.inr (.inr (fun j => if j < 5 then some (as 32 + 1 + j) else none)))))), (as 32 + 1, .inl (cs 0, 5, .inl (fun _ => 0))), (as 32 + 2, .inl (cs 0, 5, .inl (fun _ => 0))), (as 32 + 3, .inl (cs 0, 5, .inl (fun _ => 0))), (as 32 + 4, .inl (cs 0, 5, .inl (fun _ => 0))), (as 32 + 5, .inl (cs 0, 5, .inl (fun _ => 0))), (as 33, .inl (cs 0, 32, .inl (fun _ => 0))), (as 34, .inl (cs 0, 32, .inl (fun _ => 0))), (as 35, .inl (cs 0, 5, .inl (fun _ => 0))), (as 36, .inl (cs 0, 5, .inl (fun _ => 0))), (as 37, .inr (2, [.ref (as 38), .ref (as 39), .int 0])), (as 38, .inl (cs 0, 8, .inl (fun _ => 0))), (as 39, .inl (cs 0, 8, .inl (fun _ => 0)))]
set_option maxHeartbeats 4000000 in
set_option maxRecDepth 100000 in
theorem ctiX6 (l : Launch) (dC : Nat → ClassId) (dI : Nat → Nat → Nat) (cs : Nat → ClassId) : CtI l dC dI cs yX6_init prog_1_method_1_code 2 3 50 594 6 dvX6 (LX6 cs) := by
  refine cti_of (by decide +kernel) rfl rfl (fun X A h0 h hin hl hC hI hk hR hn hr hA => ?_)
  subst hl hC hI hk
  refine kg_aload h (j := 0) (x := h0) (i := 0) (by decide +kernel) rfl ?_
  refine kg_obj h (index := 3) (by decide +kernel) (wsC_at 27 (by decide +kernel) rfl) (wsC_at 28 (by decide +kernel) rfl) (wsC_at 29 (by decide +kernel) rfl) (by rw [hR]; exact ⟨Nat.le_of_ble_eq_true rfl, Nat.le_of_ble_eq_true rfl⟩) ?_
  refine kg_aload h (j := 0) (x := h0) (i := 0) (by decide +kernel) rfl ?_
  refine kg_iconst h (z := 4) (4 : Int32) (by decide +kernel) (by decide) ?_
  refine kg_newq h hA (index := 11) (t := 1) (C := RX4) 4 (by decide) (by decide) (by decide) (by decide +kernel) (wsC_at 30 (by decide +kernel) rfl) h.2.2.2.2.2.1.2.1.1 rfl (by rw [hR]; exact ⟨Nat.le_of_ble_eq_true rfl, Nat.le_of_ble_eq_true rfl⟩) (fun a0 => ?_)
  refine kg_putF h hin (index := 13) (ci := 6) (q0 := 0) (fk := 0) (C := RX6) (T := TX6) (N := 7) (v := .ref a0) (ws' := [(h0, .inr (6, [.ref a0, .null, .null, .null, .null, .int 0, .int 0])), (a0, .inl (xk X 1, 4, .inr (.inr (.inr (.inr (fun _ => none))))))]) rfl rfl (by decide) (by decide +kernel) (wsC_at 211 (by decide +kernel) rfl) rfl rfl rfl rfl (Nat.le_of_ble_eq_true rfl) rfl ?_
  refine kg_iconst h (z := 0) (0 : Int32) (by decide +kernel) (by decide) ?_
  refine kg_istore h (j := 1) (ls' := [(1, .int 0), (0, .ref h0)]) (by decide +kernel) (by rw [hn]; decide) rfl ?_
  refine kg_iload h (j := 1) (x := 0) (i := 0) (by decide +kernel) rfl ?_
  refine kg_iconst h (z := 4) (4 : Int32) (by decide +kernel) (by decide) ?_
  refine kg_geF h (off := 22) 38 (by decide +kernel) (by decide) (by decide) ?_
  refine kg_aload h (j := 0) (x := h0) (i := 1) (by decide +kernel) rfl ?_
  refine kg_get h (index := 13) (ci := 6) (q0 := 0) (fk := 0) (C := RX6) (T := TX6) (N := 7) (.ref a0) rfl rfl (by decide) (by decide +kernel) (wsC_at 211 (by decide +kernel) rfl) rfl ?_
  refine kg_iload h (j := 1) (x := 0) (i := 0) (by decide +kernel) rfl ?_
  refine kg_new h hA (index := 11) (ci := 4) (C := RX4) (T := TX4) (N := 4) (fs := dvX4) rfl (by decide +kernel) (wsC_at 30 (by decide +kernel) rfl) (wsC_at 32 (by decide +kernel) rfl) (wsC_at 14 (by decide +kernel) rfl) dfX4 (by rw [hR]; exact ⟨Nat.le_of_ble_eq_true rfl, Nat.le_of_ble_eq_true rfl⟩) (fun a1 => ?_)
  refine kg_dup h (by decide +kernel) rfl ?_
  refine kg_ctor h hA (index := 17) (ctiX4 _ _ _ _) (by decide +kernel) (wsC_at 33 (by decide +kernel) rfl) (wsC_at 34 (by decide +kernel) rfl) (wsC_at 14 (by decide +kernel) rfl) (wsC_at 35 (by decide +kernel) rfl) rfl (by decide +kernel) (by rw [hR]; exact ⟨Nat.le_of_ble_eq_true rfl, Nat.le_of_ble_eq_true rfl⟩) (by rw [hR]; exact ⟨Nat.le_of_ble_eq_true rfl, Nat.le_of_ble_eq_true rfl⟩) (Nat.le_of_ble_eq_true rfl) (fun s2 => ?_)
  refine kg_aast h (q0 := 1) (qk := 2) (t := 1) (N := 4) (j := 0) (ci := 4) (C := RX4) (T := TX4) (N2 := 4) (ws' := [(h0, .inr (6, [.ref a0, .null, .null, .null, .null, .int 0, .int 0])), (a0, .inl (xk X 1, 4, .inr (.inr (.inr (.inr (va_up (fun _ => none) 0 (some a1))))))), (a1, .inr (4, [.ref (s2 0), .int 0, .int 0, .int 0])), (s2 0, .inl (xk X 0, 60, .inl (fun _ => 0)))]) rfl rfl rfl rfl (inB_in (by decide)).1 (by decide) (by decide +kernel) rfl ?_
  refine kg_iinc h (i := 1) (z := 1) (q := 0) (v := 1) (ls' := [(1, .int 1), (0, .ref h0)]) (by decide +kernel) rfl (by decide) (by rw [hn]; decide) rfl ?_
  refine kg_goto h (off := -21) 14 (by decide +kernel) (by decide) ?_
  refine kg_iload h (j := 1) (x := 1) (i := 0) (by decide +kernel) rfl ?_
  refine kg_iconst h (z := 4) (4 : Int32) (by decide +kernel) (by decide) ?_
  refine kg_geF h (off := 22) 38 (by decide +kernel) (by decide) (by decide) ?_
  refine kg_aload h (j := 0) (x := h0) (i := 1) (by decide +kernel) rfl ?_
  refine kg_get h (index := 13) (ci := 6) (q0 := 0) (fk := 0) (C := RX6) (T := TX6) (N := 7) (.ref a0) rfl rfl (by decide) (by decide +kernel) (wsC_at 211 (by decide +kernel) rfl) rfl ?_
  refine kg_iload h (j := 1) (x := 1) (i := 0) (by decide +kernel) rfl ?_
  refine kg_new h hA (index := 11) (ci := 4) (C := RX4) (T := TX4) (N := 4) (fs := dvX4) rfl (by decide +kernel) (wsC_at 30 (by decide +kernel) rfl) (wsC_at 32 (by decide +kernel) rfl) (wsC_at 14 (by decide +kernel) rfl) dfX4 (by rw [hR]; exact ⟨Nat.le_of_ble_eq_true rfl, Nat.le_of_ble_eq_true rfl⟩) (fun a3 => ?_)
  refine kg_dup h (by decide +kernel) rfl ?_
  refine kg_ctor h hA (index := 17) (ctiX4 _ _ _ _) (by decide +kernel) (wsC_at 33 (by decide +kernel) rfl) (wsC_at 34 (by decide +kernel) rfl) (wsC_at 14 (by decide +kernel) rfl) (wsC_at 35 (by decide +kernel) rfl) rfl (by decide +kernel) (by rw [hR]; exact ⟨Nat.le_of_ble_eq_true rfl, Nat.le_of_ble_eq_true rfl⟩) (by rw [hR]; exact ⟨Nat.le_of_ble_eq_true rfl, Nat.le_of_ble_eq_true rfl⟩) (Nat.le_of_ble_eq_true rfl) (fun s4 => ?_)
  refine kg_aast h (q0 := 1) (qk := 4) (t := 1) (N := 4) (j := 1) (ci := 4) (C := RX4) (T := TX4) (N2 := 4) (ws' := [(h0, .inr (6, [.ref a0, .null, .null, .null, .null, .int 0, .int 0])), (a0, .inl (xk X 1, 4, .inr (.inr (.inr (.inr (va_up (va_up (fun _ => none) 0 (some a1)) 1 (some a3))))))), (a1, .inr (4, [.ref (s2 0), .int 0, .int 0, .int 0])), (s2 0, .inl (xk X 0, 60, .inl (fun _ => 0))), (a3, .inr (4, [.ref (s4 0), .int 0, .int 0, .int 0])), (s4 0, .inl (xk X 0, 60, .inl (fun _ => 0)))]) rfl rfl rfl rfl (inB_in (by decide)).1 (by decide) (by decide +kernel) rfl ?_
  refine kg_iinc h (i := 1) (z := 1) (q := 0) (v := 2) (ls' := [(1, .int 2), (0, .ref h0)]) (by decide +kernel) rfl (by decide) (by rw [hn]; decide) rfl ?_
  refine kg_goto h (off := -21) 14 (by decide +kernel) (by decide) ?_
  refine kg_iload h (j := 1) (x := 2) (i := 0) (by decide +kernel) rfl ?_
  refine kg_iconst h (z := 4) (4 : Int32) (by decide +kernel) (by decide) ?_
  refine kg_geF h (off := 22) 38 (by decide +kernel) (by decide) (by decide) ?_
  refine kg_aload h (j := 0) (x := h0) (i := 1) (by decide +kernel) rfl ?_
  refine kg_get h (index := 13) (ci := 6) (q0 := 0) (fk := 0) (C := RX6) (T := TX6) (N := 7) (.ref a0) rfl rfl (by decide) (by decide +kernel) (wsC_at 211 (by decide +kernel) rfl) rfl ?_
  refine kg_iload h (j := 1) (x := 2) (i := 0) (by decide +kernel) rfl ?_
  refine kg_new h hA (index := 11) (ci := 4) (C := RX4) (T := TX4) (N := 4) (fs := dvX4) rfl (by decide +kernel) (wsC_at 30 (by decide +kernel) rfl) (wsC_at 32 (by decide +kernel) rfl) (wsC_at 14 (by decide +kernel) rfl) dfX4 (by rw [hR]; exact ⟨Nat.le_of_ble_eq_true rfl, Nat.le_of_ble_eq_true rfl⟩) (fun a5 => ?_)
  refine kg_dup h (by decide +kernel) rfl ?_
  refine kg_ctor h hA (index := 17) (ctiX4 _ _ _ _) (by decide +kernel) (wsC_at 33 (by decide +kernel) rfl) (wsC_at 34 (by decide +kernel) rfl) (wsC_at 14 (by decide +kernel) rfl) (wsC_at 35 (by decide +kernel) rfl) rfl (by decide +kernel) (by rw [hR]; exact ⟨Nat.le_of_ble_eq_true rfl, Nat.le_of_ble_eq_true rfl⟩) (by rw [hR]; exact ⟨Nat.le_of_ble_eq_true rfl, Nat.le_of_ble_eq_true rfl⟩) (Nat.le_of_ble_eq_true rfl) (fun s6 => ?_)
  refine kg_aast h (q0 := 1) (qk := 6) (t := 1) (N := 4) (j := 2) (ci := 4) (C := RX4) (T := TX4) (N2 := 4) (ws' := [(h0, .inr (6, [.ref a0, .null, .null, .null, .null, .int 0, .int 0])), (a0, .inl (xk X 1, 4, .inr (.inr (.inr (.inr (va_up (va_up (va_up (fun _ => none) 0 (some a1)) 1 (some a3)) 2 (some a5))))))), (a1, .inr (4, [.ref (s2 0), .int 0, .int 0, .int 0])), (s2 0, .inl (xk X 0, 60, .inl (fun _ => 0))), (a3, .inr (4, [.ref (s4 0), .int 0, .int 0, .int 0])), (s4 0, .inl (xk X 0, 60, .inl (fun _ => 0))), (a5, .inr (4, [.ref (s6 0), .int 0, .int 0, .int 0])), (s6 0, .inl (xk X 0, 60, .inl (fun _ => 0)))]) rfl rfl rfl rfl (inB_in (by decide)).1 (by decide) (by decide +kernel) rfl ?_
  refine kg_iinc h (i := 1) (z := 1) (q := 0) (v := 3) (ls' := [(1, .int 3), (0, .ref h0)]) (by decide +kernel) rfl (by decide) (by rw [hn]; decide) rfl ?_
  refine kg_goto h (off := -21) 14 (by decide +kernel) (by decide) ?_
  refine kg_iload h (j := 1) (x := 3) (i := 0) (by decide +kernel) rfl ?_
  refine kg_iconst h (z := 4) (4 : Int32) (by decide +kernel) (by decide) ?_
  refine kg_geF h (off := 22) 38 (by decide +kernel) (by decide) (by decide) ?_
  refine kg_aload h (j := 0) (x := h0) (i := 1) (by decide +kernel) rfl ?_
  refine kg_get h (index := 13) (ci := 6) (q0 := 0) (fk := 0) (C := RX6) (T := TX6) (N := 7) (.ref a0) rfl rfl (by decide) (by decide +kernel) (wsC_at 211 (by decide +kernel) rfl) rfl ?_
  refine kg_iload h (j := 1) (x := 3) (i := 0) (by decide +kernel) rfl ?_
  refine kg_new h hA (index := 11) (ci := 4) (C := RX4) (T := TX4) (N := 4) (fs := dvX4) rfl (by decide +kernel) (wsC_at 30 (by decide +kernel) rfl) (wsC_at 32 (by decide +kernel) rfl) (wsC_at 14 (by decide +kernel) rfl) dfX4 (by rw [hR]; exact ⟨Nat.le_of_ble_eq_true rfl, Nat.le_of_ble_eq_true rfl⟩) (fun a7 => ?_)
  refine kg_dup h (by decide +kernel) rfl ?_
  refine kg_ctor h hA (index := 17) (ctiX4 _ _ _ _) (by decide +kernel) (wsC_at 33 (by decide +kernel) rfl) (wsC_at 34 (by decide +kernel) rfl) (wsC_at 14 (by decide +kernel) rfl) (wsC_at 35 (by decide +kernel) rfl) rfl (by decide +kernel) (by rw [hR]; exact ⟨Nat.le_of_ble_eq_true rfl, Nat.le_of_ble_eq_true rfl⟩) (by rw [hR]; exact ⟨Nat.le_of_ble_eq_true rfl, Nat.le_of_ble_eq_true rfl⟩) (Nat.le_of_ble_eq_true rfl) (fun s8 => ?_)
  refine kg_aast h (q0 := 1) (qk := 8) (t := 1) (N := 4) (j := 3) (ci := 4) (C := RX4) (T := TX4) (N2 := 4) (ws' := [(h0, .inr (6, [.ref a0, .null, .null, .null, .null, .int 0, .int 0])), (a0, .inl (xk X 1, 4, .inr (.inr (.inr (.inr (va_up (va_up (va_up (va_up (fun _ => none) 0 (some a1)) 1 (some a3)) 2 (some a5)) 3 (some a7))))))), (a1, .inr (4, [.ref (s2 0), .int 0, .int 0, .int 0])), (s2 0, .inl (xk X 0, 60, .inl (fun _ => 0))), (a3, .inr (4, [.ref (s4 0), .int 0, .int 0, .int 0])), (s4 0, .inl (xk X 0, 60, .inl (fun _ => 0))), (a5, .inr (4, [.ref (s6 0), .int 0, .int 0, .int 0])), (s6 0, .inl (xk X 0, 60, .inl (fun _ => 0))), (a7, .inr (4, [.ref (s8 0), .int 0, .int 0, .int 0])), (s8 0, .inl (xk X 0, 60, .inl (fun _ => 0)))]) rfl rfl rfl rfl (inB_in (by decide)).1 (by decide) (by decide +kernel) rfl ?_
  refine kg_iinc h (i := 1) (z := 1) (q := 0) (v := 4) (ls' := [(1, .int 4), (0, .ref h0)]) (by decide +kernel) rfl (by decide) (by rw [hn]; decide) rfl ?_
  refine kg_goto h (off := -21) 14 (by decide +kernel) (by decide) ?_
  refine kg_iload h (j := 1) (x := 4) (i := 0) (by decide +kernel) rfl ?_
  refine kg_iconst h (z := 4) (4 : Int32) (by decide +kernel) (by decide) ?_
  refine kg_geT h (off := 22) 38 (by decide +kernel) (by decide) (by decide) ?_
  refine kg_aload h (j := 0) (x := h0) (i := 1) (by decide +kernel) rfl ?_
  refine kg_new h hA (index := 18) (ci := 5) (C := RX5) (T := TX5) (N := 4) (fs := dvX5) rfl (by decide +kernel) (wsC_at 52 (by decide +kernel) rfl) (wsC_at 53 (by decide +kernel) rfl) (wsC_at 15 (by decide +kernel) rfl) dfX5 (by rw [hR]; exact ⟨Nat.le_of_ble_eq_true rfl, Nat.le_of_ble_eq_true rfl⟩) (fun a9 => ?_)
  refine kg_dup h (by decide +kernel) rfl ?_
  refine kg_ctor h hA (index := 20) (ctiX5 _ _ _ _) (by decide +kernel) (wsC_at 54 (by decide +kernel) rfl) (wsC_at 55 (by decide +kernel) rfl) (wsC_at 15 (by decide +kernel) rfl) (wsC_at 56 (by decide +kernel) rfl) rfl (by decide +kernel) (by rw [hR]; exact ⟨Nat.le_of_ble_eq_true rfl, Nat.le_of_ble_eq_true rfl⟩) (by rw [hR]; exact ⟨Nat.le_of_ble_eq_true rfl, Nat.le_of_ble_eq_true rfl⟩) (Nat.le_of_ble_eq_true rfl) (fun s10 => ?_)
  refine kg_putF h hin (index := 21) (ci := 6) (q0 := 0) (fk := 1) (C := RX6) (T := TX6) (N := 7) (v := .ref a9) (ws' := [(h0, .inr (6, [.ref a0, .ref a9, .null, .null, .null, .int 0, .int 0])), (a0, .inl (xk X 1, 4, .inr (.inr (.inr (.inr (va_up (va_up (va_up (va_up (fun _ => none) 0 (some a1)) 1 (some a3)) 2 (some a5)) 3 (some a7))))))), (a1, .inr (4, [.ref (s2 0), .int 0, .int 0, .int 0])), (s2 0, .inl (xk X 0, 60, .inl (fun _ => 0))), (a3, .inr (4, [.ref (s4 0), .int 0, .int 0, .int 0])), (s4 0, .inl (xk X 0, 60, .inl (fun _ => 0))), (a5, .inr (4, [.ref (s6 0), .int 0, .int 0, .int 0])), (s6 0, .inl (xk X 0, 60, .inl (fun _ => 0))), (a7, .inr (4, [.ref (s8 0), .int 0, .int 0, .int 0])), (s8 0, .inl (xk X 0, 60, .inl (fun _ => 0))), (a9, .inr (5, [.ref (s10 0), .int 0, .int 0, .int 0])), (s10 0, .inl (xk X 2, 5, .inr (.inr (.inr (.inr (va_up (va_up (va_up (va_up (va_up (fun _ => none) 0 (some (s10 1))) 1 (some (s10 2))) 2 (some (s10 3))) 3 (some (s10 4))) 4 (some (s10 5)))))))), (s10 1, .inr (1, [.int 0, .int 0, .int 0, .int 0, .int 0])), (s10 2, .inr (1, [.int 0, .int 0, .int 0, .int 0, .int 0])), (s10 3, .inr (1, [.int 0, .int 0, .int 0, .int 0, .int 0])), (s10 4, .inr (1, [.int 0, .int 0, .int 0, .int 0, .int 0])), (s10 5, .inr (1, [.int 0, .int 0, .int 0, .int 0, .int 0]))]) rfl rfl (by decide) (by decide +kernel) (wsC_at 212 (by decide +kernel) rfl) rfl rfl rfl rfl (Nat.le_of_ble_eq_true rfl) rfl ?_
  refine kg_aload h (j := 0) (x := h0) (i := 1) (by decide +kernel) rfl ?_
  refine kg_new h hA (index := 25) (ci := 0) (C := RX0) (T := TX0) (N := 14) (fs := dvX0) rfl (by decide +kernel) (wsC_at 112 (by decide +kernel) rfl) (wsC_at 113 (by decide +kernel) rfl) (wsC_at 17 (by decide +kernel) rfl) dfX0 (by rw [hR]; exact ⟨Nat.le_of_ble_eq_true rfl, Nat.le_of_ble_eq_true rfl⟩) (fun a11 => ?_)
  refine kg_dup h (by decide +kernel) rfl ?_
  refine kg_ctor h hA (index := 27) (ctiX0 _ _ _ _) (by decide +kernel) (wsC_at 114 (by decide +kernel) rfl) (wsC_at 115 (by decide +kernel) rfl) (wsC_at 17 (by decide +kernel) rfl) (wsC_at 116 (by decide +kernel) rfl) rfl (by decide +kernel) (by rw [hR]; exact ⟨Nat.le_of_ble_eq_true rfl, Nat.le_of_ble_eq_true rfl⟩) (by rw [hR]; exact ⟨Nat.le_of_ble_eq_true rfl, Nat.le_of_ble_eq_true rfl⟩) (Nat.le_of_ble_eq_true rfl) (fun s12 => ?_)
  refine kg_putF h hin (index := 28) (ci := 6) (q0 := 0) (fk := 2) (C := RX6) (T := TX6) (N := 7) (v := .ref a11) (ws' := [(h0, .inr (6, [.ref a0, .ref a9, .ref a11, .null, .null, .int 0, .int 0])), (a0, .inl (xk X 1, 4, .inr (.inr (.inr (.inr (va_up (va_up (va_up (va_up (fun _ => none) 0 (some a1)) 1 (some a3)) 2 (some a5)) 3 (some a7))))))), (a1, .inr (4, [.ref (s2 0), .int 0, .int 0, .int 0])), (s2 0, .inl (xk X 0, 60, .inl (fun _ => 0))), (a3, .inr (4, [.ref (s4 0), .int 0, .int 0, .int 0])), (s4 0, .inl (xk X 0, 60, .inl (fun _ => 0))), (a5, .inr (4, [.ref (s6 0), .int 0, .int 0, .int 0])), (s6 0, .inl (xk X 0, 60, .inl (fun _ => 0))), (a7, .inr (4, [.ref (s8 0), .int 0, .int 0, .int 0])), (s8 0, .inl (xk X 0, 60, .inl (fun _ => 0))), (a9, .inr (5, [.ref (s10 0), .int 0, .int 0, .int 0])), (s10 0, .inl (xk X 2, 5, .inr (.inr (.inr (.inr (va_up (va_up (va_up (va_up (va_up (fun _ => none) 0 (some (s10 1))) 1 (some (s10 2))) 2 (some (s10 3))) 3 (some (s10 4))) 4 (some (s10 5)))))))), (s10 1, .inr (1, [.int 0, .int 0, .int 0, .int 0, .int 0])), (s10 2, .inr (1, [.int 0, .int 0, .int 0, .int 0, .int 0])), (s10 3, .inr (1, [.int 0, .int 0, .int 0, .int 0, .int 0])), (s10 4, .inr (1, [.int 0, .int 0, .int 0, .int 0, .int 0])), (s10 5, .inr (1, [.int 0, .int 0, .int 0, .int 0, .int 0])), (a11, .inr (0, [.ref (s12 0), .ref (s12 1), .ref (s12 2), .ref (s12 3), .ref (s12 4), .ref (s12 5), .ref (s12 6), .ref (s12 7), .int 0, .int 0, .int 0, .int 0, .int 0, .int 0])), (s12 0, .inl (xk X 0, 5, .inl (fun _ => 0))), (s12 1, .inl (xk X 0, 5, .inl (fun _ => 0))), (s12 2, .inl (xk X 0, 5, .inl (fun _ => 0))), (s12 3, .inl (xk X 0, 5, .inl (fun _ => 0))), (s12 4, .inl (xk X 0, 5, .inl (fun _ => 0))), (s12 5, .inl (xk X 3, 5, .inr (.inr (.inr (.inr (fun j => if j < 5 then some (s12 5 + 1 + j) else none)))))), (s12 5 + 1, .inl (xk X 0, 5, .inl (fun _ => 0))), (s12 5 + 2, .inl (xk X 0, 5, .inl (fun _ => 0))), (s12 5 + 3, .inl (xk X 0, 5, .inl (fun _ => 0))), (s12 5 + 4, .inl (xk X 0, 5, .inl (fun _ => 0))), (s12 5 + 5, .inl (xk X 0, 5, .inl (fun _ => 0))), (s12 6, .inl (xk X 0, 32, .inl (fun _ => 0))), (s12 7, .inl (xk X 0, 32, .inl (fun _ => 0)))]) rfl rfl (by decide) (by decide +kernel) (wsC_at 213 (by decide +kernel) rfl) rfl rfl rfl rfl (Nat.le_of_ble_eq_true rfl) rfl ?_
  refine kg_aload h (j := 0) (x := h0) (i := 1) (by decide +kernel) rfl ?_
  refine kg_new h hA (index := 32) (ci := 3) (C := RX3) (T := TX3) (N := 5) (fs := dvX3) rfl (by decide +kernel) (wsC_at 169 (by decide +kernel) rfl) (wsC_at 170 (by decide +kernel) rfl) (wsC_at 18 (by decide +kernel) rfl) dfX3 (by rw [hR]; exact ⟨Nat.le_of_ble_eq_true rfl, Nat.le_of_ble_eq_true rfl⟩) (fun a13 => ?_)
  refine kg_dup h (by decide +kernel) rfl ?_
  refine kg_ctor h hA (index := 34) (ctiX3 _ _ _ _) (by decide +kernel) (wsC_at 171 (by decide +kernel) rfl) (wsC_at 172 (by decide +kernel) rfl) (wsC_at 18 (by decide +kernel) rfl) (wsC_at 173 (by decide +kernel) rfl) rfl (by decide +kernel) (by rw [hR]; exact ⟨Nat.le_of_ble_eq_true rfl, Nat.le_of_ble_eq_true rfl⟩) (by rw [hR]; exact ⟨Nat.le_of_ble_eq_true rfl, Nat.le_of_ble_eq_true rfl⟩) (Nat.le_of_ble_eq_true rfl) (fun s14 => ?_)
  refine kg_putF h hin (index := 35) (ci := 6) (q0 := 0) (fk := 3) (C := RX6) (T := TX6) (N := 7) (v := .ref a13) (ws' := [(h0, .inr (6, [.ref a0, .ref a9, .ref a11, .ref a13, .null, .int 0, .int 0])), (a0, .inl (xk X 1, 4, .inr (.inr (.inr (.inr (va_up (va_up (va_up (va_up (fun _ => none) 0 (some a1)) 1 (some a3)) 2 (some a5)) 3 (some a7))))))), (a1, .inr (4, [.ref (s2 0), .int 0, .int 0, .int 0])), (s2 0, .inl (xk X 0, 60, .inl (fun _ => 0))), (a3, .inr (4, [.ref (s4 0), .int 0, .int 0, .int 0])), (s4 0, .inl (xk X 0, 60, .inl (fun _ => 0))), (a5, .inr (4, [.ref (s6 0), .int 0, .int 0, .int 0])), (s6 0, .inl (xk X 0, 60, .inl (fun _ => 0))), (a7, .inr (4, [.ref (s8 0), .int 0, .int 0, .int 0])), (s8 0, .inl (xk X 0, 60, .inl (fun _ => 0))), (a9, .inr (5, [.ref (s10 0), .int 0, .int 0, .int 0])), (s10 0, .inl (xk X 2, 5, .inr (.inr (.inr (.inr (va_up (va_up (va_up (va_up (va_up (fun _ => none) 0 (some (s10 1))) 1 (some (s10 2))) 2 (some (s10 3))) 3 (some (s10 4))) 4 (some (s10 5)))))))), (s10 1, .inr (1, [.int 0, .int 0, .int 0, .int 0, .int 0])), (s10 2, .inr (1, [.int 0, .int 0, .int 0, .int 0, .int 0])), (s10 3, .inr (1, [.int 0, .int 0, .int 0, .int 0, .int 0])), (s10 4, .inr (1, [.int 0, .int 0, .int 0, .int 0, .int 0])), (s10 5, .inr (1, [.int 0, .int 0, .int 0, .int 0, .int 0])), (a11, .inr (0, [.ref (s12 0), .ref (s12 1), .ref (s12 2), .ref (s12 3), .ref (s12 4), .ref (s12 5), .ref (s12 6), .ref (s12 7), .int 0, .int 0, .int 0, .int 0, .int 0, .int 0])), (s12 0, .inl (xk X 0, 5, .inl (fun _ => 0))), (s12 1, .inl (xk X 0, 5, .inl (fun _ => 0))), (s12 2, .inl (xk X 0, 5, .inl (fun _ => 0))), (s12 3, .inl (xk X 0, 5, .inl (fun _ => 0))), (s12 4, .inl (xk X 0, 5, .inl (fun _ => 0))), (s12 5, .inl (xk X 3, 5, .inr (.inr (.inr (.inr (fun j => if j < 5 then some (s12 5 + 1 + j) else none)))))), (s12 5 + 1, .inl (xk X 0, 5, .inl (fun _ => 0))), (s12 5 + 2, .inl (xk X 0, 5, .inl (fun _ => 0))), (s12 5 + 3, .inl (xk X 0, 5, .inl (fun _ => 0))), (s12 5 + 4, .inl (xk X 0, 5, .inl (fun _ => 0))), (s12 5 + 5, .inl (xk X 0, 5, .inl (fun _ => 0))), (s12 6, .inl (xk X 0, 32, .inl (fun _ => 0))), (s12 7, .inl (xk X 0, 32, .inl (fun _ => 0))), (a13, .inr (3, [.ref (s14 0), .ref (s14 9), .ref (s14 10), .int 0, .int 1000000])), (s14 0, .inr (0, [.ref (s14 1), .ref (s14 2), .ref (s14 3), .ref (s14 4), .ref (s14 5), .ref (s14 6), .ref (s14 7), .ref (s14 8), .int 0, .int 0, .int 0, .int 0, .int 0, .int 0])), (s14 1, .inl (xk X 0, 5, .inl (fun _ => 0))), (s14 2, .inl (xk X 0, 5, .inl (fun _ => 0))), (s14 3, .inl (xk X 0, 5, .inl (fun _ => 0))), (s14 4, .inl (xk X 0, 5, .inl (fun _ => 0))), (s14 5, .inl (xk X 0, 5, .inl (fun _ => 0))), (s14 6, .inl (xk X 3, 5, .inr (.inr (.inr (.inr (fun j => if j < 5 then some (s14 6 + 1 + j) else none)))))), (s14 6 + 1, .inl (xk X 0, 5, .inl (fun _ => 0))), (s14 6 + 2, .inl (xk X 0, 5, .inl (fun _ => 0))), (s14 6 + 3, .inl (xk X 0, 5, .inl (fun _ => 0))), (s14 6 + 4, .inl (xk X 0, 5, .inl (fun _ => 0))), (s14 6 + 5, .inl (xk X 0, 5, .inl (fun _ => 0))), (s14 7, .inl (xk X 0, 32, .inl (fun _ => 0))), (s14 8, .inl (xk X 0, 32, .inl (fun _ => 0))), (s14 9, .inl (xk X 0, 5, .inl (fun _ => 0))), (s14 10, .inl (xk X 0, 5, .inl (fun _ => 0)))]) rfl rfl (by decide) (by decide +kernel) (wsC_at 214 (by decide +kernel) rfl) rfl rfl rfl rfl (Nat.le_of_ble_eq_true rfl) rfl ?_
  refine kg_aload h (j := 0) (x := h0) (i := 1) (by decide +kernel) rfl ?_
  refine kg_new h hA (index := 39) (ci := 2) (C := RX2) (T := TX2) (N := 3) (fs := dvX2) rfl (by decide +kernel) (wsC_at 194 (by decide +kernel) rfl) (wsC_at 195 (by decide +kernel) rfl) (wsC_at 19 (by decide +kernel) rfl) dfX2 (by rw [hR]; exact ⟨Nat.le_of_ble_eq_true rfl, Nat.le_of_ble_eq_true rfl⟩) (fun a15 => ?_)
  refine kg_dup h (by decide +kernel) rfl ?_
  refine kg_ctor h hA (index := 41) (ctiX2 _ _ _ _) (by decide +kernel) (wsC_at 196 (by decide +kernel) rfl) (wsC_at 197 (by decide +kernel) rfl) (wsC_at 19 (by decide +kernel) rfl) (wsC_at 198 (by decide +kernel) rfl) rfl (by decide +kernel) (by rw [hR]; exact ⟨Nat.le_of_ble_eq_true rfl, Nat.le_of_ble_eq_true rfl⟩) (by rw [hR]; exact ⟨Nat.le_of_ble_eq_true rfl, Nat.le_of_ble_eq_true rfl⟩) (Nat.le_of_ble_eq_true rfl) (fun s16 => ?_)
  refine kg_putF h hin (index := 42) (ci := 6) (q0 := 0) (fk := 4) (C := RX6) (T := TX6) (N := 7) (v := .ref a15) (ws' := [(h0, .inr (6, [.ref a0, .ref a9, .ref a11, .ref a13, .ref a15, .int 0, .int 0])), (a0, .inl (xk X 1, 4, .inr (.inr (.inr (.inr (va_up (va_up (va_up (va_up (fun _ => none) 0 (some a1)) 1 (some a3)) 2 (some a5)) 3 (some a7))))))), (a1, .inr (4, [.ref (s2 0), .int 0, .int 0, .int 0])), (s2 0, .inl (xk X 0, 60, .inl (fun _ => 0))), (a3, .inr (4, [.ref (s4 0), .int 0, .int 0, .int 0])), (s4 0, .inl (xk X 0, 60, .inl (fun _ => 0))), (a5, .inr (4, [.ref (s6 0), .int 0, .int 0, .int 0])), (s6 0, .inl (xk X 0, 60, .inl (fun _ => 0))), (a7, .inr (4, [.ref (s8 0), .int 0, .int 0, .int 0])), (s8 0, .inl (xk X 0, 60, .inl (fun _ => 0))), (a9, .inr (5, [.ref (s10 0), .int 0, .int 0, .int 0])), (s10 0, .inl (xk X 2, 5, .inr (.inr (.inr (.inr (va_up (va_up (va_up (va_up (va_up (fun _ => none) 0 (some (s10 1))) 1 (some (s10 2))) 2 (some (s10 3))) 3 (some (s10 4))) 4 (some (s10 5)))))))), (s10 1, .inr (1, [.int 0, .int 0, .int 0, .int 0, .int 0])), (s10 2, .inr (1, [.int 0, .int 0, .int 0, .int 0, .int 0])), (s10 3, .inr (1, [.int 0, .int 0, .int 0, .int 0, .int 0])), (s10 4, .inr (1, [.int 0, .int 0, .int 0, .int 0, .int 0])), (s10 5, .inr (1, [.int 0, .int 0, .int 0, .int 0, .int 0])), (a11, .inr (0, [.ref (s12 0), .ref (s12 1), .ref (s12 2), .ref (s12 3), .ref (s12 4), .ref (s12 5), .ref (s12 6), .ref (s12 7), .int 0, .int 0, .int 0, .int 0, .int 0, .int 0])), (s12 0, .inl (xk X 0, 5, .inl (fun _ => 0))), (s12 1, .inl (xk X 0, 5, .inl (fun _ => 0))), (s12 2, .inl (xk X 0, 5, .inl (fun _ => 0))), (s12 3, .inl (xk X 0, 5, .inl (fun _ => 0))), (s12 4, .inl (xk X 0, 5, .inl (fun _ => 0))), (s12 5, .inl (xk X 3, 5, .inr (.inr (.inr (.inr (fun j => if j < 5 then some (s12 5 + 1 + j) else none)))))), (s12 5 + 1, .inl (xk X 0, 5, .inl (fun _ => 0))), (s12 5 + 2, .inl (xk X 0, 5, .inl (fun _ => 0))), (s12 5 + 3, .inl (xk X 0, 5, .inl (fun _ => 0))), (s12 5 + 4, .inl (xk X 0, 5, .inl (fun _ => 0))), (s12 5 + 5, .inl (xk X 0, 5, .inl (fun _ => 0))), (s12 6, .inl (xk X 0, 32, .inl (fun _ => 0))), (s12 7, .inl (xk X 0, 32, .inl (fun _ => 0))), (a13, .inr (3, [.ref (s14 0), .ref (s14 9), .ref (s14 10), .int 0, .int 1000000])), (s14 0, .inr (0, [.ref (s14 1), .ref (s14 2), .ref (s14 3), .ref (s14 4), .ref (s14 5), .ref (s14 6), .ref (s14 7), .ref (s14 8), .int 0, .int 0, .int 0, .int 0, .int 0, .int 0])), (s14 1, .inl (xk X 0, 5, .inl (fun _ => 0))), (s14 2, .inl (xk X 0, 5, .inl (fun _ => 0))), (s14 3, .inl (xk X 0, 5, .inl (fun _ => 0))), (s14 4, .inl (xk X 0, 5, .inl (fun _ => 0))), (s14 5, .inl (xk X 0, 5, .inl (fun _ => 0))), (s14 6, .inl (xk X 3, 5, .inr (.inr (.inr (.inr (fun j => if j < 5 then some (s14 6 + 1 + j) else none)))))), (s14 6 + 1, .inl (xk X 0, 5, .inl (fun _ => 0))), (s14 6 + 2, .inl (xk X 0, 5, .inl (fun _ => 0))), (s14 6 + 3, .inl (xk X 0, 5, .inl (fun _ => 0))), (s14 6 + 4, .inl (xk X 0, 5, .inl (fun _ => 0))), (s14 6 + 5, .inl (xk X 0, 5, .inl (fun _ => 0))), (s14 7, .inl (xk X 0, 32, .inl (fun _ => 0))), (s14 8, .inl (xk X 0, 32, .inl (fun _ => 0))), (s14 9, .inl (xk X 0, 5, .inl (fun _ => 0))), (s14 10, .inl (xk X 0, 5, .inl (fun _ => 0))), (a15, .inr (2, [.ref (s16 0), .ref (s16 1), .int 0])), (s16 0, .inl (xk X 0, 8, .inl (fun _ => 0))), (s16 1, .inl (xk X 0, 8, .inl (fun _ => 0)))]) rfl rfl (by decide) (by decide +kernel) (wsC_at 215 (by decide +kernel) rfl) rfl rfl rfl rfl (Nat.le_of_ble_eq_true rfl) rfl ?_
  refine kg_aload h (j := 0) (x := h0) (i := 1) (by decide +kernel) rfl ?_
  refine kg_iconst h (z := 0) (0 : Int32) (by decide +kernel) (by decide) ?_
  refine kg_put h (index := 46) (ci := 6) (q0 := 0) (fk := 5) (C := RX6) (T := TX6) (N := 7) (v := .int 0) (ws' := [(h0, .inr (6, [.ref a0, .ref a9, .ref a11, .ref a13, .ref a15, .int 0, .int 0])), (a0, .inl (xk X 1, 4, .inr (.inr (.inr (.inr (va_up (va_up (va_up (va_up (fun _ => none) 0 (some a1)) 1 (some a3)) 2 (some a5)) 3 (some a7))))))), (a1, .inr (4, [.ref (s2 0), .int 0, .int 0, .int 0])), (s2 0, .inl (xk X 0, 60, .inl (fun _ => 0))), (a3, .inr (4, [.ref (s4 0), .int 0, .int 0, .int 0])), (s4 0, .inl (xk X 0, 60, .inl (fun _ => 0))), (a5, .inr (4, [.ref (s6 0), .int 0, .int 0, .int 0])), (s6 0, .inl (xk X 0, 60, .inl (fun _ => 0))), (a7, .inr (4, [.ref (s8 0), .int 0, .int 0, .int 0])), (s8 0, .inl (xk X 0, 60, .inl (fun _ => 0))), (a9, .inr (5, [.ref (s10 0), .int 0, .int 0, .int 0])), (s10 0, .inl (xk X 2, 5, .inr (.inr (.inr (.inr (va_up (va_up (va_up (va_up (va_up (fun _ => none) 0 (some (s10 1))) 1 (some (s10 2))) 2 (some (s10 3))) 3 (some (s10 4))) 4 (some (s10 5)))))))), (s10 1, .inr (1, [.int 0, .int 0, .int 0, .int 0, .int 0])), (s10 2, .inr (1, [.int 0, .int 0, .int 0, .int 0, .int 0])), (s10 3, .inr (1, [.int 0, .int 0, .int 0, .int 0, .int 0])), (s10 4, .inr (1, [.int 0, .int 0, .int 0, .int 0, .int 0])), (s10 5, .inr (1, [.int 0, .int 0, .int 0, .int 0, .int 0])), (a11, .inr (0, [.ref (s12 0), .ref (s12 1), .ref (s12 2), .ref (s12 3), .ref (s12 4), .ref (s12 5), .ref (s12 6), .ref (s12 7), .int 0, .int 0, .int 0, .int 0, .int 0, .int 0])), (s12 0, .inl (xk X 0, 5, .inl (fun _ => 0))), (s12 1, .inl (xk X 0, 5, .inl (fun _ => 0))), (s12 2, .inl (xk X 0, 5, .inl (fun _ => 0))), (s12 3, .inl (xk X 0, 5, .inl (fun _ => 0))), (s12 4, .inl (xk X 0, 5, .inl (fun _ => 0))), (s12 5, .inl (xk X 3, 5, .inr (.inr (.inr (.inr (fun j => if j < 5 then some (s12 5 + 1 + j) else none)))))), (s12 5 + 1, .inl (xk X 0, 5, .inl (fun _ => 0))), (s12 5 + 2, .inl (xk X 0, 5, .inl (fun _ => 0))), (s12 5 + 3, .inl (xk X 0, 5, .inl (fun _ => 0))), (s12 5 + 4, .inl (xk X 0, 5, .inl (fun _ => 0))), (s12 5 + 5, .inl (xk X 0, 5, .inl (fun _ => 0))), (s12 6, .inl (xk X 0, 32, .inl (fun _ => 0))), (s12 7, .inl (xk X 0, 32, .inl (fun _ => 0))), (a13, .inr (3, [.ref (s14 0), .ref (s14 9), .ref (s14 10), .int 0, .int 1000000])), (s14 0, .inr (0, [.ref (s14 1), .ref (s14 2), .ref (s14 3), .ref (s14 4), .ref (s14 5), .ref (s14 6), .ref (s14 7), .ref (s14 8), .int 0, .int 0, .int 0, .int 0, .int 0, .int 0])), (s14 1, .inl (xk X 0, 5, .inl (fun _ => 0))), (s14 2, .inl (xk X 0, 5, .inl (fun _ => 0))), (s14 3, .inl (xk X 0, 5, .inl (fun _ => 0))), (s14 4, .inl (xk X 0, 5, .inl (fun _ => 0))), (s14 5, .inl (xk X 0, 5, .inl (fun _ => 0))), (s14 6, .inl (xk X 3, 5, .inr (.inr (.inr (.inr (fun j => if j < 5 then some (s14 6 + 1 + j) else none)))))), (s14 6 + 1, .inl (xk X 0, 5, .inl (fun _ => 0))), (s14 6 + 2, .inl (xk X 0, 5, .inl (fun _ => 0))), (s14 6 + 3, .inl (xk X 0, 5, .inl (fun _ => 0))), (s14 6 + 4, .inl (xk X 0, 5, .inl (fun _ => 0))), (s14 6 + 5, .inl (xk X 0, 5, .inl (fun _ => 0))), (s14 7, .inl (xk X 0, 32, .inl (fun _ => 0))), (s14 8, .inl (xk X 0, 32, .inl (fun _ => 0))), (s14 9, .inl (xk X 0, 5, .inl (fun _ => 0))), (s14 10, .inl (xk X 0, 5, .inl (fun _ => 0))), (a15, .inr (2, [.ref (s16 0), .ref (s16 1), .int 0])), (s16 0, .inl (xk X 0, 8, .inl (fun _ => 0))), (s16 1, .inl (xk X 0, 8, .inl (fun _ => 0)))]) rfl rfl (by decide) (by decide +kernel) (wsC_at 216 (by decide +kernel) rfl) rfl rfl rfl (Nat.le_of_ble_eq_true rfl) rfl ?_
  refine kg_aload h (j := 0) (x := h0) (i := 1) (by decide +kernel) rfl ?_
  refine kg_iconst h (z := 0) (0 : Int32) (by decide +kernel) (by decide) ?_
  refine kg_put h (index := 50) (ci := 6) (q0 := 0) (fk := 6) (C := RX6) (T := TX6) (N := 7) (v := .int 0) (ws' := [(h0, .inr (6, [.ref a0, .ref a9, .ref a11, .ref a13, .ref a15, .int 0, .int 0])), (a0, .inl (xk X 1, 4, .inr (.inr (.inr (.inr (va_up (va_up (va_up (va_up (fun _ => none) 0 (some a1)) 1 (some a3)) 2 (some a5)) 3 (some a7))))))), (a1, .inr (4, [.ref (s2 0), .int 0, .int 0, .int 0])), (s2 0, .inl (xk X 0, 60, .inl (fun _ => 0))), (a3, .inr (4, [.ref (s4 0), .int 0, .int 0, .int 0])), (s4 0, .inl (xk X 0, 60, .inl (fun _ => 0))), (a5, .inr (4, [.ref (s6 0), .int 0, .int 0, .int 0])), (s6 0, .inl (xk X 0, 60, .inl (fun _ => 0))), (a7, .inr (4, [.ref (s8 0), .int 0, .int 0, .int 0])), (s8 0, .inl (xk X 0, 60, .inl (fun _ => 0))), (a9, .inr (5, [.ref (s10 0), .int 0, .int 0, .int 0])), (s10 0, .inl (xk X 2, 5, .inr (.inr (.inr (.inr (va_up (va_up (va_up (va_up (va_up (fun _ => none) 0 (some (s10 1))) 1 (some (s10 2))) 2 (some (s10 3))) 3 (some (s10 4))) 4 (some (s10 5)))))))), (s10 1, .inr (1, [.int 0, .int 0, .int 0, .int 0, .int 0])), (s10 2, .inr (1, [.int 0, .int 0, .int 0, .int 0, .int 0])), (s10 3, .inr (1, [.int 0, .int 0, .int 0, .int 0, .int 0])), (s10 4, .inr (1, [.int 0, .int 0, .int 0, .int 0, .int 0])), (s10 5, .inr (1, [.int 0, .int 0, .int 0, .int 0, .int 0])), (a11, .inr (0, [.ref (s12 0), .ref (s12 1), .ref (s12 2), .ref (s12 3), .ref (s12 4), .ref (s12 5), .ref (s12 6), .ref (s12 7), .int 0, .int 0, .int 0, .int 0, .int 0, .int 0])), (s12 0, .inl (xk X 0, 5, .inl (fun _ => 0))), (s12 1, .inl (xk X 0, 5, .inl (fun _ => 0))), (s12 2, .inl (xk X 0, 5, .inl (fun _ => 0))), (s12 3, .inl (xk X 0, 5, .inl (fun _ => 0))), (s12 4, .inl (xk X 0, 5, .inl (fun _ => 0))), (s12 5, .inl (xk X 3, 5, .inr (.inr (.inr (.inr (fun j => if j < 5 then some (s12 5 + 1 + j) else none)))))), (s12 5 + 1, .inl (xk X 0, 5, .inl (fun _ => 0))), (s12 5 + 2, .inl (xk X 0, 5, .inl (fun _ => 0))), (s12 5 + 3, .inl (xk X 0, 5, .inl (fun _ => 0))), (s12 5 + 4, .inl (xk X 0, 5, .inl (fun _ => 0))), (s12 5 + 5, .inl (xk X 0, 5, .inl (fun _ => 0))), (s12 6, .inl (xk X 0, 32, .inl (fun _ => 0))), (s12 7, .inl (xk X 0, 32, .inl (fun _ => 0))), (a13, .inr (3, [.ref (s14 0), .ref (s14 9), .ref (s14 10), .int 0, .int 1000000])), (s14 0, .inr (0, [.ref (s14 1), .ref (s14 2), .ref (s14 3), .ref (s14 4), .ref (s14 5), .ref (s14 6), .ref (s14 7), .ref (s14 8), .int 0, .int 0, .int 0, .int 0, .int 0, .int 0])), (s14 1, .inl (xk X 0, 5, .inl (fun _ => 0))), (s14 2, .inl (xk X 0, 5, .inl (fun _ => 0))), (s14 3, .inl (xk X 0, 5, .inl (fun _ => 0))), (s14 4, .inl (xk X 0, 5, .inl (fun _ => 0))), (s14 5, .inl (xk X 0, 5, .inl (fun _ => 0))), (s14 6, .inl (xk X 3, 5, .inr (.inr (.inr (.inr (fun j => if j < 5 then some (s14 6 + 1 + j) else none)))))), (s14 6 + 1, .inl (xk X 0, 5, .inl (fun _ => 0))), (s14 6 + 2, .inl (xk X 0, 5, .inl (fun _ => 0))), (s14 6 + 3, .inl (xk X 0, 5, .inl (fun _ => 0))), (s14 6 + 4, .inl (xk X 0, 5, .inl (fun _ => 0))), (s14 6 + 5, .inl (xk X 0, 5, .inl (fun _ => 0))), (s14 7, .inl (xk X 0, 32, .inl (fun _ => 0))), (s14 8, .inl (xk X 0, 32, .inl (fun _ => 0))), (s14 9, .inl (xk X 0, 5, .inl (fun _ => 0))), (s14 10, .inl (xk X 0, 5, .inl (fun _ => 0))), (a15, .inr (2, [.ref (s16 0), .ref (s16 1), .int 0])), (s16 0, .inl (xk X 0, 8, .inl (fun _ => 0))), (s16 1, .inl (xk X 0, 8, .inl (fun _ => 0)))]) rfl rfl (by decide) (by decide +kernel) (wsC_at 217 (by decide +kernel) rfl) rfl rfl rfl (Nat.le_of_ble_eq_true rfl) rfl ?_
  refine kg_widen (n' := 50) (k' := 594) (Nat.le_of_ble_eq_true rfl) (Nat.le_of_ble_eq_true rfl) ?_
  exact kg_ret h hr (by decide +kernel) (fun j => [a0, a1, (s2 0), a3, (s4 0), a5, (s6 0), a7, (s8 0), a9, (s10 0), (s10 1), (s10 2), (s10 3), (s10 4), (s10 5), a11, (s12 0), (s12 1), (s12 2), (s12 3), (s12 4), (s12 5), (s12 6), (s12 7), a13, (s14 0), (s14 1), (s14 2), (s14 3), (s14 4), (s14 5), (s14 6), (s14 7), (s14 8), (s14 9), (s14 10), a15, (s16 0), (s16 1)].getD j 0) rfl
end
section
/-! ===== the start: the world behind the constructor and the first row of ints (printed by wip/p31/gen91.py) ===== -/
/-- all 0, but the least (1000000) -/
def m0 : Mem := fun t => match t with
  | 17 => fun _ j => if j = 4 then 1000000 else 0
  | _ => fun _ _ => 0
def Aof (b q6 : Nat) (a6 : Nat → Nat) (qg qp qr qw : Nat) : AR → Nat := fun r => match r.1 with
  | 0 => q6
  | 1 => a6 0
  | 2 => [a6 1, a6 3, a6 5, a6 7].getD r.2 0
  | 3 => [a6 2, a6 4, a6 6, a6 8].getD r.2 0
  | 4 => a6 9
  | 5 => a6 10
  | 6 => [a6 11, a6 12, a6 13, a6 14, a6 15].getD r.2 0
  | 7 => [a6 16, a6 26].getD r.2 0
  | 8 => [a6 17, a6 27].getD r.2 0
  | 9 => [a6 18, a6 28].getD r.2 0
  | 10 => [a6 19, a6 29].getD r.2 0
  | 11 => [a6 20, a6 30].getD r.2 0
  | 12 => [a6 21, a6 31].getD r.2 0
  | 13 => [a6 22, a6 32].getD r.2 0
  | 14 => [a6 22 + 1, a6 22 + 2, a6 22 + 3, a6 22 + 4, a6 22 + 5, a6 32 + 1, a6 32 + 2, a6 32 + 3, a6 32 + 4, a6 32 + 5].getD r.2 0
  | 15 => [a6 23, a6 33].getD r.2 0
  | 16 => [a6 24, a6 34].getD r.2 0
  | 17 => a6 25
  | 18 => a6 35
  | 19 => a6 36
  | 20 => a6 37
  | 21 => a6 38
  | 22 => a6 39
  | 60 => b
  | 70 => qg
  | 71 => qp
  | 72 => qr
  | 73 => qw
  | _ => 0
theorem cons_eq {α : Type} {a b : α} {l l' : List α} (h : a = b) (h2 : l = l') : a :: l = b :: l' := by rw [h, h2]
section WORLD
variable {b q6 qg qp qr qw : Nat} {a6 : Nat → Nat}
theorem ref13_0 : (fun j => if j < 5 then some (a6 22 + 1 + j) else none) = (fun j => if j < 5 then (sh_ref 13 0 j).map (Aof b q6 a6 qg qp qr qw) else none) := by
  funext j
  by_cases h : j < 5
  · rw [if_pos h, if_pos h]
    rcases (show j = 0 ∨ j = 1 ∨ j = 2 ∨ j = 3 ∨ j = 4 by omega) with rfl | rfl | rfl | rfl | rfl <;> rfl
  · rw [if_neg h, if_neg h]
theorem ref13_1 : (fun j => if j < 5 then some (a6 32 + 1 + j) else none) = (fun j => if j < 5 then (sh_ref 13 1 j).map (Aof b q6 a6 qg qp qr qw) else none) := by
  funext j
  by_cases h : j < 5
  · rw [if_pos h, if_pos h]
    rcases (show j = 0 ∨ j = 1 ∨ j = 2 ∨ j = 3 ∨ j = 4 by omega) with rfl | rfl | rfl | rfl | rfl <;> rfl
  · rw [if_neg h, if_neg h]
theorem ref1 : (va_up (va_up (va_up (va_up (fun _ => none) 0 (some (a6 1))) 1 (some (a6 3))) 2 (some (a6 5))) 3 (some (a6 7))) = (fun j => if j < 4 then (sh_ref 1 0 j).map (Aof b q6 a6 qg qp qr qw) else none) := by
  funext j
  by_cases h : j < 4
  · rw [if_pos h]
    rcases (show j = 0 ∨ j = 1 ∨ j = 2 ∨ j = 3 by omega) with rfl | rfl | rfl | rfl <;> rfl
  · rw [if_neg h]
    unfold va_up
    rw [if_neg (show ¬ j = 3 by omega), if_neg (show ¬ j = 2 by omega), if_neg (show ¬ j = 1 by omega), if_neg (show ¬ j = 0 by omega)]
theorem ref5 : (va_up (va_up (va_up (va_up (va_up (fun _ => none) 0 (some (a6 11))) 1 (some (a6 12))) 2 (some (a6 13))) 3 (some (a6 14))) 4 (some (a6 15))) = (fun j => if j < 5 then (sh_ref 5 0 j).map (Aof b q6 a6 qg qp qr qw) else none) := by
  funext j
  by_cases h : j < 5
  · rw [if_pos h]
    rcases (show j = 0 ∨ j = 1 ∨ j = 2 ∨ j = 3 ∨ j = 4 by omega) with rfl | rfl | rfl | rfl | rfl <;> rfl
  · rw [if_neg h]
    unfold va_up
    rw [if_neg (show ¬ j = 4 by omega), if_neg (show ¬ j = 3 by omega), if_neg (show ¬ j = 2 by omega), if_neg (show ¬ j = 1 by omega), if_neg (show ¬ j = 0 by omega)]
set_option maxHeartbeats 4000000 in
set_option maxRecDepth 100000 in
theorem world_eq (cs : Nat → ClassId) : LX6 cs q6 a6 ++ [(qg, .inl (cs 0, 28, .inl (fun _ => 0)))] = wsM false (Aof b q6 a6 qg qp qr qw) cs m0 := by
  unfold LX6 wsM vrefs vr1
  simp only [List.cons_append, List.nil_append, List.map_cons, List.map_nil]
  refine cons_eq (rfl) ?_
  refine cons_eq (congrArg (fun f : Nat → Option Nat => ((a6 0 : Nat), (Sum.inl (cs 1, 4, Sum.inr (Sum.inr (Sum.inr (Sum.inr f)))) : va_E))) ref1) ?_
  refine cons_eq (rfl) ?_
  refine cons_eq (rfl) ?_
  refine cons_eq (rfl) ?_
  refine cons_eq (rfl) ?_
  refine cons_eq (rfl) ?_
  refine cons_eq (rfl) ?_
  refine cons_eq (rfl) ?_
  refine cons_eq (rfl) ?_
  refine cons_eq (rfl) ?_
  refine cons_eq (congrArg (fun f : Nat → Option Nat => ((a6 10 : Nat), (Sum.inl (cs 2, 5, Sum.inr (Sum.inr (Sum.inr (Sum.inr f)))) : va_E))) ref5) ?_
  refine cons_eq (rfl) ?_
  refine cons_eq (rfl) ?_
  refine cons_eq (rfl) ?_
  refine cons_eq (rfl) ?_
  refine cons_eq (rfl) ?_
  refine cons_eq (rfl) ?_
  refine cons_eq (rfl) ?_
  refine cons_eq (rfl) ?_
  refine cons_eq (rfl) ?_
  refine cons_eq (rfl) ?_
  refine cons_eq (rfl) ?_
  refine cons_eq (congrArg (fun f : Nat → Option Nat => ((a6 22 : Nat), (Sum.inl (cs 3, 5, Sum.inr (Sum.inr (Sum.inr (Sum.inr f)))) : va_E))) ref13_0) ?_
  refine cons_eq (rfl) ?_
  refine cons_eq (rfl) ?_
  refine cons_eq (rfl) ?_
  refine cons_eq (rfl) ?_
  refine cons_eq (rfl) ?_
  refine cons_eq (rfl) ?_
  refine cons_eq (rfl) ?_
  refine cons_eq (rfl) ?_
  refine cons_eq (rfl) ?_
  refine cons_eq (rfl) ?_
  refine cons_eq (rfl) ?_
  refine cons_eq (rfl) ?_
  refine cons_eq (rfl) ?_
  refine cons_eq (rfl) ?_
  refine cons_eq (congrArg (fun f : Nat → Option Nat => ((a6 32 : Nat), (Sum.inl (cs 3, 5, Sum.inr (Sum.inr (Sum.inr (Sum.inr f)))) : va_E))) ref13_1) ?_
  refine cons_eq (rfl) ?_
  refine cons_eq (rfl) ?_
  refine cons_eq (rfl) ?_
  refine cons_eq (rfl) ?_
  refine cons_eq (rfl) ?_
  refine cons_eq (rfl) ?_
  refine cons_eq (rfl) ?_
  refine cons_eq (rfl) ?_
  refine cons_eq (rfl) ?_
  refine cons_eq (rfl) ?_
  refine cons_eq (rfl) ?_
  refine cons_eq (rfl) ?_
  refine cons_eq (rfl) ?_
  rfl
theorem world_two (cs : Nat → ClassId) (m : Mem) : wsM true (Aof b q6 a6 qg qp qr qw) cs m = wsM false (Aof b q6 a6 qg qp qr qw) cs m ++ [(qp, .inl (cs 0, 40, .inl (fun j => m 71 0 j))), (qr, .inl (cs 0, 9, .inl (fun j => m 72 0 j))), (qw, .inl (cs 0, 25, .inl (fun j => m 73 0 j)))] := by
  unfold wsM vrefs
  rw [List.map_append]
  rfl
end WORLD
end
