-- ===== PART A: goes FIRST, ahead of the names: the tables' words, and 'selects' of the private methods out of them =====
/-- a private method of a class that the tables say can be made, by its rows of tables_1 -/
def lw_okq (q : MethodName × Nat) : Prop := (q.1.cls ≠ "java/lang/invoke/MethodHandle" ∧ q.1.cls ≠ "java/lang/invoke/VarHandle") ∧ Cond.instantiable q.1.cls q.2 ∈ tables_1 ∧ Cond.privateMethod q.1 ∈ tables_1 ∧ Cond.instanceMethod q.1 ∈ tables_1
theorem lw_p0 : lw_okq (⟨"HeronFord", "faulty", "(I)I"⟩, 7) := ⟨⟨by decide +kernel, by decide +kernel⟩, List.mem_of_getElem? (i := 11) (by decide +kernel), List.mem_of_getElem? (i := 243) (by decide +kernel), List.mem_of_getElem? (i := 244) (by decide +kernel)⟩
theorem lw_p1 : lw_okq (⟨"HeronFord", "refusalOf", "(IIIIZ)I"⟩, 7) := ⟨⟨by decide +kernel, by decide +kernel⟩, List.mem_of_getElem? (i := 11) (by decide +kernel), List.mem_of_getElem? (i := 307) (by decide +kernel), List.mem_of_getElem? (i := 308) (by decide +kernel)⟩
theorem lw_p2 : lw_okq (⟨"HeronFord", "walkAsTold", "(III)I"⟩, 7) := ⟨⟨by decide +kernel, by decide +kernel⟩, List.mem_of_getElem? (i := 11) (by decide +kernel), List.mem_of_getElem? (i := 311) (by decide +kernel), List.mem_of_getElem? (i := 312) (by decide +kernel)⟩
theorem lw_p3 : lw_okq (⟨"HeronFord$Crossing", "payerOf", "(II)I"⟩, 14) := ⟨⟨by decide +kernel, by decide +kernel⟩, List.mem_of_getElem? (i := 101) (by decide +kernel), List.mem_of_getElem? (i := 331) (by decide +kernel), List.mem_of_getElem? (i := 332) (by decide +kernel)⟩
theorem lw_p4 : lw_okq (⟨"HeronFord$Crossing", "hasNewSong", "(I)Z"⟩, 14) := ⟨⟨by decide +kernel, by decide +kernel⟩, List.mem_of_getElem? (i := 101) (by decide +kernel), List.mem_of_getElem? (i := 344) (by decide +kernel), List.mem_of_getElem? (i := 345) (by decide +kernel)⟩
theorem lw_p5 : lw_okq (⟨"HeronFord$Crossing", "hasSecret", "(I)Z"⟩, 14) := ⟨⟨by decide +kernel, by decide +kernel⟩, List.mem_of_getElem? (i := 101) (by decide +kernel), List.mem_of_getElem? (i := 348) (by decide +kernel), List.mem_of_getElem? (i := 349) (by decide +kernel)⟩
theorem lw_p6 : lw_okq (⟨"HeronFord$Crossing", "lenderFor", "(II)I"⟩, 14) := ⟨⟨by decide +kernel, by decide +kernel⟩, List.mem_of_getElem? (i := 101) (by decide +kernel), List.mem_of_getElem? (i := 352) (by decide +kernel), List.mem_of_getElem? (i := 353) (by decide +kernel)⟩
theorem lw_p7 : lw_okq (⟨"HeronFord$Crossing", "pay", "(III)V"⟩, 14) := ⟨⟨by decide +kernel, by decide +kernel⟩, List.mem_of_getElem? (i := 101) (by decide +kernel), List.mem_of_getElem? (i := 356) (by decide +kernel), List.mem_of_getElem? (i := 357) (by decide +kernel)⟩
theorem lw_p8 : lw_okq (⟨"HeronFord$Crossing", "turnWord", "(II)V"⟩, 14) := ⟨⟨by decide +kernel, by decide +kernel⟩, List.mem_of_getElem? (i := 101) (by decide +kernel), List.mem_of_getElem? (i := 360) (by decide +kernel), List.mem_of_getElem? (i := 361) (by decide +kernel)⟩
theorem lw_p9 : lw_okq (⟨"HeronFord", "refusalWithFish", "(IIIII)I"⟩, 7) := ⟨⟨by decide +kernel, by decide +kernel⟩, List.mem_of_getElem? (i := 11) (by decide +kernel), List.mem_of_getElem? (i := 368) (by decide +kernel), List.mem_of_getElem? (i := 369) (by decide +kernel)⟩
theorem lw_p10 : lw_okq (⟨"HeronFord", "unknownFish", "()I"⟩, 7) := ⟨⟨by decide +kernel, by decide +kernel⟩, List.mem_of_getElem? (i := 11) (by decide +kernel), List.mem_of_getElem? (i := 372) (by decide +kernel), List.mem_of_getElem? (i := 373) (by decide +kernel)⟩
theorem lw_p11 : lw_okq (⟨"HeronFord$Sheet", "cut", "(I)I"⟩, 4) := ⟨⟨by decide +kernel, by decide +kernel⟩, List.mem_of_getElem? (i := 20) (by decide +kernel), List.mem_of_getElem? (i := 394) (by decide +kernel), List.mem_of_getElem? (i := 395) (by decide +kernel)⟩
def lw_privs_1 : List (MethodName × Nat) := [(⟨"HeronFord", "faulty", "(I)I"⟩, 7), (⟨"HeronFord", "refusalOf", "(IIIIZ)I"⟩, 7), (⟨"HeronFord", "walkAsTold", "(III)I"⟩, 7), (⟨"HeronFord$Crossing", "payerOf", "(II)I"⟩, 14), (⟨"HeronFord$Crossing", "hasNewSong", "(I)Z"⟩, 14), (⟨"HeronFord$Crossing", "hasSecret", "(I)Z"⟩, 14), (⟨"HeronFord$Crossing", "lenderFor", "(II)I"⟩, 14), (⟨"HeronFord$Crossing", "pay", "(III)V"⟩, 14), (⟨"HeronFord$Crossing", "turnWord", "(II)V"⟩, 14), (⟨"HeronFord", "refusalWithFish", "(IIIII)I"⟩, 7), (⟨"HeronFord", "unknownFish", "()I"⟩, 7), (⟨"HeronFord$Sheet", "cut", "(I)I"⟩, 4)]
theorem lw_r1 : ∀ q ∈ lw_privs_1, lw_okq q := List.forall_mem_cons.mpr ⟨lw_p0, List.forall_mem_cons.mpr ⟨lw_p1, List.forall_mem_cons.mpr ⟨lw_p2, List.forall_mem_cons.mpr ⟨lw_p3, List.forall_mem_cons.mpr ⟨lw_p4, List.forall_mem_cons.mpr ⟨lw_p5, List.forall_mem_cons.mpr ⟨lw_p6, List.forall_mem_cons.mpr ⟨lw_p7, List.forall_mem_cons.mpr ⟨lw_p8, List.forall_mem_cons.mpr ⟨lw_p9, List.forall_mem_cons.mpr ⟨lw_p10, List.forall_mem_cons.mpr ⟨lw_p11, fun _ h => absurd h List.not_mem_nil⟩⟩⟩⟩⟩⟩⟩⟩⟩⟩⟩⟩
def lw_privs : List (MethodName × Nat) := lw_privs_1
def lw_tbl : List Cond := k2_sels lw_privs ++ tables_1
theorem lw_privs_ok : ∀ q ∈ lw_privs, lw_okq q := lw_r1
-- ===== end of PART A =====
def RX0 : String := "HeronFord$Crossing"
def TX0 : u_T := fun k => match k with
  | 0 => ("HeronFord$Crossing", "kind", "[I", true)
  | 1 => ("HeronFord$Crossing", "size", "[I", true)
  | 2 => ("HeronFord$Crossing", "scales", "[I", true)
  | 3 => ("HeronFord$Crossing", "song", "[I", true)
  | 4 => ("HeronFord$Crossing", "secret", "[I", true)
  | 5 => ("HeronFord$Crossing", "owed", "[[I", true)
  | 6 => ("HeronFord$Crossing", "groups", "[I", true)
  | 7 => ("HeronFord$Crossing", "sums", "[I", true)
  | 8 => ("HeronFord$Crossing", "count", "I", false)
  | 9 => ("HeronFord$Crossing", "dear", "I", false)
  | 10 => ("HeronFord$Crossing", "known", "I", false)
  | 11 => ("HeronFord$Crossing", "harmed", "I", false)
  | 12 => ("HeronFord$Crossing", "above", "I", false)
  | _ => ("HeronFord$Crossing", "got", "I", false)
def tyX0 : Nat → FieldType := fun k => match k with
  | 0 => .array .int
  | 1 => .array .int
  | 2 => .array .int
  | 3 => .array .int
  | 4 => .array .int
  | 5 => .array (.array .int)
  | 6 => .array .int
  | 7 => .array .int
  | 8 => .int
  | 9 => .int
  | 10 => .int
  | 11 => .int
  | 12 => .int
  | _ => .int
abbrev wsX00 : List Cond := u_ws RX0 TX0 14
theorem nmX0 : ∀ a, a < 14 → ∀ b, b < 14 → a ≠ b → (TX0 a).2.1 ≠ (TX0 b).2.1 := by decide +kernel
theorem tyX0_ok : ∀ k, k < 14 → parseFieldDescriptor (TX0 k).2.2.1 = some (tyX0 k) := by decide +kernel
abbrev cX0_init : ByteArray := prog_2_method_1_code
def yX0_init : MethodName := ⟨RX0, "<init>", "()V"⟩
abbrev cX0_start : ByteArray := prog_2_method_2_code
def yX0_start : MethodName := ⟨RX0, "start", "(LHeronFord$Told;)V"⟩
abbrev cX0_walk : ByteArray := prog_2_method_3_code
def yX0_walk : MethodName := ⟨RX0, "walk", "(LHeronFord$Sheet;II)I"⟩
abbrev cX0_pass : ByteArray := prog_2_method_4_code
def yX0_pass : MethodName := ⟨RX0, "pass", "(II)I"⟩
abbrev cX0_payerOf : ByteArray := prog_2_method_6_code
def yX0_payerOf : MethodName := ⟨RX0, "payerOf", "(II)I"⟩
abbrev cX0_pay : ByteArray := prog_2_method_7_code
def yX0_pay : MethodName := ⟨RX0, "pay", "(III)V"⟩
abbrev cX0_turnWord : ByteArray := prog_2_method_8_code
def yX0_turnWord : MethodName := ⟨RX0, "turnWord", "(II)V"⟩
abbrev cX0_hasNewSong : ByteArray := prog_2_method_9_code
def yX0_hasNewSong : MethodName := ⟨RX0, "hasNewSong", "(I)Z"⟩
abbrev cX0_hasSecret : ByteArray := prog_2_method_10_code
def yX0_hasSecret : MethodName := ⟨RX0, "hasSecret", "(I)Z"⟩
abbrev cX0_lenderFor : ByteArray := prog_2_method_11_code
def yX0_lenderFor : MethodName := ⟨RX0, "lenderFor", "(II)I"⟩
abbrev cX0_tollOf : ByteArray := prog_2_method_12_code
def yX0_tollOf : MethodName := ⟨RX0, "tollOf", "(I)I"⟩
abbrev cX0_isBelow : ByteArray := prog_2_method_13_code
def yX0_isBelow : MethodName := ⟨RX0, "isBelow", "(I)Z"⟩
def RX1 : String := "HeronFord$Fish"
def TX1 : u_T := fun k => match k with
  | 0 => ("HeronFord$Fish", "kind", "I", false)
  | 1 => ("HeronFord$Fish", "size", "I", false)
  | 2 => ("HeronFord$Fish", "scales", "I", false)
  | 3 => ("HeronFord$Fish", "song", "I", false)
  | _ => ("HeronFord$Fish", "secret", "I", false)
def tyX1 : Nat → FieldType := fun k => match k with
  | 0 => .int
  | 1 => .int
  | 2 => .int
  | 3 => .int
  | _ => .int
abbrev wsX10 : List Cond := u_ws RX1 TX1 5
theorem nmX1 : ∀ a, a < 5 → ∀ b, b < 5 → a ≠ b → (TX1 a).2.1 ≠ (TX1 b).2.1 := by decide +kernel
theorem tyX1_ok : ∀ k, k < 5 → parseFieldDescriptor (TX1 k).2.2.1 = some (tyX1 k) := by decide +kernel
abbrev cX1_init : ByteArray := prog_3_method_1_code
def yX1_init : MethodName := ⟨RX1, "<init>", "()V"⟩
abbrev cX1_take : ByteArray := prog_3_method_2_code
def yX1_take : MethodName := ⟨RX1, "take", "(LHeronFord$Sheet;I)V"⟩
def RX2 : String := "HeronFord$Readings"
def TX2 : u_T := fun k => match k with
  | 0 => ("HeronFord$Readings", "fish", "[I", true)
  | 1 => ("HeronFord$Readings", "left", "[I", true)
  | _ => ("HeronFord$Readings", "count", "I", false)
def tyX2 : Nat → FieldType := fun k => match k with
  | 0 => .array .int
  | 1 => .array .int
  | _ => .int
abbrev wsX20 : List Cond := u_ws RX2 TX2 3
theorem nmX2 : ∀ a, a < 3 → ∀ b, b < 3 → a ≠ b → (TX2 a).2.1 ≠ (TX2 b).2.1 := by decide +kernel
theorem tyX2_ok : ∀ k, k < 3 → parseFieldDescriptor (TX2 k).2.2.1 = some (tyX2 k) := by decide +kernel
abbrev cX2_init : ByteArray := prog_4_method_1_code
def yX2_init : MethodName := ⟨RX2, "<init>", "()V"⟩
def RX3 : String := "HeronFord$Search"
def TX3 : u_T := fun k => match k with
  | 0 => ("HeronFord$Search", "crossing", "LHeronFord$Crossing;", true)
  | 1 => ("HeronFord$Search", "row", "[I", true)
  | 2 => ("HeronFord$Search", "bestRow", "[I", true)
  | 3 => ("HeronFord$Search", "ways", "I", false)
  | _ => ("HeronFord$Search", "best", "I", false)
def tyX3 : Nat → FieldType := fun k => match k with
  | 0 => .object "HeronFord$Crossing"
  | 1 => .array .int
  | 2 => .array .int
  | 3 => .int
  | _ => .int
abbrev wsX30 : List Cond := u_ws RX3 TX3 5
theorem nmX3 : ∀ a, a < 5 → ∀ b, b < 5 → a ≠ b → (TX3 a).2.1 ≠ (TX3 b).2.1 := by decide +kernel
theorem tyX3_ok : ∀ k, k < 5 → parseFieldDescriptor (TX3 k).2.2.1 = some (tyX3 k) := by decide +kernel
abbrev cX3_init : ByteArray := prog_5_method_1_code
def yX3_init : MethodName := ⟨RX3, "<init>", "()V"⟩
abbrev cX3_forget : ByteArray := prog_5_method_2_code
def yX3_forget : MethodName := ⟨RX3, "forget", "()V"⟩
def RX4 : String := "HeronFord$Sheet"
def TX4 : u_T := fun k => match k with
  | 0 => ("HeronFord$Sheet", "cells", "[I", true)
  | 1 => ("HeronFord$Sheet", "hasRow", "Z", false)
  | 2 => ("HeronFord$Sheet", "lane", "I", false)
  | _ => ("HeronFord$Sheet", "length", "I", false)
def tyX4 : Nat → FieldType := fun k => match k with
  | 0 => .array .int
  | 1 => .boolean
  | 2 => .int
  | _ => .int
abbrev wsX40 : List Cond := u_ws RX4 TX4 4
theorem nmX4 : ∀ a, a < 4 → ∀ b, b < 4 → a ≠ b → (TX4 a).2.1 ≠ (TX4 b).2.1 := by decide +kernel
theorem tyX4_ok : ∀ k, k < 4 → parseFieldDescriptor (TX4 k).2.2.1 = some (tyX4 k) := by decide +kernel
abbrev cX4_init : ByteArray := prog_6_method_1_code
def yX4_init : MethodName := ⟨RX4, "<init>", "()V"⟩
abbrev cX4_begin : ByteArray := prog_6_method_2_code
def yX4_begin : MethodName := ⟨RX4, "begin", "(II)V"⟩
abbrev cX4_holds : ByteArray := prog_6_method_3_code
def yX4_holds : MethodName := ⟨RX4, "holds", "(II)Z"⟩
abbrev cX4_faultAt : ByteArray := prog_6_method_4_code
def yX4_faultAt : MethodName := ⟨RX4, "faultAt", "(III)I"⟩
abbrev cX4_at : ByteArray := prog_6_method_5_code
def yX4_at : MethodName := ⟨RX4, "at", "(I)I"⟩
abbrev cX4_set : ByteArray := prog_6_method_6_code
def yX4_set : MethodName := ⟨RX4, "set", "(II)V"⟩
abbrev cX4_cut : ByteArray := prog_6_method_7_code
def yX4_cut : MethodName := ⟨RX4, "cut", "(I)I"⟩
def RX5 : String := "HeronFord$Told"
def TX5 : u_T := fun k => match k with
  | 0 => ("HeronFord$Told", "fish", "[LHeronFord$Fish;", true)
  | 1 => ("HeronFord$Told", "count", "I", false)
  | 2 => ("HeronFord$Told", "dear", "I", false)
  | _ => ("HeronFord$Told", "known", "I", false)
def tyX5 : Nat → FieldType := fun k => match k with
  | 0 => .array (.object "HeronFord$Fish")
  | 1 => .int
  | 2 => .int
  | _ => .int
abbrev wsX50 : List Cond := u_ws RX5 TX5 4
theorem nmX5 : ∀ a, a < 4 → ∀ b, b < 4 → a ≠ b → (TX5 a).2.1 ≠ (TX5 b).2.1 := by decide +kernel
theorem tyX5_ok : ∀ k, k < 4 → parseFieldDescriptor (TX5 k).2.2.1 = some (tyX5 k) := by decide +kernel
abbrev cX5_init : ByteArray := prog_7_method_1_code
def yX5_init : MethodName := ⟨RX5, "<init>", "()V"⟩
abbrev cX5_has : ByteArray := prog_7_method_2_code
def yX5_has : MethodName := ⟨RX5, "has", "(I)Z"⟩
abbrev cX5_take : ByteArray := prog_7_method_3_code
def yX5_take : MethodName := ⟨RX5, "take", "(LHeronFord$Sheet;II)V"⟩
def RX6 : String := "HeronFord"
def TX6 : u_T := fun k => match k with
  | 0 => ("HeronFord", "sheets", "[LHeronFord$Sheet;", true)
  | 1 => ("HeronFord", "told", "LHeronFord$Told;", true)
  | 2 => ("HeronFord", "crossing", "LHeronFord$Crossing;", true)
  | 3 => ("HeronFord", "search", "LHeronFord$Search;", true)
  | 4 => ("HeronFord", "readings", "LHeronFord$Readings;", true)
  | 5 => ("HeronFord", "trace", "I", false)
  | _ => ("HeronFord", "fault", "I", false)
def tyX6 : Nat → FieldType := fun k => match k with
  | 0 => .array (.object "HeronFord$Sheet")
  | 1 => .object "HeronFord$Told"
  | 2 => .object "HeronFord$Crossing"
  | 3 => .object "HeronFord$Search"
  | 4 => .object "HeronFord$Readings"
  | 5 => .int
  | _ => .int
abbrev wsX60 : List Cond := u_ws RX6 TX6 7
theorem nmX6 : ∀ a, a < 7 → ∀ b, b < 7 → a ≠ b → (TX6 a).2.1 ≠ (TX6 b).2.1 := by decide +kernel
theorem tyX6_ok : ∀ k, k < 7 → parseFieldDescriptor (TX6 k).2.2.1 = some (tyX6 k) := by decide +kernel
abbrev cX6_init : ByteArray := prog_1_method_1_code
def yX6_init : MethodName := ⟨RX6, "<init>", "()V"⟩
abbrev cX6_ford : ByteArray := prog_1_method_2_code
def yX6_ford : MethodName := ⟨RX6, "ford", "(IIII)I"⟩
abbrev cX6_ofFish : ByteArray := prog_1_method_3_code
def yX6_ofFish : MethodName := ⟨RX6, "ofFish", "(II)I"⟩
abbrev cX6_dear : ByteArray := prog_1_method_4_code
def yX6_dear : MethodName := ⟨RX6, "dear", "(I)I"⟩
abbrev cX6_scales : ByteArray := prog_1_method_5_code
def yX6_scales : MethodName := ⟨RX6, "scales", "(II)I"⟩
abbrev cX6_hear : ByteArray := prog_1_method_6_code
def yX6_hear : MethodName := ⟨RX6, "hear", "(I)I"⟩
abbrev cX6_passes : ByteArray := prog_1_method_7_code
def yX6_passes : MethodName := ⟨RX6, "passes", "(IIIII)I"⟩
abbrev cX6_owes : ByteArray := prog_1_method_8_code
def yX6_owes : MethodName := ⟨RX6, "owes", "(IIIIII)I"⟩
abbrev cX6_toll : ByteArray := prog_1_method_9_code
def yX6_toll : MethodName := ⟨RX6, "toll", "(IIIII)I"⟩
abbrev cX6_wants : ByteArray := prog_1_method_12_code
def yX6_wants : MethodName := ⟨RX6, "wants", "(IIIII)I"⟩
abbrev cX6_sheet : ByteArray := prog_1_method_19_code
def yX6_sheet : MethodName := ⟨RX6, "sheet", "(III)I"⟩
abbrev cX6_put : ByteArray := prog_1_method_21_code
def yX6_put : MethodName := ⟨RX6, "put", "(III)I"⟩
abbrev cX6_many : ByteArray := prog_1_method_29_code
def yX6_many : MethodName := ⟨RX6, "many", "(I)I"⟩
abbrev cX6_isWithin : ByteArray := prog_1_method_30_code
def yX6_isWithin : MethodName := ⟨RX6, "isWithin", "(III)Z"⟩
abbrev cX6_isSheet : ByteArray := prog_1_method_31_code
def yX6_isSheet : MethodName := ⟨RX6, "isSheet", "(I)Z"⟩
abbrev cX6_isLane : ByteArray := prog_1_method_32_code
def yX6_isLane : MethodName := ⟨RX6, "isLane", "(I)Z"⟩
abbrev cX6_shareOf : ByteArray := prog_1_method_35_code
def yX6_shareOf : MethodName := ⟨RX6, "shareOf", "(II)I"⟩
abbrev cX6_faulty : ByteArray := prog_1_method_36_code
def yX6_faulty : MethodName := ⟨RX6, "faulty", "(I)I"⟩
abbrev cX6_unknownFish : ByteArray := prog_1_method_37_code
def yX6_unknownFish : MethodName := ⟨RX6, "unknownFish", "()I"⟩
abbrev cX6_refusalWithFish : ByteArray := prog_1_method_38_code
def yX6_refusalWithFish : MethodName := ⟨RX6, "refusalWithFish", "(IIIII)I"⟩
abbrev cX6_refusalOf : ByteArray := prog_1_method_39_code
def yX6_refusalOf : MethodName := ⟨RX6, "refusalOf", "(IIIIZ)I"⟩
abbrev cX6_walkAsTold : ByteArray := prog_1_method_40_code
def yX6_walkAsTold : MethodName := ⟨RX6, "walkAsTold", "(III)I"⟩
abbrev cX6_firstFault : ByteArray := prog_1_method_46_code
def yX6_firstFault : MethodName := ⟨RX6, "firstFault", "(LHeronFord$Sheet;II)I"⟩
abbrev cX6_goesOn : ByteArray := prog_1_method_47_code
def yX6_goesOn : MethodName := ⟨RX6, "goesOn", "(II)Z"⟩
abbrev cX6_isDigit : ByteArray := prog_1_method_48_code
def yX6_isDigit : MethodName := ⟨RX6, "isDigit", "(III)Z"⟩
abbrev cX6_kindOf : ByteArray := prog_1_method_49_code
def yX6_kindOf : MethodName := ⟨RX6, "kindOf", "(I)I"⟩
def RX7 : String := "HeronFordModel"
def TX7 : u_T := fun k => match k with
  | _ => ("", "", "", false)
def tyX7 : Nat → FieldType := fun k => match k with
  | _ => .int
abbrev wsX70 : List Cond := u_ws RX7 TX7 0
theorem nmX7 : ∀ a, a < 0 → ∀ b, b < 0 → a ≠ b → (TX7 a).2.1 ≠ (TX7 b).2.1 := by decide +kernel
theorem tyX7_ok : ∀ k, k < 0 → parseFieldDescriptor (TX7 k).2.2.1 = some (tyX7 k) := by decide +kernel
def RJ9 : String := "java/lang/Math"
abbrev cJ9_max_7cf53 : ByteArray := prog_10_method_65_code
def yJ9_max_7cf53 : MethodName := ⟨RJ9, "max", "(II)I"⟩
abbrev cJ9_min_7cf53 : ByteArray := prog_10_method_69_code
def yJ9_min_7cf53 : MethodName := ⟨RJ9, "min", "(II)I"⟩
def RJ7 : String := "java/util/Arrays"
abbrev cJ7_fill_53178 : ByteArray := prog_11_method_103_code
def yJ7_fill_53178 : MethodName := ⟨RJ7, "fill", "([II)V"⟩
def RL : String := "HeronFordLaw"
abbrev cL_cell : ByteArray := method_2_code
def yL_cell : MethodName := ⟨RL, "cell", "([II)I"⟩
abbrev cL_some : ByteArray := method_3_code
def yL_some : MethodName := ⟨RL, "some", "(II)I"⟩
abbrev cL_put : ByteArray := method_4_code
def yL_put : MethodName := ⟨RL, "put", "(LHeronFord;[III[I)I"⟩
abbrev cL_change : ByteArray := method_5_code
def yL_change : MethodName := ⟨RL, "change", "(LHeronFord;I[I)Z"⟩
abbrev cL_share : ByteArray := method_6_code
def yL_share : MethodName := ⟨RL, "share", "([II)I"⟩
abbrev cL_begin : ByteArray := method_7_code
def yL_begin : MethodName := ⟨RL, "begin", "([I[I[I)V"⟩
abbrev cL_toll : ByteArray := method_8_code
def yL_toll : MethodName := ⟨RL, "toll", "([II[I)I"⟩
abbrev cL_pass : ByteArray := method_9_code
def yL_pass : MethodName := ⟨RL, "pass", "([III[I[I)Z"⟩
abbrev cL_go : ByteArray := method_10_code
def yL_go : MethodName := ⟨RL, "go", "([I[II[I[I)I"⟩
abbrev cL_lay : ByteArray := method_11_code
def yL_lay : MethodName := ⟨RL, "lay", "(LHeronFord;[II[I[I[I[I)I"⟩
abbrev cL_law : ByteArray := code
def yL_law : MethodName := ⟨RL, "law", "([I)Z"⟩
abbrev vwCl : List vw_C := [(RX0, TX0, 14), (RX1, TX1, 5), (RX2, TX2, 3), (RX3, TX3, 5), (RX4, TX4, 4), (RX5, TX5, 4), (RX6, TX6, 7)]
