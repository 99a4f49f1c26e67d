section
-- ===== PART A: goes FIRST, ahead of the names: the tables' words, and 'selects' of the private methods out of them =====
/-- a private method of a class that the tables say can be made, by its rows of tables_1 -/
def lw_okq (q : MethodName × Nat) : Prop := (q.1.cls ≠ "java/lang/invoke/MethodHandle" ∧ q.1.cls ≠ "java/lang/invoke/VarHandle") ∧ Cond.instantiable q.1.cls q.2 ∈ tables_1 ∧ Cond.privateMethod q.1 ∈ tables_1 ∧ Cond.instanceMethod q.1 ∈ tables_1
theorem lw_p0 : lw_okq (⟨"HeronFord", "faulty", "(I)I"⟩, 7) := ⟨⟨by decide +kernel, by decide +kernel⟩, List.mem_of_getElem? (i := 13) (by decide +kernel), List.mem_of_getElem? (i := 254) (by decide +kernel), List.mem_of_getElem? (i := 255) (by decide +kernel)⟩
theorem lw_p1 : lw_okq (⟨"HeronFord", "refusalOf", "(IIIIZ)I"⟩, 7) := ⟨⟨by decide +kernel, by decide +kernel⟩, List.mem_of_getElem? (i := 13) (by decide +kernel), List.mem_of_getElem? (i := 318) (by decide +kernel), List.mem_of_getElem? (i := 319) (by decide +kernel)⟩
theorem lw_p2 : lw_okq (⟨"HeronFord", "walkAsTold", "(III)I"⟩, 7) := ⟨⟨by decide +kernel, by decide +kernel⟩, List.mem_of_getElem? (i := 13) (by decide +kernel), List.mem_of_getElem? (i := 322) (by decide +kernel), List.mem_of_getElem? (i := 323) (by decide +kernel)⟩
theorem lw_p3 : lw_okq (⟨"HeronFord$Crossing", "payerOf", "(II)I"⟩, 14) := ⟨⟨by decide +kernel, by decide +kernel⟩, List.mem_of_getElem? (i := 105) (by decide +kernel), List.mem_of_getElem? (i := 342) (by decide +kernel), List.mem_of_getElem? (i := 343) (by decide +kernel)⟩
theorem lw_p4 : lw_okq (⟨"HeronFord$Crossing", "hasNewSong", "(I)Z"⟩, 14) := ⟨⟨by decide +kernel, by decide +kernel⟩, List.mem_of_getElem? (i := 105) (by decide +kernel), List.mem_of_getElem? (i := 355) (by decide +kernel), List.mem_of_getElem? (i := 356) (by decide +kernel)⟩
theorem lw_p5 : lw_okq (⟨"HeronFord$Crossing", "hasSecret", "(I)Z"⟩, 14) := ⟨⟨by decide +kernel, by decide +kernel⟩, List.mem_of_getElem? (i := 105) (by decide +kernel), List.mem_of_getElem? (i := 359) (by decide +kernel), List.mem_of_getElem? (i := 360) (by decide +kernel)⟩
theorem lw_p6 : lw_okq (⟨"HeronFord$Crossing", "lenderFor", "(II)I"⟩, 14) := ⟨⟨by decide +kernel, by decide +kernel⟩, List.mem_of_getElem? (i := 105) (by decide +kernel), List.mem_of_getElem? (i := 363) (by decide +kernel), List.mem_of_getElem? (i := 364) (by decide +kernel)⟩
theorem lw_p7 : lw_okq (⟨"HeronFord$Crossing", "pay", "(III)V"⟩, 14) := ⟨⟨by decide +kernel, by decide +kernel⟩, List.mem_of_getElem? (i := 105) (by decide +kernel), List.mem_of_getElem? (i := 367) (by decide +kernel), List.mem_of_getElem? (i := 368) (by decide +kernel)⟩
theorem lw_p8 : lw_okq (⟨"HeronFord$Crossing", "turnWord", "(II)V"⟩, 14) := ⟨⟨by decide +kernel, by decide +kernel⟩, List.mem_of_getElem? (i := 105) (by decide +kernel), List.mem_of_getElem? (i := 371) (by decide +kernel), List.mem_of_getElem? (i := 372) (by decide +kernel)⟩
theorem lw_p9 : lw_okq (⟨"HeronFord", "refusalWithFish", "(IIIII)I"⟩, 7) := ⟨⟨by decide +kernel, by decide +kernel⟩, List.mem_of_getElem? (i := 13) (by decide +kernel), List.mem_of_getElem? (i := 379) (by decide +kernel), List.mem_of_getElem? (i := 380) (by decide +kernel)⟩
theorem lw_p10 : lw_okq (⟨"HeronFord", "unknownFish", "()I"⟩, 7) := ⟨⟨by decide +kernel, by decide +kernel⟩, List.mem_of_getElem? (i := 13) (by decide +kernel), List.mem_of_getElem? (i := 383) (by decide +kernel), List.mem_of_getElem? (i := 384) (by decide +kernel)⟩
theorem lw_p11 : lw_okq (⟨"HeronFord$Crossing", "cheapest", "(II)I"⟩, 14) := ⟨⟨by decide +kernel, by decide +kernel⟩, List.mem_of_getElem? (i := 105) (by decide +kernel), List.mem_of_getElem? (i := 408) (by decide +kernel), List.mem_of_getElem? (i := 409) (by decide +kernel)⟩
theorem lw_p12 : lw_okq (⟨"HeronFord$Crossing", "netOf", "(I)I"⟩, 14) := ⟨⟨by decide +kernel, by decide +kernel⟩, List.mem_of_getElem? (i := 105) (by decide +kernel), List.mem_of_getElem? (i := 435) (by decide +kernel), List.mem_of_getElem? (i := 436) (by decide +kernel)⟩
theorem lw_p13 : lw_okq (⟨"HeronFord", "fits", "(III)Z"⟩, 7) := ⟨⟨by decide +kernel, by decide +kernel⟩, List.mem_of_getElem? (i := 13) (by decide +kernel), List.mem_of_getElem? (i := 462) (by decide +kernel), List.mem_of_getElem? (i := 463) (by decide +kernel)⟩
theorem lw_p14 : lw_okq (⟨"HeronFord$Sheet", "cut", "(I)I"⟩, 4) := ⟨⟨by decide +kernel, by decide +kernel⟩, List.mem_of_getElem? (i := 22) (by decide +kernel), List.mem_of_getElem? (i := 510) (by decide +kernel), List.mem_of_getElem? (i := 511) (by decide +kernel)⟩
theorem lw_p15 : lw_okq (⟨"HeronFord", "pikesTelling", "(LHeronFord$Fish;)I"⟩, 7) := ⟨⟨by decide +kernel, by decide +kernel⟩, List.mem_of_getElem? (i := 13) (by decide +kernel), List.mem_of_getElem? (i := 527) (by decide +kernel), List.mem_of_getElem? (i := 528) (by decide +kernel)⟩
def lw_privs_1 : List (MethodName × Nat) := [(⟨"HeronFord", "faulty", "(I)I"⟩, 7), (⟨"HeronFord", "refusalOf", "(IIIIZ)I"⟩, 7), (⟨"HeronFord", "walkAsTold", "(III)I"⟩, 7), (⟨"HeronFord$Crossing", "payerOf", "(II)I"⟩, 14), (⟨"HeronFord$Crossing", "hasNewSong", "(I)Z"⟩, 14), (⟨"HeronFord$Crossing", "hasSecret", "(I)Z"⟩, 14), (⟨"HeronFord$Crossing", "lenderFor", "(II)I"⟩, 14), (⟨"HeronFord$Crossing", "pay", "(III)V"⟩, 14), (⟨"HeronFord$Crossing", "turnWord", "(II)V"⟩, 14), (⟨"HeronFord", "refusalWithFish", "(IIIII)I"⟩, 7), (⟨"HeronFord", "unknownFish", "()I"⟩, 7), (⟨"HeronFord$Crossing", "cheapest", "(II)I"⟩, 14), (⟨"HeronFord$Crossing", "netOf", "(I)I"⟩, 14), (⟨"HeronFord", "fits", "(III)Z"⟩, 7), (⟨"HeronFord$Sheet", "cut", "(I)I"⟩, 4), (⟨"HeronFord", "pikesTelling", "(LHeronFord$Fish;)I"⟩, 7)]
theorem lw_r1 : ∀ q ∈ lw_privs_1, lw_okq q := List.forall_mem_cons.mpr ⟨lw_p0, List.forall_mem_cons.mpr ⟨lw_p1, List.forall_mem_cons.mpr ⟨lw_p2, List.forall_mem_cons.mpr ⟨lw_p3, List.forall_mem_cons.mpr ⟨lw_p4, List.forall_mem_cons.mpr ⟨lw_p5, List.forall_mem_cons.mpr ⟨lw_p6, List.forall_mem_cons.mpr ⟨lw_p7, List.forall_mem_cons.mpr ⟨lw_p8, List.forall_mem_cons.mpr ⟨lw_p9, List.forall_mem_cons.mpr ⟨lw_p10, List.forall_mem_cons.mpr ⟨lw_p11, List.forall_mem_cons.mpr ⟨lw_p12, List.forall_mem_cons.mpr ⟨lw_p13, List.forall_mem_cons.mpr ⟨lw_p14, List.forall_mem_cons.mpr ⟨lw_p15, fun _ h => absurd h List.not_mem_nil⟩⟩⟩⟩⟩⟩⟩⟩⟩⟩⟩⟩⟩⟩⟩⟩
theorem lw_p16 : lw_okq (⟨"HeronFord", "leaveTrace", "(I)V"⟩, 7) := ⟨⟨by decide +kernel, by decide +kernel⟩, List.mem_of_getElem? (i := 13) (by decide +kernel), List.mem_of_getElem? (i := 531) (by decide +kernel), List.mem_of_getElem? (i := 532) (by decide +kernel)⟩
theorem lw_p17 : lw_okq (⟨"HeronFord", "eelsTelling", "(LHeronFord$Fish;)I"⟩, 7) := ⟨⟨by decide +kernel, by decide +kernel⟩, List.mem_of_getElem? (i := 13) (by decide +kernel), List.mem_of_getElem? (i := 535) (by decide +kernel), List.mem_of_getElem? (i := 536) (by decide +kernel)⟩
theorem lw_p18 : lw_okq (⟨"HeronFord", "fishsTelling", "(LHeronFord$Fish;)I"⟩, 7) := ⟨⟨by decide +kernel, by decide +kernel⟩, List.mem_of_getElem? (i := 13) (by decide +kernel), List.mem_of_getElem? (i := 539) (by decide +kernel), List.mem_of_getElem? (i := 540) (by decide +kernel)⟩
theorem lw_p19 : lw_okq (⟨"HeronFordModel", "against", "(IIII)I"⟩, 35) := ⟨⟨by decide +kernel, by decide +kernel⟩, List.mem_of_getElem? (i := 563) (by decide +kernel), List.mem_of_getElem? (i := 688) (by decide +kernel), List.mem_of_getElem? (i := 689) (by decide +kernel)⟩
theorem lw_p20 : lw_okq (⟨"HeronFordModel", "fails", "(I)I"⟩, 35) := ⟨⟨by decide +kernel, by decide +kernel⟩, List.mem_of_getElem? (i := 563) (by decide +kernel), List.mem_of_getElem? (i := 692) (by decide +kernel), List.mem_of_getElem? (i := 693) (by decide +kernel)⟩
theorem lw_p21 : lw_okq (⟨"HeronFordModel", "readFord", "(I)Z"⟩, 35) := ⟨⟨by decide +kernel, by decide +kernel⟩, List.mem_of_getElem? (i := 563) (by decide +kernel), List.mem_of_getElem? (i := 696) (by decide +kernel), List.mem_of_getElem? (i := 697) (by decide +kernel)⟩
theorem lw_p22 : lw_okq (⟨"HeronFordModel", "isSign", "(II)Z"⟩, 35) := ⟨⟨by decide +kernel, by decide +kernel⟩, List.mem_of_getElem? (i := 563) (by decide +kernel), List.mem_of_getElem? (i := 700) (by decide +kernel), List.mem_of_getElem? (i := 701) (by decide +kernel)⟩
theorem lw_p23 : lw_okq (⟨"HeronFordModel", "digit", "(III)I"⟩, 35) := ⟨⟨by decide +kernel, by decide +kernel⟩, List.mem_of_getElem? (i := 563) (by decide +kernel), List.mem_of_getElem? (i := 704) (by decide +kernel), List.mem_of_getElem? (i := 705) (by decide +kernel)⟩
theorem lw_p24 : lw_okq (⟨"HeronFordModel", "readFish", "(I)Z"⟩, 35) := ⟨⟨by decide +kernel, by decide +kernel⟩, List.mem_of_getElem? (i := 563) (by decide +kernel), List.mem_of_getElem? (i := 708) (by decide +kernel), List.mem_of_getElem? (i := 709) (by decide +kernel)⟩
theorem lw_p25 : lw_okq (⟨"HeronFordModel", "isFish", "(I)Z"⟩, 35) := ⟨⟨by decide +kernel, by decide +kernel⟩, List.mem_of_getElem? (i := 563) (by decide +kernel), List.mem_of_getElem? (i := 716) (by decide +kernel), List.mem_of_getElem? (i := 717) (by decide +kernel)⟩
theorem lw_p26 : lw_okq (⟨"HeronFordModel", "share", "(I)I"⟩, 35) := ⟨⟨by decide +kernel, by decide +kernel⟩, List.mem_of_getElem? (i := 563) (by decide +kernel), List.mem_of_getElem? (i := 720) (by decide +kernel), List.mem_of_getElem? (i := 721) (by decide +kernel)⟩
theorem lw_p27 : lw_okq (⟨"HeronFordModel", "layPasses", "(IIII)I"⟩, 35) := ⟨⟨by decide +kernel, by decide +kernel⟩, List.mem_of_getElem? (i := 563) (by decide +kernel), List.mem_of_getElem? (i := 743) (by decide +kernel), List.mem_of_getElem? (i := 744) (by decide +kernel)⟩
theorem lw_p28 : lw_okq (⟨"HeronFordModel", "go", "()I"⟩, 35) := ⟨⟨by decide +kernel, by decide +kernel⟩, List.mem_of_getElem? (i := 563) (by decide +kernel), List.mem_of_getElem? (i := 747) (by decide +kernel), List.mem_of_getElem? (i := 748) (by decide +kernel)⟩
theorem lw_p29 : lw_okq (⟨"HeronFordModel", "begin", "()V"⟩, 35) := ⟨⟨by decide +kernel, by decide +kernel⟩, List.mem_of_getElem? (i := 563) (by decide +kernel), List.mem_of_getElem? (i := 751) (by decide +kernel), List.mem_of_getElem? (i := 752) (by decide +kernel)⟩
theorem lw_p30 : lw_okq (⟨"HeronFordModel", "pass", "(II)Z"⟩, 35) := ⟨⟨by decide +kernel, by decide +kernel⟩, List.mem_of_getElem? (i := 563) (by decide +kernel), List.mem_of_getElem? (i := 755) (by decide +kernel), List.mem_of_getElem? (i := 756) (by decide +kernel)⟩
theorem lw_p31 : lw_okq (⟨"HeronFordModel", "payScales", "(I)Z"⟩, 35) := ⟨⟨by decide +kernel, by decide +kernel⟩, List.mem_of_getElem? (i := 563) (by decide +kernel), List.mem_of_getElem? (i := 759) (by decide +kernel), List.mem_of_getElem? (i := 760) (by decide +kernel)⟩
def lw_privs_2 : List (MethodName × Nat) := [(⟨"HeronFord", "leaveTrace", "(I)V"⟩, 7), (⟨"HeronFord", "eelsTelling", "(LHeronFord$Fish;)I"⟩, 7), (⟨"HeronFord", "fishsTelling", "(LHeronFord$Fish;)I"⟩, 7), (⟨"HeronFordModel", "against", "(IIII)I"⟩, 35), (⟨"HeronFordModel", "fails", "(I)I"⟩, 35), (⟨"HeronFordModel", "readFord", "(I)Z"⟩, 35), (⟨"HeronFordModel", "isSign", "(II)Z"⟩, 35), (⟨"HeronFordModel", "digit", "(III)I"⟩, 35), (⟨"HeronFordModel", "readFish", "(I)Z"⟩, 35), (⟨"HeronFordModel", "isFish", "(I)Z"⟩, 35), (⟨"HeronFordModel", "share", "(I)I"⟩, 35), (⟨"HeronFordModel", "layPasses", "(IIII)I"⟩, 35), (⟨"HeronFordModel", "go", "()I"⟩, 35), (⟨"HeronFordModel", "begin", "()V"⟩, 35), (⟨"HeronFordModel", "pass", "(II)Z"⟩, 35), (⟨"HeronFordModel", "payScales", "(I)Z"⟩, 35)]
theorem lw_r2 : ∀ q ∈ lw_privs_2, lw_okq q := List.forall_mem_cons.mpr ⟨lw_p16, List.forall_mem_cons.mpr ⟨lw_p17, List.forall_mem_cons.mpr ⟨lw_p18, List.forall_mem_cons.mpr ⟨lw_p19, List.forall_mem_cons.mpr ⟨lw_p20, List.forall_mem_cons.mpr ⟨lw_p21, List.forall_mem_cons.mpr ⟨lw_p22, List.forall_mem_cons.mpr ⟨lw_p23, List.forall_mem_cons.mpr ⟨lw_p24, List.forall_mem_cons.mpr ⟨lw_p25, List.forall_mem_cons.mpr ⟨lw_p26, List.forall_mem_cons.mpr ⟨lw_p27, List.forall_mem_cons.mpr ⟨lw_p28, List.forall_mem_cons.mpr ⟨lw_p29, List.forall_mem_cons.mpr ⟨lw_p30, List.forall_mem_cons.mpr ⟨lw_p31, fun _ h => absurd h List.not_mem_nil⟩⟩⟩⟩⟩⟩⟩⟩⟩⟩⟩⟩⟩⟩⟩⟩
theorem lw_p32 : lw_okq (⟨"HeronFordModel", "tollNow", "(I)I"⟩, 35) := ⟨⟨by decide +kernel, by decide +kernel⟩, List.mem_of_getElem? (i := 563) (by decide +kernel), List.mem_of_getElem? (i := 763) (by decide +kernel), List.mem_of_getElem? (i := 764) (by decide +kernel)⟩
theorem lw_p33 : lw_okq (⟨"HeronFordModel", "paySong", "(I)Z"⟩, 35) := ⟨⟨by decide +kernel, by decide +kernel⟩, List.mem_of_getElem? (i := 563) (by decide +kernel), List.mem_of_getElem? (i := 767) (by decide +kernel), List.mem_of_getElem? (i := 768) (by decide +kernel)⟩
theorem lw_p34 : lw_okq (⟨"HeronFordModel", "paySecret", "(I)Z"⟩, 35) := ⟨⟨by decide +kernel, by decide +kernel⟩, List.mem_of_getElem? (i := 563) (by decide +kernel), List.mem_of_getElem? (i := 771) (by decide +kernel), List.mem_of_getElem? (i := 772) (by decide +kernel)⟩
theorem lw_p35 : lw_okq (⟨"HeronFordModel", "payCredit", "(I)Z"⟩, 35) := ⟨⟨by decide +kernel, by decide +kernel⟩, List.mem_of_getElem? (i := 563) (by decide +kernel), List.mem_of_getElem? (i := 775) (by decide +kernel), List.mem_of_getElem? (i := 776) (by decide +kernel)⟩
theorem lw_p36 : lw_okq (⟨"HeronFordModel", "lender", "(II)I"⟩, 35) := ⟨⟨by decide +kernel, by decide +kernel⟩, List.mem_of_getElem? (i := 563) (by decide +kernel), List.mem_of_getElem? (i := 779) (by decide +kernel), List.mem_of_getElem? (i := 780) (by decide +kernel)⟩
theorem lw_p37 : lw_okq (⟨"HeronFordModel", "tellPasses", "(I)I"⟩, 35) := ⟨⟨by decide +kernel, by decide +kernel⟩, List.mem_of_getElem? (i := 563) (by decide +kernel), List.mem_of_getElem? (i := 783) (by decide +kernel), List.mem_of_getElem? (i := 784) (by decide +kernel)⟩
theorem lw_p38 : lw_okq (⟨"HeronFordModel", "goRow", "(IIII)I"⟩, 35) := ⟨⟨by decide +kernel, by decide +kernel⟩, List.mem_of_getElem? (i := 563) (by decide +kernel), List.mem_of_getElem? (i := 791) (by decide +kernel), List.mem_of_getElem? (i := 792) (by decide +kernel)⟩
theorem lw_p39 : lw_okq (⟨"HeronFordModel", "findLeast", "(I)V"⟩, 35) := ⟨⟨by decide +kernel, by decide +kernel⟩, List.mem_of_getElem? (i := 563) (by decide +kernel), List.mem_of_getElem? (i := 803) (by decide +kernel), List.mem_of_getElem? (i := 804) (by decide +kernel)⟩
theorem lw_p40 : lw_okq (⟨"HeronFordModel", "goWays", "(II)I"⟩, 35) := ⟨⟨by decide +kernel, by decide +kernel⟩, List.mem_of_getElem? (i := 563) (by decide +kernel), List.mem_of_getElem? (i := 807) (by decide +kernel), List.mem_of_getElem? (i := 808) (by decide +kernel)⟩
theorem lw_p41 : lw_okq (⟨"HeronFordModel", "nextOrder", "()Z"⟩, 35) := ⟨⟨by decide +kernel, by decide +kernel⟩, List.mem_of_getElem? (i := 563) (by decide +kernel), List.mem_of_getElem? (i := 811) (by decide +kernel), List.mem_of_getElem? (i := 812) (by decide +kernel)⟩
theorem lw_p42 : lw_okq (⟨"HeronFordModel", "swap", "(II)V"⟩, 35) := ⟨⟨by decide +kernel, by decide +kernel⟩, List.mem_of_getElem? (i := 563) (by decide +kernel), List.mem_of_getElem? (i := 815) (by decide +kernel), List.mem_of_getElem? (i := 816) (by decide +kernel)⟩
theorem lw_p43 : lw_okq (⟨"HeronFordModel", "layNets", "()V"⟩, 35) := ⟨⟨by decide +kernel, by decide +kernel⟩, List.mem_of_getElem? (i := 563) (by decide +kernel), List.mem_of_getElem? (i := 823) (by decide +kernel), List.mem_of_getElem? (i := 824) (by decide +kernel)⟩
theorem lw_p44 : lw_okq (⟨"HeronFordModel", "mostParts", "()I"⟩, 35) := ⟨⟨by decide +kernel, by decide +kernel⟩, List.mem_of_getElem? (i := 563) (by decide +kernel), List.mem_of_getElem? (i := 827) (by decide +kernel), List.mem_of_getElem? (i := 828) (by decide +kernel)⟩
theorem lw_p45 : lw_okq (⟨"HeronFordModel", "isEven", "(I)Z"⟩, 35) := ⟨⟨by decide +kernel, by decide +kernel⟩, List.mem_of_getElem? (i := 563) (by decide +kernel), List.mem_of_getElem? (i := 831) (by decide +kernel), List.mem_of_getElem? (i := 832) (by decide +kernel)⟩
theorem lw_p46 : lw_okq (⟨"HeronFordModel", "lay", "(IIII)I"⟩, 35) := ⟨⟨by decide +kernel, by decide +kernel⟩, List.mem_of_getElem? (i := 563) (by decide +kernel), List.mem_of_getElem? (i := 851) (by decide +kernel), List.mem_of_getElem? (i := 852) (by decide +kernel)⟩
theorem lw_p47 : lw_okq (⟨"HeronFordModel", "areSo", "()Z"⟩, 35) := ⟨⟨by decide +kernel, by decide +kernel⟩, List.mem_of_getElem? (i := 563) (by decide +kernel), List.mem_of_getElem? (i := 855) (by decide +kernel), List.mem_of_getElem? (i := 856) (by decide +kernel)⟩
def lw_privs_3 : List (MethodName × Nat) := [(⟨"HeronFordModel", "tollNow", "(I)I"⟩, 35), (⟨"HeronFordModel", "paySong", "(I)Z"⟩, 35), (⟨"HeronFordModel", "paySecret", "(I)Z"⟩, 35), (⟨"HeronFordModel", "payCredit", "(I)Z"⟩, 35), (⟨"HeronFordModel", "lender", "(II)I"⟩, 35), (⟨"HeronFordModel", "tellPasses", "(I)I"⟩, 35), (⟨"HeronFordModel", "goRow", "(IIII)I"⟩, 35), (⟨"HeronFordModel", "findLeast", "(I)V"⟩, 35), (⟨"HeronFordModel", "goWays", "(II)I"⟩, 35), (⟨"HeronFordModel", "nextOrder", "()Z"⟩, 35), (⟨"HeronFordModel", "swap", "(II)V"⟩, 35), (⟨"HeronFordModel", "layNets", "()V"⟩, 35), (⟨"HeronFordModel", "mostParts", "()I"⟩, 35), (⟨"HeronFordModel", "isEven", "(I)Z"⟩, 35), (⟨"HeronFordModel", "lay", "(IIII)I"⟩, 35), (⟨"HeronFordModel", "areSo", "()Z"⟩, 35)]
theorem lw_r3 : ∀ q ∈ lw_privs_3, lw_okq q := List.forall_mem_cons.mpr ⟨lw_p32, List.forall_mem_cons.mpr ⟨lw_p33, List.forall_mem_cons.mpr ⟨lw_p34, List.forall_mem_cons.mpr ⟨lw_p35, List.forall_mem_cons.mpr ⟨lw_p36, List.forall_mem_cons.mpr ⟨lw_p37, List.forall_mem_cons.mpr ⟨lw_p38, List.forall_mem_cons.mpr ⟨lw_p39, List.forall_mem_cons.mpr ⟨lw_p40, List.forall_mem_cons.mpr ⟨lw_p41, List.forall_mem_cons.mpr ⟨lw_p42, List.forall_mem_cons.mpr ⟨lw_p43, List.forall_mem_cons.mpr ⟨lw_p44, List.forall_mem_cons.mpr ⟨lw_p45, List.forall_mem_cons.mpr ⟨lw_p46, List.forall_mem_cons.mpr ⟨lw_p47, fun _ h => absurd h List.not_mem_nil⟩⟩⟩⟩⟩⟩⟩⟩⟩⟩⟩⟩⟩⟩⟩⟩
theorem lw_p48 : lw_okq (⟨"HeronFordModel", "lost", "(I)J"⟩, 35) := ⟨⟨by decide +kernel, by decide +kernel⟩, List.mem_of_getElem? (i := 563) (by decide +kernel), List.mem_of_getElem? (i := 892) (by decide +kernel), List.mem_of_getElem? (i := 893) (by decide +kernel)⟩
theorem lw_p49 : lw_okq (⟨"HeronFordModel", "begins", "(I)V"⟩, 35) := ⟨⟨by decide +kernel, by decide +kernel⟩, List.mem_of_getElem? (i := 563) (by decide +kernel), List.mem_of_getElem? (i := 904) (by decide +kernel), List.mem_of_getElem? (i := 905) (by decide +kernel)⟩
def lw_privs_4 : List (MethodName × Nat) := [(⟨"HeronFordModel", "lost", "(I)J"⟩, 35), (⟨"HeronFordModel", "begins", "(I)V"⟩, 35)]
theorem lw_r4 : ∀ q ∈ lw_privs_4, lw_okq q := List.forall_mem_cons.mpr ⟨lw_p48, List.forall_mem_cons.mpr ⟨lw_p49, fun _ h => absurd h List.not_mem_nil⟩⟩
def lw_privs : List (MethodName × Nat) := lw_privs_1 ++ (lw_privs_2 ++ (lw_privs_3 ++ (lw_privs_4)))
def lw_tbl : List Cond := k2_sels lw_privs ++ tables_1
theorem lw_privs_ok : ∀ q ∈ lw_privs, lw_okq q := by
  show ∀ q ∈ lw_privs_1 ++ (lw_privs_2 ++ (lw_privs_3 ++ (lw_privs_4))), lw_okq q
  exact List.forall_mem_append.mpr ⟨lw_r1, List.forall_mem_append.mpr ⟨lw_r2, List.forall_mem_append.mpr ⟨lw_r3, lw_r4⟩⟩⟩
-- ===== end of PART A =====
def RX0 : String := "HeronFord$Crossing"
def TX0 : u_T := fun k => match k with
  | 0 => ("HeronFord$Crossing", "kind", "[I", true)
  | 1 => ("HeronFord$Crossing", "size", "[I", true)
  | 2 => ("HeronFord$Crossing", "scales", "[I", true)
  | 3 => ("HeronFord$Crossing", "song", "[I", true)
  | 4 => ("HeronFord$Crossing", "secret", "[I", true)
  | 5 => ("HeronFord$Crossing", "owed", "[[I", true)
  | 6 => ("HeronFord$Crossing", "groups", "[I", true)
  | 7 => ("HeronFord$Crossing", "sums", "[I", true)
  | 8 => ("HeronFord$Crossing", "count", "I", false)
  | 9 => ("HeronFord$Crossing", "dear", "I", false)
  | 10 => ("HeronFord$Crossing", "known", "I", false)
  | 11 => ("HeronFord$Crossing", "harmed", "I", false)
  | 12 => ("HeronFord$Crossing", "above", "I", false)
  | _ => ("HeronFord$Crossing", "got", "I", false)
def tyX0 : Nat → FieldType := fun k => match k with
  | 0 => .array .int
  | 1 => .array .int
  | 2 => .array .int
  | 3 => .array .int
  | 4 => .array .int
  | 5 => .array (.array .int)
  | 6 => .array .int
  | 7 => .array .int
  | 8 => .int
  | 9 => .int
  | 10 => .int
  | 11 => .int
  | 12 => .int
  | _ => .int
abbrev wsX00 : List Cond := u_ws RX0 TX0 14
theorem nmX0 : ∀ a, a < 14 → ∀ b, b < 14 → a ≠ b → (TX0 a).2.1 ≠ (TX0 b).2.1 := by decide +kernel
theorem tyX0_ok : ∀ k, k < 14 → parseFieldDescriptor (TX0 k).2.2.1 = some (tyX0 k) := by decide +kernel
abbrev cX0_init : ByteArray := prog_2_method_1_code
def yX0_init : MethodName := ⟨RX0, "<init>", "()V"⟩
abbrev cX0_start : ByteArray := prog_2_method_2_code
def yX0_start : MethodName := ⟨RX0, "start", "(LHeronFord$Told;)V"⟩
abbrev cX0_walk : ByteArray := prog_2_method_3_code
def yX0_walk : MethodName := ⟨RX0, "walk", "(LHeronFord$Sheet;II)I"⟩
abbrev cX0_pass : ByteArray := prog_2_method_4_code
def yX0_pass : MethodName := ⟨RX0, "pass", "(II)I"⟩
abbrev cX0_unpass : ByteArray := prog_2_method_5_code
def yX0_unpass : MethodName := ⟨RX0, "unpass", "(III)V"⟩
abbrev cX0_payerOf : ByteArray := prog_2_method_6_code
def yX0_payerOf : MethodName := ⟨RX0, "payerOf", "(II)I"⟩
abbrev cX0_pay : ByteArray := prog_2_method_7_code
def yX0_pay : MethodName := ⟨RX0, "pay", "(III)V"⟩
abbrev cX0_turnWord : ByteArray := prog_2_method_8_code
def yX0_turnWord : MethodName := ⟨RX0, "turnWord", "(II)V"⟩
abbrev cX0_hasNewSong : ByteArray := prog_2_method_9_code
def yX0_hasNewSong : MethodName := ⟨RX0, "hasNewSong", "(I)Z"⟩
abbrev cX0_hasSecret : ByteArray := prog_2_method_10_code
def yX0_hasSecret : MethodName := ⟨RX0, "hasSecret", "(I)Z"⟩
abbrev cX0_lenderFor : ByteArray := prog_2_method_11_code
def yX0_lenderFor : MethodName := ⟨RX0, "lenderFor", "(II)I"⟩
abbrev cX0_tollOf : ByteArray := prog_2_method_12_code
def yX0_tollOf : MethodName := ⟨RX0, "tollOf", "(I)I"⟩
abbrev cX0_isBelow : ByteArray := prog_2_method_13_code
def yX0_isBelow : MethodName := ⟨RX0, "isBelow", "(I)Z"⟩
abbrev cX0_stillDue : ByteArray := prog_2_method_14_code
def yX0_stillDue : MethodName := ⟨RX0, "stillDue", "(I)I"⟩
abbrev cX0_cheapest : ByteArray := prog_2_method_15_code
def yX0_cheapest : MethodName := ⟨RX0, "cheapest", "(II)I"⟩
abbrev cX0_fewestPayments : ByteArray := prog_2_method_16_code
def yX0_fewestPayments : MethodName := ⟨RX0, "fewestPayments", "()I"⟩
abbrev cX0_netOf : ByteArray := prog_2_method_17_code
def yX0_netOf : MethodName := ⟨RX0, "netOf", "(I)I"⟩
def RX1 : String := "HeronFord$Fish"
def TX1 : u_T := fun k => match k with
  | 0 => ("HeronFord$Fish", "kind", "I", false)
  | 1 => ("HeronFord$Fish", "size", "I", false)
  | 2 => ("HeronFord$Fish", "scales", "I", false)
  | 3 => ("HeronFord$Fish", "song", "I", false)
  | _ => ("HeronFord$Fish", "secret", "I", false)
def tyX1 : Nat → FieldType := fun k => match k with
  | 0 => .int
  | 1 => .int
  | 2 => .int
  | 3 => .int
  | _ => .int
abbrev wsX10 : List Cond := u_ws RX1 TX1 5
theorem nmX1 : ∀ a, a < 5 → ∀ b, b < 5 → a ≠ b → (TX1 a).2.1 ≠ (TX1 b).2.1 := by decide +kernel
theorem tyX1_ok : ∀ k, k < 5 → parseFieldDescriptor (TX1 k).2.2.1 = some (tyX1 k) := by decide +kernel
abbrev cX1_init : ByteArray := prog_3_method_1_code
def yX1_init : MethodName := ⟨RX1, "<init>", "()V"⟩
abbrev cX1_take : ByteArray := prog_3_method_2_code
def yX1_take : MethodName := ⟨RX1, "take", "(LHeronFord$Sheet;I)V"⟩
def RX2 : String := "HeronFord$Readings"
def TX2 : u_T := fun k => match k with
  | 0 => ("HeronFord$Readings", "fish", "[I", true)
  | 1 => ("HeronFord$Readings", "left", "[I", true)
  | _ => ("HeronFord$Readings", "count", "I", false)
def tyX2 : Nat → FieldType := fun k => match k with
  | 0 => .array .int
  | 1 => .array .int
  | _ => .int
abbrev wsX20 : List Cond := u_ws RX2 TX2 3
theorem nmX2 : ∀ a, a < 3 → ∀ b, b < 3 → a ≠ b → (TX2 a).2.1 ≠ (TX2 b).2.1 := by decide +kernel
theorem tyX2_ok : ∀ k, k < 3 → parseFieldDescriptor (TX2 k).2.2.1 = some (tyX2 k) := by decide +kernel
abbrev cX2_init : ByteArray := prog_4_method_1_code
def yX2_init : MethodName := ⟨RX2, "<init>", "()V"⟩
abbrev cX2_add : ByteArray := prog_4_method_2_code
def yX2_add : MethodName := ⟨RX2, "add", "(II)I"⟩
abbrev cX2_areSo : ByteArray := prog_4_method_3_code
def yX2_areSo : MethodName := ⟨RX2, "areSo", "(LHeronFord$Crossing;)Z"⟩
def RX3 : String := "HeronFord$Search"
def TX3 : u_T := fun k => match k with
  | 0 => ("HeronFord$Search", "crossing", "LHeronFord$Crossing;", true)
  | 1 => ("HeronFord$Search", "row", "[I", true)
  | 2 => ("HeronFord$Search", "bestRow", "[I", true)
  | 3 => ("HeronFord$Search", "ways", "I", false)
  | _ => ("HeronFord$Search", "best", "I", false)
def tyX3 : Nat → FieldType := fun k => match k with
  | 0 => .object "HeronFord$Crossing"
  | 1 => .array .int
  | 2 => .array .int
  | 3 => .int
  | _ => .int
abbrev wsX30 : List Cond := u_ws RX3 TX3 5
theorem nmX3 : ∀ a, a < 5 → ∀ b, b < 5 → a ≠ b → (TX3 a).2.1 ≠ (TX3 b).2.1 := by decide +kernel
theorem tyX3_ok : ∀ k, k < 5 → parseFieldDescriptor (TX3 k).2.2.1 = some (tyX3 k) := by decide +kernel
abbrev cX3_init : ByteArray := prog_5_method_1_code
def yX3_init : MethodName := ⟨RX3, "<init>", "()V"⟩
abbrev cX3_forget : ByteArray := prog_5_method_2_code
def yX3_forget : MethodName := ⟨RX3, "forget", "()V"⟩
abbrev cX3_find : ByteArray := prog_5_method_3_code
def yX3_find : MethodName := ⟨RX3, "find", "(LHeronFord$Told;I)V"⟩
abbrev cX3_goOn : ByteArray := prog_5_method_4_code
def yX3_goOn : MethodName := ⟨RX3, "goOn", "(LHeronFord$Search;I)V"⟩
def RX4 : String := "HeronFord$Sheet"
def TX4 : u_T := fun k => match k with
  | 0 => ("HeronFord$Sheet", "cells", "[I", true)
  | 1 => ("HeronFord$Sheet", "hasRow", "Z", false)
  | 2 => ("HeronFord$Sheet", "lane", "I", false)
  | _ => ("HeronFord$Sheet", "length", "I", false)
def tyX4 : Nat → FieldType := fun k => match k with
  | 0 => .array .int
  | 1 => .boolean
  | 2 => .int
  | _ => .int
abbrev wsX40 : List Cond := u_ws RX4 TX4 4
theorem nmX4 : ∀ a, a < 4 → ∀ b, b < 4 → a ≠ b → (TX4 a).2.1 ≠ (TX4 b).2.1 := by decide +kernel
theorem tyX4_ok : ∀ k, k < 4 → parseFieldDescriptor (TX4 k).2.2.1 = some (tyX4 k) := by decide +kernel
abbrev cX4_init : ByteArray := prog_6_method_1_code
def yX4_init : MethodName := ⟨RX4, "<init>", "()V"⟩
abbrev cX4_begin : ByteArray := prog_6_method_2_code
def yX4_begin : MethodName := ⟨RX4, "begin", "(II)V"⟩
abbrev cX4_holds : ByteArray := prog_6_method_3_code
def yX4_holds : MethodName := ⟨RX4, "holds", "(II)Z"⟩
abbrev cX4_faultAt : ByteArray := prog_6_method_4_code
def yX4_faultAt : MethodName := ⟨RX4, "faultAt", "(III)I"⟩
abbrev cX4_at : ByteArray := prog_6_method_5_code
def yX4_at : MethodName := ⟨RX4, "at", "(I)I"⟩
abbrev cX4_set : ByteArray := prog_6_method_6_code
def yX4_set : MethodName := ⟨RX4, "set", "(II)V"⟩
abbrev cX4_cut : ByteArray := prog_6_method_7_code
def yX4_cut : MethodName := ⟨RX4, "cut", "(I)I"⟩
def RX5 : String := "HeronFord$Told"
def TX5 : u_T := fun k => match k with
  | 0 => ("HeronFord$Told", "fish", "[LHeronFord$Fish;", true)
  | 1 => ("HeronFord$Told", "count", "I", false)
  | 2 => ("HeronFord$Told", "dear", "I", false)
  | _ => ("HeronFord$Told", "known", "I", false)
def tyX5 : Nat → FieldType := fun k => match k with
  | 0 => .array (.object "HeronFord$Fish")
  | 1 => .int
  | 2 => .int
  | _ => .int
abbrev wsX50 : List Cond := u_ws RX5 TX5 4
theorem nmX5 : ∀ a, a < 4 → ∀ b, b < 4 → a ≠ b → (TX5 a).2.1 ≠ (TX5 b).2.1 := by decide +kernel
theorem tyX5_ok : ∀ k, k < 4 → parseFieldDescriptor (TX5 k).2.2.1 = some (tyX5 k) := by decide +kernel
abbrev cX5_init : ByteArray := prog_7_method_1_code
def yX5_init : MethodName := ⟨RX5, "<init>", "()V"⟩
abbrev cX5_has : ByteArray := prog_7_method_2_code
def yX5_has : MethodName := ⟨RX5, "has", "(I)Z"⟩
abbrev cX5_take : ByteArray := prog_7_method_3_code
def yX5_take : MethodName := ⟨RX5, "take", "(LHeronFord$Sheet;II)V"⟩
def RX6 : String := "HeronFord"
def TX6 : u_T := fun k => match k with
  | 0 => ("HeronFord", "sheets", "[LHeronFord$Sheet;", true)
  | 1 => ("HeronFord", "told", "LHeronFord$Told;", true)
  | 2 => ("HeronFord", "crossing", "LHeronFord$Crossing;", true)
  | 3 => ("HeronFord", "search", "LHeronFord$Search;", true)
  | 4 => ("HeronFord", "readings", "LHeronFord$Readings;", true)
  | 5 => ("HeronFord", "trace", "I", false)
  | _ => ("HeronFord", "fault", "I", false)
def tyX6 : Nat → FieldType := fun k => match k with
  | 0 => .array (.object "HeronFord$Sheet")
  | 1 => .object "HeronFord$Told"
  | 2 => .object "HeronFord$Crossing"
  | 3 => .object "HeronFord$Search"
  | 4 => .object "HeronFord$Readings"
  | 5 => .int
  | _ => .int
abbrev wsX60 : List Cond := u_ws RX6 TX6 7
theorem nmX6 : ∀ a, a < 7 → ∀ b, b < 7 → a ≠ b → (TX6 a).2.1 ≠ (TX6 b).2.1 := by decide +kernel
theorem tyX6_ok : ∀ k, k < 7 → parseFieldDescriptor (TX6 k).2.2.1 = some (tyX6 k) := by decide +kernel
abbrev cX6_init : ByteArray := prog_1_method_1_code
def yX6_init : MethodName := ⟨RX6, "<init>", "()V"⟩
abbrev cX6_ford : ByteArray := prog_1_method_2_code
def yX6_ford : MethodName := ⟨RX6, "ford", "(IIII)I"⟩
abbrev cX6_ofFish : ByteArray := prog_1_method_3_code
def yX6_ofFish : MethodName := ⟨RX6, "ofFish", "(II)I"⟩
abbrev cX6_dear : ByteArray := prog_1_method_4_code
def yX6_dear : MethodName := ⟨RX6, "dear", "(I)I"⟩
abbrev cX6_scales : ByteArray := prog_1_method_5_code
def yX6_scales : MethodName := ⟨RX6, "scales", "(II)I"⟩
abbrev cX6_hear : ByteArray := prog_1_method_6_code
def yX6_hear : MethodName := ⟨RX6, "hear", "(I)I"⟩
abbrev cX6_passes : ByteArray := prog_1_method_7_code
def yX6_passes : MethodName := ⟨RX6, "passes", "(IIIII)I"⟩
abbrev cX6_owes : ByteArray := prog_1_method_8_code
def yX6_owes : MethodName := ⟨RX6, "owes", "(IIIIII)I"⟩
abbrev cX6_toll : ByteArray := prog_1_method_9_code
def yX6_toll : MethodName := ⟨RX6, "toll", "(IIIII)I"⟩
abbrev cX6_least : ByteArray := prog_1_method_10_code
def yX6_least : MethodName := ⟨RX6, "least", "(II)I"⟩
abbrev cX6_payments : ByteArray := prog_1_method_11_code
def yX6_payments : MethodName := ⟨RX6, "payments", "(IIII)I"⟩
abbrev cX6_wants : ByteArray := prog_1_method_12_code
def yX6_wants : MethodName := ⟨RX6, "wants", "(IIIII)I"⟩
abbrev cX6_reading : ByteArray := prog_1_method_13_code
def yX6_reading : MethodName := ⟨RX6, "reading", "(II)I"⟩
abbrev cX6_back : ByteArray := prog_1_method_14_code
def yX6_back : MethodName := ⟨RX6, "back", "(I)I"⟩
abbrev cX6_had : ByteArray := prog_1_method_15_code
def yX6_had : MethodName := ⟨RX6, "had", "(IIIII)I"⟩
abbrev cX6_dears : ByteArray := prog_1_method_16_code
def yX6_dears : MethodName := ⟨RX6, "dears", "(IIII)I"⟩
abbrev cX6_kinds : ByteArray := prog_1_method_17_code
def yX6_kinds : MethodName := ⟨RX6, "kinds", "(IIIII)I"⟩
abbrev cX6_odds : ByteArray := prog_1_method_18_code
def yX6_odds : MethodName := ⟨RX6, "odds", "(IIIII)J"⟩
abbrev cX6_sheet : ByteArray := prog_1_method_19_code
def yX6_sheet : MethodName := ⟨RX6, "sheet", "(III)I"⟩
abbrev cX6_lose : ByteArray := prog_1_method_20_code
def yX6_lose : MethodName := ⟨RX6, "lose", "(I)I"⟩
abbrev cX6_put : ByteArray := prog_1_method_21_code
def yX6_put : MethodName := ⟨RX6, "put", "(III)I"⟩
abbrev cX6_cell : ByteArray := prog_1_method_22_code
def yX6_cell : MethodName := ⟨RX6, "cell", "(III)J"⟩
abbrev cX6_copy : ByteArray := prog_1_method_23_code
def yX6_copy : MethodName := ⟨RX6, "copy", "(IIIII)I"⟩
abbrev cX6_tell : ByteArray := prog_1_method_24_code
def yX6_tell : MethodName := ⟨RX6, "tell", "(I)I"⟩
abbrev cX6_let : ByteArray := prog_1_method_25_code
def yX6_let : MethodName := ⟨RX6, "let", "(I)I"⟩
abbrev cX6_as : ByteArray := prog_1_method_26_code
def yX6_as : MethodName := ⟨RX6, "as", "(II)I"⟩
abbrev cX6_trace : ByteArray := prog_1_method_27_code
def yX6_trace : MethodName := ⟨RX6, "trace", "()I"⟩
abbrev cX6_fault : ByteArray := prog_1_method_28_code
def yX6_fault : MethodName := ⟨RX6, "fault", "()I"⟩
abbrev cX6_many : ByteArray := prog_1_method_29_code
def yX6_many : MethodName := ⟨RX6, "many", "(I)I"⟩
abbrev cX6_isWithin : ByteArray := prog_1_method_30_code
def yX6_isWithin : MethodName := ⟨RX6, "isWithin", "(III)Z"⟩
abbrev cX6_isSheet : ByteArray := prog_1_method_31_code
def yX6_isSheet : MethodName := ⟨RX6, "isSheet", "(I)Z"⟩
abbrev cX6_isLane : ByteArray := prog_1_method_32_code
def yX6_isLane : MethodName := ⟨RX6, "isLane", "(I)Z"⟩
abbrev cX6_mayBe : ByteArray := prog_1_method_33_code
def yX6_mayBe : MethodName := ⟨RX6, "mayBe", "(II)Z"⟩
abbrev cX6_bitIf : ByteArray := prog_1_method_34_code
def yX6_bitIf : MethodName := ⟨RX6, "bitIf", "(ZI)I"⟩
abbrev cX6_shareOf : ByteArray := prog_1_method_35_code
def yX6_shareOf : MethodName := ⟨RX6, "shareOf", "(II)I"⟩
abbrev cX6_faulty : ByteArray := prog_1_method_36_code
def yX6_faulty : MethodName := ⟨RX6, "faulty", "(I)I"⟩
abbrev cX6_unknownFish : ByteArray := prog_1_method_37_code
def yX6_unknownFish : MethodName := ⟨RX6, "unknownFish", "()I"⟩
abbrev cX6_refusalWithFish : ByteArray := prog_1_method_38_code
def yX6_refusalWithFish : MethodName := ⟨RX6, "refusalWithFish", "(IIIII)I"⟩
abbrev cX6_refusalOf : ByteArray := prog_1_method_39_code
def yX6_refusalOf : MethodName := ⟨RX6, "refusalOf", "(IIIIZ)I"⟩
abbrev cX6_walkAsTold : ByteArray := prog_1_method_40_code
def yX6_walkAsTold : MethodName := ⟨RX6, "walkAsTold", "(III)I"⟩
abbrev cX6_fits : ByteArray := prog_1_method_41_code
def yX6_fits : MethodName := ⟨RX6, "fits", "(III)Z"⟩
abbrev cX6_leaveTrace : ByteArray := prog_1_method_42_code
def yX6_leaveTrace : MethodName := ⟨RX6, "leaveTrace", "(I)V"⟩
abbrev cX6_fishsTelling : ByteArray := prog_1_method_43_code
def yX6_fishsTelling : MethodName := ⟨RX6, "fishsTelling", "(LHeronFord$Fish;)I"⟩
abbrev cX6_eelsTelling : ByteArray := prog_1_method_44_code
def yX6_eelsTelling : MethodName := ⟨RX6, "eelsTelling", "(LHeronFord$Fish;)I"⟩
abbrev cX6_pikesTelling : ByteArray := prog_1_method_45_code
def yX6_pikesTelling : MethodName := ⟨RX6, "pikesTelling", "(LHeronFord$Fish;)I"⟩
abbrev cX6_firstFault : ByteArray := prog_1_method_46_code
def yX6_firstFault : MethodName := ⟨RX6, "firstFault", "(LHeronFord$Sheet;II)I"⟩
abbrev cX6_goesOn : ByteArray := prog_1_method_47_code
def yX6_goesOn : MethodName := ⟨RX6, "goesOn", "(II)Z"⟩
abbrev cX6_isDigit : ByteArray := prog_1_method_48_code
def yX6_isDigit : MethodName := ⟨RX6, "isDigit", "(III)Z"⟩
abbrev cX6_kindOf : ByteArray := prog_1_method_49_code
def yX6_kindOf : MethodName := ⟨RX6, "kindOf", "(I)I"⟩
def RX7 : String := "HeronFordModel"
def TX7 : u_T := fun k => match k with
  | 0 => ("HeronFordModel", "fault", "I", false)
  | 1 => ("HeronFordModel", "trace", "I", false)
  | 2 => ("HeronFordModel", "sorts", "[I", true)
  | 3 => ("HeronFordModel", "sheetLong", "[I", true)
  | 4 => ("HeronFordModel", "cells", "[I", true)
  | 5 => ("HeronFordModel", "isFord", "Z", false)
  | 6 => ("HeronFordModel", "dear", "I", false)
  | 7 => ("HeronFordModel", "fish", "I", false)
  | 8 => ("HeronFordModel", "heardAhead", "I", false)
  | 9 => ("HeronFordModel", "kind", "[I", true)
  | 10 => ("HeronFordModel", "size", "[I", true)
  | 11 => ("HeronFordModel", "scalesAt", "[I", true)
  | 12 => ("HeronFordModel", "song", "[I", true)
  | 13 => ("HeronFordModel", "secret", "[I", true)
  | 14 => ("HeronFordModel", "at", "I", false)
  | 15 => ("HeronFordModel", "readDear", "I", false)
  | 16 => ("HeronFordModel", "readMany", "I", false)
  | 17 => ("HeronFordModel", "read", "[I", true)
  | 18 => ("HeronFordModel", "scalesNow", "[I", true)
  | 19 => ("HeronFordModel", "owed", "[I", true)
  | 20 => ("HeronFordModel", "aboveNow", "I", false)
  | 21 => ("HeronFordModel", "harmedNow", "I", false)
  | 22 => ("HeronFordModel", "heardNow", "I", false)
  | 23 => ("HeronFordModel", "gotNow", "I", false)
  | 24 => ("HeronFordModel", "passes", "I", false)
  | 25 => ("HeronFordModel", "passOf", "[I", true)
  | 26 => ("HeronFordModel", "passHow", "[I", true)
  | 27 => ("HeronFordModel", "row", "[I", true)
  | 28 => ("HeronFordModel", "bestRow", "I", false)
  | 29 => ("HeronFordModel", "bestGot", "I", false)
  | 30 => ("HeronFordModel", "net", "[I", true)
  | 31 => ("HeronFordModel", "evenParts", "[I", true)
  | 32 => ("HeronFordModel", "readings", "I", false)
  | 33 => ("HeronFordModel", "readFishOf", "[I", true)
  | _ => ("HeronFordModel", "readScales", "[I", true)
def tyX7 : Nat → FieldType := fun k => match k with
  | 0 => .int
  | 1 => .int
  | 2 => .array .int
  | 3 => .array .int
  | 4 => .array .int
  | 5 => .boolean
  | 6 => .int
  | 7 => .int
  | 8 => .int
  | 9 => .array .int
  | 10 => .array .int
  | 11 => .array .int
  | 12 => .array .int
  | 13 => .array .int
  | 14 => .int
  | 15 => .int
  | 16 => .int
  | 17 => .array .int
  | 18 => .array .int
  | 19 => .array .int
  | 20 => .int
  | 21 => .int
  | 22 => .int
  | 23 => .int
  | 24 => .int
  | 25 => .array .int
  | 26 => .array .int
  | 27 => .array .int
  | 28 => .int
  | 29 => .int
  | 30 => .array .int
  | 31 => .array .int
  | 32 => .int
  | 33 => .array .int
  | _ => .array .int
abbrev wsX70 : List Cond := u_ws RX7 TX7 35
theorem nmX7 : ∀ a, a < 35 → ∀ b, b < 35 → a ≠ b → (TX7 a).2.1 ≠ (TX7 b).2.1 := by decide +kernel
theorem tyX7_ok : ∀ k, k < 35 → parseFieldDescriptor (TX7 k).2.2.1 = some (tyX7 k) := by decide +kernel
abbrev cX7_init : ByteArray := prog_9_method_1_code
def yX7_init : MethodName := ⟨RX7, "<init>", "()V"⟩
abbrev cX7_fails : ByteArray := prog_9_method_3_code
def yX7_fails : MethodName := ⟨RX7, "fails", "(I)I"⟩
abbrev cX7_lost : ByteArray := prog_9_method_4_code
def yX7_lost : MethodName := ⟨RX7, "lost", "(I)J"⟩
abbrev cX7_within : ByteArray := prog_9_method_5_code
def yX7_within : MethodName := ⟨RX7, "within", "(III)Z"⟩
abbrev cX7_isSheet : ByteArray := prog_9_method_6_code
def yX7_isSheet : MethodName := ⟨RX7, "isSheet", "(I)Z"⟩
abbrev cX7_isSort : ByteArray := prog_9_method_7_code
def yX7_isSort : MethodName := ⟨RX7, "isSort", "(I)Z"⟩
abbrev cX7_against : ByteArray := prog_9_method_8_code
def yX7_against : MethodName := ⟨RX7, "against", "(IIII)I"⟩
abbrev cX7_isFish : ByteArray := prog_9_method_9_code
def yX7_isFish : MethodName := ⟨RX7, "isFish", "(I)Z"⟩
abbrev cX7_digit : ByteArray := prog_9_method_10_code
def yX7_digit : MethodName := ⟨RX7, "digit", "(III)I"⟩
abbrev cX7_isSign : ByteArray := prog_9_method_11_code
def yX7_isSign : MethodName := ⟨RX7, "isSign", "(II)Z"⟩
abbrev cX7_ford : ByteArray := prog_9_method_12_code
def yX7_ford : MethodName := ⟨RX7, "ford", "(IIII)I"⟩
abbrev cX7_readFord : ByteArray := prog_9_method_13_code
def yX7_readFord : MethodName := ⟨RX7, "readFord", "(I)Z"⟩
abbrev cX7_readFish : ByteArray := prog_9_method_14_code
def yX7_readFish : MethodName := ⟨RX7, "readFish", "(I)Z"⟩
abbrev cX7_share : ByteArray := prog_9_method_15_code
def yX7_share : MethodName := ⟨RX7, "share", "(I)I"⟩
abbrev cX7_ofFish : ByteArray := prog_9_method_16_code
def yX7_ofFish : MethodName := ⟨RX7, "ofFish", "(II)I"⟩
abbrev cX7_dear : ByteArray := prog_9_method_17_code
def yX7_dear : MethodName := ⟨RX7, "dear", "(I)I"⟩
abbrev cX7_scales : ByteArray := prog_9_method_18_code
def yX7_scales : MethodName := ⟨RX7, "scales", "(II)I"⟩
abbrev cX7_hear : ByteArray := prog_9_method_19_code
def yX7_hear : MethodName := ⟨RX7, "hear", "(I)I"⟩
abbrev cX7_begin : ByteArray := prog_9_method_20_code
def yX7_begin : MethodName := ⟨RX7, "begin", "()V"⟩
abbrev cX7_tollNow : ByteArray := prog_9_method_21_code
def yX7_tollNow : MethodName := ⟨RX7, "tollNow", "(I)I"⟩
abbrev cX7_lender : ByteArray := prog_9_method_22_code
def yX7_lender : MethodName := ⟨RX7, "lender", "(II)I"⟩
abbrev cX7_payScales : ByteArray := prog_9_method_23_code
def yX7_payScales : MethodName := ⟨RX7, "payScales", "(I)Z"⟩
abbrev cX7_paySong : ByteArray := prog_9_method_24_code
def yX7_paySong : MethodName := ⟨RX7, "paySong", "(I)Z"⟩
abbrev cX7_paySecret : ByteArray := prog_9_method_25_code
def yX7_paySecret : MethodName := ⟨RX7, "paySecret", "(I)Z"⟩
abbrev cX7_payCredit : ByteArray := prog_9_method_26_code
def yX7_payCredit : MethodName := ⟨RX7, "payCredit", "(I)Z"⟩
abbrev cX7_pass : ByteArray := prog_9_method_27_code
def yX7_pass : MethodName := ⟨RX7, "pass", "(II)Z"⟩
abbrev cX7_layPasses : ByteArray := prog_9_method_28_code
def yX7_layPasses : MethodName := ⟨RX7, "layPasses", "(IIII)I"⟩
abbrev cX7_go : ByteArray := prog_9_method_29_code
def yX7_go : MethodName := ⟨RX7, "go", "()I"⟩
abbrev cX7_arePairs : ByteArray := prog_9_method_30_code
def yX7_arePairs : MethodName := ⟨RX7, "arePairs", "(II)Z"⟩
abbrev cX7_goRow : ByteArray := prog_9_method_31_code
def yX7_goRow : MethodName := ⟨RX7, "goRow", "(IIII)I"⟩
abbrev cX7_passes : ByteArray := prog_9_method_32_code
def yX7_passes : MethodName := ⟨RX7, "passes", "(IIIII)I"⟩
abbrev cX7_tellPasses : ByteArray := prog_9_method_33_code
def yX7_tellPasses : MethodName := ⟨RX7, "tellPasses", "(I)I"⟩
abbrev cX7_owes : ByteArray := prog_9_method_34_code
def yX7_owes : MethodName := ⟨RX7, "owes", "(IIIIII)I"⟩
abbrev cX7_toll : ByteArray := prog_9_method_35_code
def yX7_toll : MethodName := ⟨RX7, "toll", "(IIIII)I"⟩
abbrev cX7_swap : ByteArray := prog_9_method_36_code
def yX7_swap : MethodName := ⟨RX7, "swap", "(II)V"⟩
abbrev cX7_nextOrder : ByteArray := prog_9_method_37_code
def yX7_nextOrder : MethodName := ⟨RX7, "nextOrder", "()Z"⟩
abbrev cX7_goWays : ByteArray := prog_9_method_38_code
def yX7_goWays : MethodName := ⟨RX7, "goWays", "(II)I"⟩
abbrev cX7_findLeast : ByteArray := prog_9_method_39_code
def yX7_findLeast : MethodName := ⟨RX7, "findLeast", "(I)V"⟩
abbrev cX7_least : ByteArray := prog_9_method_40_code
def yX7_least : MethodName := ⟨RX7, "least", "(II)I"⟩
abbrev cX7_layNets : ByteArray := prog_9_method_41_code
def yX7_layNets : MethodName := ⟨RX7, "layNets", "()V"⟩
abbrev cX7_isEven : ByteArray := prog_9_method_42_code
def yX7_isEven : MethodName := ⟨RX7, "isEven", "(I)Z"⟩
abbrev cX7_mostParts : ByteArray := prog_9_method_43_code
def yX7_mostParts : MethodName := ⟨RX7, "mostParts", "()I"⟩
abbrev cX7_payments : ByteArray := prog_9_method_44_code
def yX7_payments : MethodName := ⟨RX7, "payments", "(IIII)I"⟩
abbrev cX7_wants : ByteArray := prog_9_method_45_code
def yX7_wants : MethodName := ⟨RX7, "wants", "(IIIII)I"⟩
abbrev cX7_reading : ByteArray := prog_9_method_46_code
def yX7_reading : MethodName := ⟨RX7, "reading", "(II)I"⟩
abbrev cX7_back : ByteArray := prog_9_method_47_code
def yX7_back : MethodName := ⟨RX7, "back", "(I)I"⟩
abbrev cX7_areSo : ByteArray := prog_9_method_48_code
def yX7_areSo : MethodName := ⟨RX7, "areSo", "()Z"⟩
abbrev cX7_lay : ByteArray := prog_9_method_49_code
def yX7_lay : MethodName := ⟨RX7, "lay", "(IIII)I"⟩
abbrev cX7_had : ByteArray := prog_9_method_50_code
def yX7_had : MethodName := ⟨RX7, "had", "(IIIII)I"⟩
abbrev cX7_dears : ByteArray := prog_9_method_51_code
def yX7_dears : MethodName := ⟨RX7, "dears", "(IIII)I"⟩
abbrev cX7_kinds : ByteArray := prog_9_method_52_code
def yX7_kinds : MethodName := ⟨RX7, "kinds", "(IIIII)I"⟩
abbrev cX7_inLeastTerms : ByteArray := prog_9_method_53_code
def yX7_inLeastTerms : MethodName := ⟨RX7, "inLeastTerms", "(JJI)J"⟩
abbrev cX7_odds : ByteArray := prog_9_method_54_code
def yX7_odds : MethodName := ⟨RX7, "odds", "(IIIII)J"⟩
abbrev cX7_sheet : ByteArray := prog_9_method_55_code
def yX7_sheet : MethodName := ⟨RX7, "sheet", "(III)I"⟩
abbrev cX7_lose : ByteArray := prog_9_method_56_code
def yX7_lose : MethodName := ⟨RX7, "lose", "(I)I"⟩
abbrev cX7_put : ByteArray := prog_9_method_57_code
def yX7_put : MethodName := ⟨RX7, "put", "(III)I"⟩
abbrev cX7_cell : ByteArray := prog_9_method_58_code
def yX7_cell : MethodName := ⟨RX7, "cell", "(III)J"⟩
abbrev cX7_copy : ByteArray := prog_9_method_59_code
def yX7_copy : MethodName := ⟨RX7, "copy", "(IIIII)I"⟩
abbrev cX7_begins : ByteArray := prog_9_method_60_code
def yX7_begins : MethodName := ⟨RX7, "begins", "(I)V"⟩
abbrev cX7_tell : ByteArray := prog_9_method_61_code
def yX7_tell : MethodName := ⟨RX7, "tell", "(I)I"⟩
abbrev cX7_let : ByteArray := prog_9_method_62_code
def yX7_let : MethodName := ⟨RX7, "let", "(I)I"⟩
abbrev cX7_as : ByteArray := prog_9_method_63_code
def yX7_as : MethodName := ⟨RX7, "as", "(II)I"⟩
abbrev cX7_trace : ByteArray := prog_9_method_64_code
def yX7_trace : MethodName := ⟨RX7, "trace", "()I"⟩
abbrev cX7_fault : ByteArray := prog_9_method_65_code
def yX7_fault : MethodName := ⟨RX7, "fault", "()I"⟩
abbrev cX7_many : ByteArray := prog_9_method_66_code
def yX7_many : MethodName := ⟨RX7, "many", "(I)I"⟩
def RJ9 : String := "java/lang/Math"
abbrev cJ9_max_7cf53 : ByteArray := prog_10_method_65_code
def yJ9_max_7cf53 : MethodName := ⟨RJ9, "max", "(II)I"⟩
abbrev cJ9_min_7cf53 : ByteArray := prog_10_method_69_code
def yJ9_min_7cf53 : MethodName := ⟨RJ9, "min", "(II)I"⟩
def RJ10 : String := "java/lang/System"
def RJ7 : String := "java/util/Arrays"
abbrev cJ7_fill_53178 : ByteArray := prog_12_method_103_code
def yJ7_fill_53178 : MethodName := ⟨RJ7, "fill", "([II)V"⟩
def RL : String := "HeronFordLaw"
abbrev cL_law : ByteArray := code
def yL_law : MethodName := ⟨RL, "law", "([I)Z"⟩
abbrev vwCl : List vw_C := [(RX0, TX0, 14), (RX1, TX1, 5), (RX2, TX2, 3), (RX3, TX3, 5), (RX4, TX4, 4), (RX5, TX5, 4), (RX6, TX6, 7), (RX7, TX7, 35)]
end
section
/-! ===== the memory of both systems as numbers: a cell is (tag, index); its ints by places; its references never change ===== -/
abbrev AR : Type := Nat × Nat
abbrev AV : Type := Int32 ⊕ (Int64 ⊕ AR)
abbrev Mem : Type := Nat → Nat → Nat → Int32
abbrev ALs : Type := List (Option AV)
abbrev ASt : Type := List AV
def mset (m : Mem) (t i j : Nat) (v : Int32) : Mem := fun t' i' j' => if t' = t ∧ i' = i ∧ j' = j then v else m t' i' j'
def cv (A : AR → Nat) : AV → Value
  | .inl x => .int x
  | .inr (.inl x) => .long x
  | .inr (.inr r) => .ref (A r)
/-- the objects: class by its number in vwCl, how many fields -/
def sh_cls : Nat → Option (Nat × Nat)
  | 0 => some (6, 7)
  | 2 => some (4, 4)
  | 4 => some (5, 4)
  | 6 => some (1, 5)
  | 7 => some (0, 14)
  | 17 => some (3, 5)
  | 20 => some (2, 3)
  | 30 => some (7, 35)
  | _ => none
/-- the arrays: kind (0 ints, 1 Sheets, 2 Fish, 3 rows of ints), how long -/
def sh_arr : Nat → Option (Nat × Nat)
  | 1 => some (1, 4)
  | 3 => some (0, 60)
  | 5 => some (2, 5)
  | 8 => some (0, 5)
  | 9 => some (0, 5)
  | 10 => some (0, 5)
  | 11 => some (0, 5)
  | 12 => some (0, 5)
  | 13 => some (3, 5)
  | 14 => some (0, 5)
  | 15 => some (0, 32)
  | 16 => some (0, 32)
  | 18 => some (0, 5)
  | 19 => some (0, 5)
  | 21 => some (0, 8)
  | 22 => some (0, 8)
  | 31 => some (0, 4)
  | 32 => some (0, 4)
  | 33 => some (0, 240)
  | 34 => some (0, 5)
  | 35 => some (0, 5)
  | 36 => some (0, 5)
  | 37 => some (0, 5)
  | 38 => some (0, 5)
  | 39 => some (0, 25)
  | 40 => some (0, 5)
  | 41 => some (0, 25)
  | 42 => some (0, 20)
  | 43 => some (0, 20)
  | 44 => some (0, 5)
  | 45 => some (0, 5)
  | 46 => some (0, 32)
  | 47 => some (0, 8)
  | 48 => some (0, 8)
  | _ => none
/-- the references: a field's, or a place's -/
def sh_ref : Nat → Nat → Nat → Option AR
  | 0, _, k => match k with
    | 0 => some (1, 0)
    | 1 => some (4, 0)
    | 2 => some (7, 0)
    | 3 => some (17, 0)
    | 4 => some (20, 0)
    | _ => none
  | 1, _, k => some (2, k)
  | 2, i, k => match k with
    | 0 => some (3, i)
    | _ => none
  | 4, _, k => match k with
    | 0 => some (5, 0)
    | _ => none
  | 5, _, k => some (6, k)
  | 7, i, k => match k with
    | 0 => some (8, i)
    | 1 => some (9, i)
    | 2 => some (10, i)
    | 3 => some (11, i)
    | 4 => some (12, i)
    | 5 => some (13, i)
    | 6 => some (15, i)
    | 7 => some (16, i)
    | _ => none
  | 13, i, k => some (14, 5 * i + k)
  | 17, _, k => match k with
    | 0 => some (7, 1)
    | 1 => some (18, 0)
    | 2 => some (19, 0)
    | _ => none
  | 20, _, k => match k with
    | 0 => some (21, 0)
    | 1 => some (22, 0)
    | _ => none
  | 30, _, k => match k with
    | 2 => some (31, 0)
    | 3 => some (32, 0)
    | 4 => some (33, 0)
    | 9 => some (34, 0)
    | 10 => some (35, 0)
    | 11 => some (36, 0)
    | 12 => some (37, 0)
    | 13 => some (38, 0)
    | 17 => some (39, 0)
    | 18 => some (40, 0)
    | 19 => some (41, 0)
    | 25 => some (42, 0)
    | 26 => some (43, 0)
    | 27 => some (44, 0)
    | 30 => some (45, 0)
    | 31 => some (46, 0)
    | 33 => some (47, 0)
    | 34 => some (48, 0)
    | _ => none
  | _, _, _ => none
def vrefs : List AR := [(0,0),(1,0),(2,0),(3,0),(2,1),(3,1),(2,2),(3,2),(2,3),(3,3),(4,0),(5,0),(6,0),(6,1),(6,2),(6,3),(6,4),
  (7,0),(8,0),(9,0),(10,0),(11,0),(12,0),(13,0),(14,0),(14,1),(14,2),(14,3),(14,4),(15,0),(16,0),
  (17,0),(7,1),(8,1),(9,1),(10,1),(11,1),(12,1),(13,1),(14,5),(14,6),(14,7),(14,8),(14,9),(15,1),(16,1),(18,0),(19,0),(20,0),(21,0),(22,0),
  (30,0),(31,0),(32,0),(33,0),(34,0),(35,0),(36,0),(37,0),(38,0),(39,0),(40,0),(41,0),(42,0),(43,0),(44,0),(45,0),(46,0),(47,0),(48,0)]
theorem vrefs_nodup : vrefs.Nodup := by decide +kernel
/-- 0 an int that may be written, 1 a boolean, 2 a reference -/
def fkd (ci k : Nat) : Nat := match vwCl[ci]? with
  | some q => if (q.2.1 k).2.2.2 = false then (if (q.2.1 k).2.2.1 = "I" then 0 else if (q.2.1 k).2.2.1 = "Z" then 1 else 2) else 2
  | none => 2
def lenOf (t : Nat) : Nat := match sh_cls t with
  | some q => q.2
  | none => match sh_arr t with
    | some q => q.2
    | none => 0
theorem sh_closed0 : (vrefs.all fun r => (List.range (lenOf r.1)).all fun k => match sh_ref r.1 r.2 k with
  | some q => decide (q ∈ vrefs)
  | none => true) = true := by decide +kernel
theorem sh_closed {r : AR} (hr : r ∈ vrefs) {k : Nat} (hk : k < lenOf r.1) {q : AR} (hq : sh_ref r.1 r.2 k = some q) : q ∈ vrefs := by
  have h1 := List.all_eq_true.mp (List.all_eq_true.mp sh_closed0 r hr) k (List.mem_range.mpr hk)
  rw [hq] at h1
  exact of_decide_eq_true h1
/-- the classes of the objects fit their tables -/
theorem sh_ok0 : (vrefs.all fun r => match sh_cls r.1 with
  | some q => (match vwCl[q.1]? with
    | some z => decide (z.2.2 = q.2)
    | none => false)
  | none => (match sh_arr r.1 with
    | some q => decide (q.1 < 4)
    | none => false)) = true := by decide +kernel
theorem sh_ok {r : AR} (hr : r ∈ vrefs) {ci n : Nat} (h : sh_cls r.1 = some (ci, n)) : ∃ z, vwCl[ci]? = some z ∧ z.2.2 = n := by
  have h1 := List.all_eq_true.mp sh_ok0 r hr
  rw [h] at h1
  dsimp only at h1
  cases hz : vwCl[ci]? with
  | none => rw [hz] at h1; cases h1
  | some z => rw [hz] at h1; exact ⟨z, rfl, of_decide_eq_true h1⟩
def cellOf (A : AR → Nat) (cs : Nat → ClassId) (m : Mem) (r : AR) : va_E := match sh_cls r.1 with
  | some q => .inr (q.1, (List.range q.2).map (fun k => match sh_ref r.1 r.2 k with
    | some z => Value.ref (A z)
    | none => Value.int (m r.1 r.2 k)))
  | none => match sh_arr r.1 with
    | some q => if q.1 = 0 then .inl (cs 0, q.2, .inl (fun j => m r.1 r.2 j)) else .inl (cs q.1, q.2, .inr (.inr (.inr (.inr (fun j => if j < q.2 then (sh_ref r.1 r.2 j).map A else none)))))
    | none => .inl (cs 0, 0, .inl (fun _ => 0))
def wsM (A : AR → Nat) (cs : Nat → ClassId) (m : Mem) : va_W := vrefs.map (fun r => (A r, cellOf A cs m r))
def tysM (cs : Nat → ClassId) : List (ClassId × FieldType) := [(cs 0, .int), (cs 1, .object RX4), (cs 2, .object RX1), (cs 3, .array .int)]
def elT : Nat → FieldType
  | 0 => .int
  | 1 => .object RX4
  | 2 => .object RX1
  | _ => .array .int
theorem tysM_at {cs : Nat → ClassId} {k : Nat} (h : k < 4) : (tysM cs)[k]? = some (cs k, elT k) := by
  match k, h with
  | 0, _ => rfl
  | 1, _ => rfl
  | 2, _ => rfl
  | 3, _ => rfl
def injA (A : AR → Nat) : Prop := ∀ r ∈ vrefs, ∀ q ∈ vrefs, A r = A q → r = q
def frA (A : AR → Nat) : Nat → Prop := fun q => ∃ r ∈ vrefs, A r = q
theorem wsM_at {A : AR → Nat} {cs : Nat → ClassId} {m : Mem} {r : AR} (hr : r ∈ vrefs) : ∃ k : Nat, vrefs[k]? = some r ∧ (wsM A cs m)[k]? = some (A r, cellOf A cs m r) := by
  obtain ⟨k, hk⟩ := List.getElem?_of_mem hr
  exact ⟨k, hk, by simp [wsM, hk]⟩
theorem vrefs_inj {i j : Nat} {r : AR} (hi : vrefs[i]? = some r) (hj : vrefs[j]? = some r) : i = j := by
  have h1 := (List.getElem?_eq_some_iff.mp hi).1
  have h2 := (List.getElem?_eq_some_iff.mp hj).1
  have e := (List.getElem?_eq_some_iff.mp hi).2.trans (List.getElem?_eq_some_iff.mp hj).2.symm
  have hp := List.pairwise_iff_getElem.mp vrefs_nodup
  rcases Nat.lt_trichotomy i j with h | h | h
  · exact absurd e (hp i j h1 h2 h)
  · exact h
  · exact absurd e.symm (hp j i h2 h1 h)
theorem wsM_D {A : AR → Nat} {cs : Nat → ClassId} (hA : injA A) (m : Mem) : va_D (frA A) (wsM A cs m) := by
  refine ⟨fun i j x y hi hj hxy => ?_, fun k x hk => ?_⟩
  · simp only [wsM, List.getElem?_map, Option.map_eq_some_iff] at hi hj
    obtain ⟨r, hr, rfl⟩ := hi
    obtain ⟨q, hq, rfl⟩ := hj
    have := hA r (List.mem_of_getElem? hr) q (List.mem_of_getElem? hq) hxy
    subst this
    exact vrefs_inj hr hq
  · simp only [wsM, List.getElem?_map, Option.map_eq_some_iff] at hk
    obtain ⟨r, hr, rfl⟩ := hk
    exact ⟨r, List.mem_of_getElem? hr, rfl⟩
theorem cellOf_ne {A : AR → Nat} {cs : Nat → ClassId} {m : Mem} {t i j : Nat} {v : Int32} {r : AR} (h : r ≠ (t, i)) : cellOf A cs (mset m t i j v) r = cellOf A cs m r := by
  have e : ∀ k, mset m t i j v r.1 r.2 k = m r.1 r.2 k := fun k => by
    unfold mset
    rw [if_neg]
    rintro ⟨h1, h2, -⟩
    exact h (Prod.ext h1 h2)
  unfold cellOf
  simp only [e]
theorem cellOf_obj {A : AR → Nat} {cs : Nat → ClassId} {m : Mem} {t i k ci n : Nat} (hc : sh_cls t = some (ci, n)) : cellOf A cs m (t, i) = .inr (ci, (List.range n).map (fun k => match sh_ref t i k with
    | some z => Value.ref (A z)
    | none => Value.int (m t i k))) := by
  unfold cellOf
  rw [hc]
theorem cellOf_set {A : AR → Nat} {cs : Nat → ClassId} {m : Mem} {t i k ci n : Nat} {v : Int32} (hc : sh_cls t = some (ci, n)) (hr : sh_ref t i k = none) :
    cellOf A cs (mset m t i k v) (t, i) = .inr (ci, ((List.range n).map (fun k => match sh_ref t i k with
    | some z => Value.ref (A z)
    | none => Value.int (m t i k))).set k (.int v)) := by
  rw [cellOf_obj (k := k) hc]
  congr 2
  apply List.ext_getElem?
  intro j
  rw [List.getElem?_set]
  by_cases hj : k = j
  · subst hj
    rw [if_pos rfl, List.length_map, List.length_range, List.getElem?_map]
    by_cases hn : k < n
    · rw [if_pos hn, List.getElem?_range hn]
      simp [hr, mset]
    · rw [if_neg hn, List.getElem?_eq_none (by simpa using hn)]
      rfl
  · rw [if_neg hj, List.getElem?_map, List.getElem?_map]
    by_cases hn : j < n
    · rw [List.getElem?_range hn]
      have e : mset m t i k v t i j = m t i j := by
        unfold mset
        rw [if_neg]
        rintro ⟨-, -, h⟩
        exact hj h.symm
      simp only [Option.map_some, e]
    · rw [List.getElem?_eq_none (by simpa using hn)]
      rfl

theorem cellOf_arr {A : AR → Nat} {cs : Nat → ClassId} {m : Mem} {t i n : Nat} (hc : sh_cls t = none) (ha : sh_arr t = some (0, n)) : cellOf A cs m (t, i) = .inl (cs 0, n, .inl (fun j => m t i j)) := by
  unfold cellOf
  rw [hc]
  dsimp only
  rw [ha]
  rfl
theorem cellOf_arq {A : AR → Nat} {cs : Nat → ClassId} {m : Mem} {t i n kd : Nat} (hc : sh_cls t = none) (ha : sh_arr t = some (kd + 1, n)) : cellOf A cs m (t, i) = .inl (cs (kd + 1), n, .inr (.inr (.inr (.inr (fun j => if j < n then (sh_ref t i j).map A else none))))) := by
  unfold cellOf
  rw [hc]
  dsimp only
  rw [ha]
  rfl
theorem mset_row {m : Mem} {t i k : Nat} {v : Int32} : (fun j => mset m t i k v t i j) = upd (fun j => m t i j) k v := by
  funext j
  unfold mset upd
  by_cases h : j = k
  · rw [if_pos ⟨rfl, rfl, h⟩, if_pos h]
  · rw [if_neg (fun q => h q.2.2), if_neg h]
theorem wsM_set {A : AR → Nat} {cs : Nat → ClassId} {m : Mem} {t i j k : Nat} {v : Int32} (hk : vrefs[k]? = some (t, i)) : (wsM A cs m).set k (A (t, i), cellOf A cs (mset m t i j v) (t, i)) = wsM A cs (mset m t i j v) := by
  apply List.ext_getElem?
  intro q
  rw [List.getElem?_set]
  have hlen : (wsM A cs m).length = vrefs.length := by simp [wsM]
  have hkl := (List.getElem?_eq_some_iff.mp hk).1
  by_cases hq : k = q
  · subst hq
    rw [if_pos rfl, if_pos (by rw [hlen]; exact hkl)]
    simp [wsM, hk]
  · rw [if_neg hq]
    simp only [wsM, List.getElem?_map]
    cases hr : vrefs[q]? with
    | none => rfl
    | some r =>
      have hne : r ≠ (t, i) := fun e => hq (vrefs_inj hk (by rw [hr, e]))
      simp only [Option.map_some]
      rw [cellOf_ne hne]
end
section
/-! ===== one instruction at a time, over the memory as numbers ===== -/
abbrev XT : Type := Program × Launch × Env × Room × State × MethodId × Array Value × List Frame × Method × Code × (AR → Nat) × (Nat → ClassId) × (Nat → Nat → Nat) × (Nat → ClassId) × Nat × Nat × Nat
abbrev xp (X : XT) : Program := X.1
abbrev xl (X : XT) : Launch := X.2.1
abbrev xe (X : XT) : Env := X.2.2.1
abbrev xR (X : XT) : Room := X.2.2.2.1
abbrev xs (X : XT) : State := X.2.2.2.2.1
abbrev xm (X : XT) : MethodId := X.2.2.2.2.2.1
abbrev xa (X : XT) : Array Value := X.2.2.2.2.2.2.1
abbrev xb (X : XT) : List Frame := X.2.2.2.2.2.2.2.1
abbrev xM (X : XT) : Method := X.2.2.2.2.2.2.2.2.1
abbrev xc (X : XT) : Code := X.2.2.2.2.2.2.2.2.2.1
abbrev xA (X : XT) : AR → Nat := X.2.2.2.2.2.2.2.2.2.2.1
abbrev xC (X : XT) : Nat → ClassId := X.2.2.2.2.2.2.2.2.2.2.2.1
abbrev xI (X : XT) : Nat → Nat → Nat := X.2.2.2.2.2.2.2.2.2.2.2.2.1
abbrev xk (X : XT) : Nat → ClassId := X.2.2.2.2.2.2.2.2.2.2.2.2.2.1
abbrev xcl (X : XT) : Nat := X.2.2.2.2.2.2.2.2.2.2.2.2.2.2.1
abbrev xsl (X : XT) : Nat := X.2.2.2.2.2.2.2.2.2.2.2.2.2.2.2.1
abbrev xn (X : XT) : Nat := X.2.2.2.2.2.2.2.2.2.2.2.2.2.2.2.2
def wsC : List Cond := lw_tbl.filter goodWord
def nestC : List Cond := lw_tbl.filter (fun w => match w with
  | .methodLinkNest .. => true
  | _ => false)
def okV (v : AV) : Prop := match v with
  | .inr (.inr r) => r ∈ vrefs ∨ r.1 = 60
  | _ => True
theorem ok_cls {r : AR} (h : okV (.inr (.inr r))) {y : Nat × Nat} (hs : sh_cls r.1 = some y) : r ∈ vrefs := by
  rcases h with h | h
  · exact h
  · rw [h] at hs; cases hs
theorem ok_arr {r : AR} (h : okV (.inr (.inr r))) {y : Nat × Nat} (hs : sh_arr r.1 = some y) : r ∈ vrefs := by
  rcases h with h | h
  · exact h
  · rw [h] at hs; cases hs
def okS (st : ASt) : Prop := ∀ v ∈ st, okV v
def okL (ls : ALs) : Prop := ∀ v, some v ∈ ls → okV v
def lhas (A : AR → Nat) (nL : Nat) (lsa : Array Slot) (ls : ALs) : Prop := lsa.size = nL ∧ ls.length = nL ∧ lv_wf lsa ∧ ∀ (k : Nat) (v : AV), ls[k]? = some (some v) → lsa[k]? = some (.val (cv A v))
abbrev xW (X : XT) (Q : State → Prop) (H : Heap) (locs : List Loc) (g : JFrame) : Prop := W (xp X) (xl X) (xe X) (xR X) (xs X) (xm X) (xa X) (xb X) (xM X) (xc X) H locs (xcl X) (xsl X) Q g
/-- the machine, come to pc with these locals, this stack, this memory, ends in Q -/
def GG (X : XT) (Q : State → Prop) (pc : Nat) (ls : ALs) (st : ASt) (m : Mem) : Prop :=
  okS st → okL ls → ∀ (H : Heap) (locs : List Loc) (lsa : Array Slot), va_P (xC X, xI X) vwCl (wsM (xA X) (xk X) m) H → va_S (frA (xA X)) (xs X).heap H locs → lhas (xA X) (xn X) lsa ls →
    xW X Q H locs (F0 (xm X) pc lsa (st.map (cv (xA X))))
abbrev FT : Type := List (Nat × Nat × Nat)
/-- a class's pool: which field is which, its numbers -/
def ftOk (own : String) (ft : FT) : Prop := ∀ q ∈ ft, ∃ z, vwCl[q.2.1]? = some z ∧ q.2.2 < z.2.2 ∧ Cond.fieldLink own q.1 (z.2.1 q.2.2).1 (z.2.1 q.2.2).2.1 (z.2.1 q.2.2).2.2.1 ∈ wsC
def ctOk (own : String) (ct : List (Nat × Int32)) : Prop := ∀ q ∈ ct, Cond.constant own q.1 q.2 ∈ wsC
def clOk (own : String) (cl : List (Nat × Int64)) : Prop := ∀ q ∈ cl, Cond.constantLong own q.1 q.2 ∈ wsC
abbrev PT : Type := String × FT × List (Nat × Int32) × List (Nat × Int64)
def ptOk (P : PT) : Prop := ftOk P.1 P.2.1 ∧ ctOk P.1 P.2.2.1 ∧ clOk P.1 P.2.2.2
/-- what stands in every method: the machine, the code, the words, the classes, the addresses apart -/
def GC (X : XT) (cc : ByteArray) (P : PT) : Prop := (xp X).tables.exec = Jvm.exec ∧ (xc X).code = cc ∧ (xc X).maxLocals = xn X ∧ (xs X).vm.findClass P.1 = some (xm X).cls ∧ (∀ w ∈ wsC, w.before (xa X) (xs X) = true) ∧ (∀ w ∈ nestC, va_Nw w (xs X)) ∧
  va_K (xC X, xI X) vwCl (tysM (xk X)) (xs X) ∧ injA (xA X) ∧ (xM X).locks = false ∧ ptOk P
def ldv (ls : ALs) (k : Nat) : Option AV := match ls[k]? with
  | some (some v) => some v
  | _ => none
def isLg : Option AV → Bool
  | some (.inr (.inl _)) => true
  | _ => false
/-- a long whose second half is stored over is gone -/
def clrL : Option AV → Option AV
  | some (.inr (.inl _)) => none
  | o => o
/-- slot k stored to -/
def stA : ALs → Nat → AV → Option ALs
  | [], _, _ => none
  | _ :: r, 0, v => some (some v :: r)
  | o :: r, k + 1, v => match k with
    | 0 => match r with
      | [] => none
      | _ :: r2 => some (clrL o :: some v :: r2)
    | j + 1 => match stA r (j + 1) v with
      | some l => some (o :: l)
      | none => none
def stI (ls : ALs) (k : Nat) (v : AV) (r : ASt) (m : Mem) : Option (ALs × ASt × Mem) := match stA ls k v with
  | some l => some (l, r, m)
  | none => none
def stL (ls : ALs) (k : Nat) (v : AV) (r : ASt) (m : Mem) : Option (ALs × ASt × Mem) := match stA ls k v, Nat.blt (k + 1) ls.length with
  | some l, true => some (l.set (k + 1) none, r, m)
  | _, _ => none
def ldI (ls : ALs) (k : Nat) (st : ASt) (m : Mem) : Option (ALs × ASt × Mem) := match ldv ls k with
  | some (.inl x) => some (ls, .inl x :: st, m)
  | _ => none
def ldL (ls : ALs) (k : Nat) (st : ASt) (m : Mem) : Option (ALs × ASt × Mem) := match ldv ls k with
  | some (.inr (.inl x)) => some (ls, .inr (.inl x) :: st, m)
  | _ => none
def ldA (ls : ALs) (k : Nat) (st : ASt) (m : Mem) : Option (ALs × ASt × Mem) := match ldv ls k with
  | some (.inr (.inr x)) => some (ls, .inr (.inr x) :: st, m)
  | _ => none
def bin (f : Int32 → Int32 → Int32) (ls : ALs) (st : ASt) (m : Mem) : Option (ALs × ASt × Mem) := match st with
  | .inl y :: .inl x :: r => some (ls, .inl (f x y) :: r, m)
  | _ => none
def una (f : Int32 → Int32) (ls : ALs) (st : ASt) (m : Mem) : Option (ALs × ASt × Mem) := match st with
  | .inl x :: r => some (ls, .inl (f x) :: r, m)
  | _ => none
def getF (ft : FT) (index : Nat) (ls : ALs) (st : ASt) (m : Mem) : Option (ALs × ASt × Mem) := match st with
  | .inr (.inr q) :: r => match ft.lookup index, sh_cls q.1 with
    | some z, some y => match z.1 == y.1 && Nat.blt z.2 y.2 with
      | true => match sh_ref q.1 q.2 z.2 with
        | some a => some (ls, .inr (.inr a) :: r, m)
        | none => some (ls, .inl (m q.1 q.2 z.2) :: r, m)
      | false => none
    | _, _ => none
  | _ => none
def putF (ft : FT) (index : Nat) (ls : ALs) (st : ASt) (m : Mem) : Option (ALs × ASt × Mem) := match st with
  | .inl v :: .inr (.inr q) :: r => match ft.lookup index, sh_cls q.1 with
    | some z, some y => match z.1 == y.1 && Nat.blt z.2 y.2 with
      | true => match sh_ref q.1 q.2 z.2, fkd z.1 z.2 with
        | none, 0 => some (ls, r, mset m q.1 q.2 z.2 v)
        | none, 1 => if v = 0 ∨ v = 1 then some (ls, r, mset m q.1 q.2 z.2 v) else none
        | _, _ => none
      | false => none
    | _, _ => none
  | _ => none
def ilen : Instr → Nat
  | .iload _ => 2
  | .aload _ => 2
  | .lload _ => 2
  | .istore _ => 2
  | .astore _ => 2
  | .lstore _ => 2
  | .bipush _ => 2
  | .ldc _ => 2
  | .sipush _ => 3
  | .iinc _ _ => 3
  | .getfield _ => 3
  | .putfield _ => 3
  | .ldc2_w _ => 3
  | _ => 1
def ex1 (P : PT) (i : Instr) (ls : ALs) (st : ASt) (m : Mem) : Option (ALs × ASt × Mem) := match i with
  | .iconst n => some (ls, .inl (Int32.ofInt n) :: st, m)
  | .bipush n => some (ls, .inl (Int8.ofInt n).toInt32 :: st, m)
  | .sipush n => some (ls, .inl (Int16.ofInt n).toInt32 :: st, m)
  | .lconst n => some (ls, .inr (.inl (Int64.ofNat n.val)) :: st, m)
  | .iload k => ldI ls k st m
  | .iload_n k => ldI ls k.val st m
  | .lload k => ldL ls k st m
  | .lload_n k => ldL ls k.val st m
  | .aload k => ldA ls k st m
  | .aload_n k => ldA ls k.val st m
  | .istore k => match st with
    | .inl x :: r => stI ls k (.inl x) r m
    | _ => none
  | .istore_n k => match st with
    | .inl x :: r => stI ls k.val (.inl x) r m
    | _ => none
  | .astore k => match st with
    | .inr (.inr x) :: r => stI ls k (.inr (.inr x)) r m
    | _ => none
  | .astore_n k => match st with
    | .inr (.inr x) :: r => stI ls k.val (.inr (.inr x)) r m
    | _ => none
  | .lstore k => match st with
    | .inr (.inl x) :: r => stL ls k (.inr (.inl x)) r m
    | _ => none
  | .lstore_n k => match st with
    | .inr (.inl x) :: r => stL ls k.val (.inr (.inl x)) r m
    | _ => none
  | .iinc k n => match ldv ls k with
    | some (.inl x) => stI ls k (.inl (x + Int32.ofInt n)) st m
    | _ => none
  | .iadd => bin (fun x y => x + y) ls st m
  | .isub => bin (fun x y => x - y) ls st m
  | .imul => bin (fun x y => x * y) ls st m
  | .iand => bin (fun x y => x &&& y) ls st m
  | .ior => bin (fun x y => x ||| y) ls st m
  | .ixor => bin (fun x y => x ^^^ y) ls st m
  | .ishl => bin (fun x y => x <<< (y &&& 31)) ls st m
  | .ishr => bin (fun x y => x >>> (y &&& 31)) ls st m
  | .ineg => una (fun x => -x) ls st m
  | .i2b => una (fun x => x.toInt8.toInt32) ls st m
  | .i2s => una (fun x => x.toInt16.toInt32) ls st m
  | .i2l => match st with
    | .inl x :: r => some (ls, .inr (.inl x.toInt64) :: r, m)
    | _ => none
  | .lcmp => match st with
    | .inr (.inl y) :: .inr (.inl x) :: r => some (ls, .inl (lg_cmp x y) :: r, m)
    | _ => none
  | .dup => match st with
    | .inl x :: r => some (ls, .inl x :: .inl x :: r, m)
    | .inr (.inr x) :: r => some (ls, .inr (.inr x) :: .inr (.inr x) :: r, m)
    | _ => none
  | .dup2 => match st with
    | .inl x :: .inl y :: r => some (ls, .inl x :: .inl y :: .inl x :: .inl y :: r, m)
    | .inl x :: .inr (.inr y) :: r => some (ls, .inl x :: .inr (.inr y) :: .inl x :: .inr (.inr y) :: r, m)
    | _ => none
  | .getfield k => getF P.2.1 k ls st m
  | .putfield k => putF P.2.1 k ls st m
  | .ldc k => match P.2.2.1.lookup k with
    | some x => some (ls, .inl x :: st, m)
    | none => none
  | .ldc2_w k => match P.2.2.2.lookup k with
    | some x => some (ls, .inr (.inl x) :: st, m)
    | none => none
  | _ => none
end
section
/-! ===== the locals ===== -/
def lsL (A : AR → Nat) (ls : ALs) : List (Nat × Value) := (List.range ls.length).filterMap fun k => match ls[k]? with
  | some (some v) => some (k, cv A v)
  | _ => none
theorem mem_lsL {A : AR → Nat} {ls : ALs} {q : Nat × Value} : q ∈ lsL A ls ↔ ∃ v, ls[q.1]? = some (some v) ∧ q.2 = cv A v := by
  unfold lsL
  rw [List.mem_filterMap]
  constructor
  · rintro ⟨k, hk, h⟩
    cases hv : ls[k]? with
    | none => rw [hv] at h; cases h
    | some o =>
      cases o with
      | none => rw [hv] at h; cases h
      | some v => rw [hv] at h; cases h; exact ⟨v, hv, rfl⟩
  · rintro ⟨v, h1, h2⟩
    refine ⟨q.1, List.mem_range.mpr (List.getElem?_eq_some_iff.mp h1).1, ?_⟩
    rw [h1]
    exact congrArg some (Prod.ext rfl h2.symm)
theorem lhas_has {A : AR → Nat} {nL : Nat} {lsa : Array Slot} {ls : ALs} (h : lhas A nL lsa ls) : lv_has lsa nL (lsL A ls) := by
  refine ⟨h.1, h.2.2.1, fun q hq => ?_⟩
  obtain ⟨v, h1, h2⟩ := mem_lsL.mp hq
  rw [h.2.2.2 q.1 v h1, h2]
theorem stA_spec : ∀ {ls : ALs} {k : Nat} {v : AV} {l : ALs}, stA ls k v = some l → k < ls.length ∧ l.length = ls.length ∧ ∀ (j : Nat) (w : AV), l[j]? = some (some w) → (j = k ∧ w = v) ∨ (j ≠ k ∧ ls[j]? = some (some w) ∧ (j + 1 = k → isLg (some w) = false))
  | [], _, _, _, h => by cases h
  | o :: r, 0, v, l, h => by
    cases h
    refine ⟨by simp, by simp, fun j w hw => ?_⟩
    cases j with
    | zero => simp only [List.getElem?_cons_zero] at hw; cases hw; exact Or.inl ⟨rfl, rfl⟩
    | succ j => exact Or.inr ⟨by omega, by simpa using hw, fun q => by omega⟩
  | o :: r, 1, v, l, h => by
    cases r with
    | nil => cases h
    | cons a r2 =>
      cases h
      refine ⟨by simp, by simp, fun j w hw => ?_⟩
      match j with
      | 0 =>
        simp only [List.getElem?_cons_zero] at hw
        have hw : clrL o = some w := Option.some.inj hw
        match o, hw with
        | none, hw => cases hw
        | some (.inl x), hw => cases hw; exact Or.inr ⟨by omega, rfl, fun _ => rfl⟩
        | some (.inr (.inl x)), hw => cases hw
        | some (.inr (.inr x)), hw => cases hw; exact Or.inr ⟨by omega, rfl, fun _ => rfl⟩
      | 1 => simp only [List.getElem?_cons_succ, List.getElem?_cons_zero] at hw; cases hw; exact Or.inl ⟨rfl, rfl⟩
      | j + 2 => exact Or.inr ⟨by omega, by simpa using hw, fun q => by omega⟩
  | o :: r, k + 2, v, l, h => by
    have h' : (match stA r (k + 1) v with
      | some l => some (o :: l)
      | none => none) = some l := h
    cases hr : stA r (k + 1) v with
    | none => rw [hr] at h'; cases h'
    | some l2 =>
      rw [hr] at h'
      cases h'
      obtain ⟨h1, h2, h3⟩ := stA_spec hr
      refine ⟨by simp only [List.length_cons]; omega, by simp [h2], fun j w hw => ?_⟩
      cases j with
      | zero => exact Or.inr ⟨by omega, by simpa using hw, fun q => by omega⟩
      | succ j =>
        rcases h3 j w (by simpa using hw) with ⟨g1, g2⟩ | ⟨g1, g2, g3⟩
        · exact Or.inl ⟨by omega, g2⟩
        · exact Or.inr ⟨by omega, by simpa using g2, fun q => g3 (by omega)⟩
theorem cat_of {A : AR → Nat} {w : AV} (h : isLg (some w) = false) : (cv A w).category = 1 := by
  match w, h with
  | .inl _, _ => rfl
  | .inr (.inr _), _ => rfl
theorem lhas_set {A : AR → Nat} {nL : Nat} {lsa : Array Slot} {ls l : ALs} {k : Nat} {v : AV} (hn : ls.length = nL) (hk : stA ls k v = some l)
    (h : lv_has lsa nL ((k, cv A v) :: (lsL A ls).filter (fun q => !(q.1 == k) && !(q.1 + 1 == k && q.2.category == 2)))) : lhas A nL lsa l := by
  obtain ⟨hkl, hlen, hst⟩ := stA_spec hk
  refine ⟨h.1, hlen.trans hn, h.2.1, fun j w hj => ?_⟩
  rcases hst j w hj with ⟨rfl, rfl⟩ | ⟨e, hj, hlg⟩
  · exact h.2.2 (j, cv A w) List.mem_cons_self
  · refine h.2.2 (j, cv A w) (List.mem_cons_of_mem _ (List.mem_filter.mpr ⟨mem_lsL.mpr ⟨w, hj, rfl⟩, ?_⟩))
    have e2 : (j == k) = false := by simpa using e
    by_cases e3 : j + 1 = k
    · have hc := cat_of (A := A) (hlg e3)
      simp [e2, hc]
    · have e4 : (j + 1 == k) = false := by simpa using e3
      simp [e2, e4]
theorem lhas_setL {A : AR → Nat} {nL : Nat} {lsa : Array Slot} {ls l : ALs} {k : Nat} {v : AV} (hn : ls.length = nL) (hk : stA ls k v = some l)
    (h : lv_has lsa nL ((k, cv A v) :: (lsL A ls).filter (fun q => !(q.1 == k) && (!(q.1 == k + 1) && !(q.1 + 1 == k && q.2.category == 2))))) : lhas A nL lsa (l.set (k + 1) none) := by
  obtain ⟨hkl, hlen, hst⟩ := stA_spec hk
  refine ⟨h.1, by simpa using hlen.trans hn, h.2.1, fun j w hj => ?_⟩
  rw [List.getElem?_set] at hj
  by_cases e0 : k + 1 = j
  · rw [if_pos e0] at hj
    split at hj <;> cases hj
  rw [if_neg e0] at hj
  rcases hst j w hj with ⟨rfl, rfl⟩ | ⟨e, hj, hlg⟩
  · exact h.2.2 (j, cv A w) List.mem_cons_self
  · refine h.2.2 (j, cv A w) (List.mem_cons_of_mem _ (List.mem_filter.mpr ⟨mem_lsL.mpr ⟨w, hj, rfl⟩, ?_⟩))
    have e2 : (j == k) = false := by simpa using e
    have e5 : (j == k + 1) = false := by simpa using fun q => e0 q.symm
    by_cases e3 : j + 1 = k
    · have hc := cat_of (A := A) (hlg e3)
      simp [e2, e5, hc]
    · have e4 : (j + 1 == k) = false := by simpa using e3
      simp [e2, e5, e4]
theorem ldv_spec {ls : ALs} {k : Nat} {v : AV} (h : ldv ls k = some v) : ls[k]? = some (some v) := by
  unfold ldv at h
  split at h
  · cases h; assumption
  · cases h
theorem okL_at {ls : ALs} {k : Nat} {v : AV} (h : okL ls) (hk : ls[k]? = some (some v)) : okV v := h v (List.mem_of_getElem? hk)
theorem okL_set {ls l : ALs} {k : Nat} {v : AV} (h : okL ls) (hv : okV v) (hk : stA ls k v = some l) : okL l := by
  intro w hw
  obtain ⟨j, hj⟩ := List.getElem?_of_mem hw
  rcases (stA_spec hk).2.2 j w hj with ⟨-, rfl⟩ | ⟨-, hj, -⟩
  · exact hv
  · exact h w (List.mem_of_getElem? hj)
theorem okL_setN {ls : ALs} {k : Nat} (h : okL ls) : okL (ls.set k none) := by
  intro w hw
  rcases List.mem_or_eq_of_mem_set hw with h1 | h1
  · exact h w h1
  · cases h1
theorem okS_cons {v : AV} {st : ASt} : okS (v :: st) ↔ okV v ∧ okS st := by
  constructor
  · intro h; exact ⟨h v List.mem_cons_self, fun w hw => h w (List.mem_cons_of_mem _ hw)⟩
  · rintro ⟨h1, h2⟩ w hw
    rcases List.mem_cons.mp hw with rfl | hw
    · exact h1
    · exact h2 w hw
theorem u_all : ∀ (ci : Nat) (z : vw_C), vwCl[ci]? = some z → ∀ w ∈ u_ws z.1 z.2.1 z.2.2, w ∈ wsC := by sorry
def tyK (ci : Nat) : Nat → FieldType := match ci with
  | 0 => tyX0
  | 1 => tyX1
  | 2 => tyX2
  | 3 => tyX3
  | 4 => tyX4
  | 5 => tyX5
  | 6 => tyX6
  | _ => tyX7
theorem cl_cases {P : Nat → vw_C → Prop} (h0 : P 0 (RX0, TX0, 14)) (h1 : P 1 (RX1, TX1, 5)) (h2 : P 2 (RX2, TX2, 3)) (h3 : P 3 (RX3, TX3, 5)) (h4 : P 4 (RX4, TX4, 4)) (h5 : P 5 (RX5, TX5, 4)) (h6 : P 6 (RX6, TX6, 7)) (h7 : P 7 (RX7, TX7, 35)) :
    ∀ (ci : Nat) (z : vw_C), vwCl[ci]? = some z → P ci z := by
  intro ci z h
  match ci, h with
  | 0, h => cases h; exact h0
  | 1, h => cases h; exact h1
  | 2, h => cases h; exact h2
  | 3, h => cases h; exact h3
  | 4, h => cases h; exact h4
  | 5, h => cases h; exact h5
  | 6, h => cases h; exact h6
  | 7, h => cases h; exact h7
  | n + 8, h => simp [vwCl] at h
theorem ty_all : ∀ (ci : Nat) (z : vw_C), vwCl[ci]? = some z → ∀ k, k < z.2.2 → parseFieldDescriptor (z.2.1 k).2.2.1 = some (tyK ci k) :=
  cl_cases tyX0_ok tyX1_ok tyX2_ok tyX3_ok tyX4_ok tyX5_ok tyX6_ok tyX7_ok
theorem nm_all : ∀ (ci : Nat) (z : vw_C), vwCl[ci]? = some z → ∀ a, a < z.2.2 → ∀ b, b < z.2.2 → a ≠ b → (z.2.1 a).2.1 ≠ (z.2.1 b).2.1 :=
  cl_cases nmX0 nmX1 nmX2 nmX3 nmX4 nmX5 nmX6 nmX7
theorem fkd_spec {ci k : Nat} {z : vw_C} (hz : vwCl[ci]? = some z) (h : fkd ci k = 0 ∨ fkd ci k = 1) : (z.2.1 k).2.2.2 = false ∧ (fkd ci k = 0 → parseFieldDescriptor (z.2.1 k).2.2.1 = some .int) ∧ (fkd ci k = 1 → parseFieldDescriptor (z.2.1 k).2.2.1 = some .boolean) := by
  unfold fkd at h ⊢
  rw [hz] at h ⊢
  dsimp only at h ⊢
  by_cases h1 : (z.2.1 k).2.2.2 = false
  · rw [if_pos h1] at h ⊢
    by_cases h2 : (z.2.1 k).2.2.1 = "I"
    · rw [if_pos h2] at h ⊢
      refine ⟨h1, fun _ => ?_, (fun q => absurd q (by decide))⟩
      rw [h2]
      decide +kernel
    · rw [if_neg h2] at h ⊢
      by_cases h3 : (z.2.1 k).2.2.1 = "Z"
      · rw [if_pos h3] at h ⊢
        refine ⟨h1, (fun q => absurd q (by decide)), fun _ => ?_⟩
        rw [h3]
        decide +kernel
      · rw [if_neg h3] at h
        omega
  · rw [if_neg h1] at h
    omega
/-! ===== a step ===== -/
theorem gg_get {X : XT} {cc : ByteArray} {P : PT} {Q : State → Prop} (hC : GC X cc P) {pc k : Nat} {ls ls' : ALs} {st st' : ASt} {m m' : Mem} (hd : decode cc pc = .ok (.getfield k, 3)) (hx : getF P.2.1 k ls st m = some (ls', st', m')) (kk : GG X Q (pc + 3) ls' st' m') : GG X Q pc ls st m := by
  obtain ⟨hexec, hb, hml, hown, hts, -, hK, hA, -, hpt, -, -⟩ := hC
  intro hS hL H locs lsa hP hSt hl
  unfold getF at hx
  split at hx
  case h_2 => cases hx
  rename_i q r
  split at hx
  case h_2 => cases hx
  rename_i z y hz hy
  split at hx
  case h_2 => cases hx
  rename_i hb2
  simp only [Bool.and_eq_true, beq_iff_eq] at hb2
  obtain ⟨e1, e2⟩ := hb2
  have e2 : z.2 < y.2 := Nat.blt_eq.mp e2
  obtain ⟨t, i⟩ := q
  have hq : (t, i) ∈ vrefs := ok_cls (hS _ List.mem_cons_self) hy
  obtain ⟨ci, n⟩ := y
  obtain ⟨index, ci', k'⟩ : Nat × Nat × Nat := (k, z)
  obtain ⟨cz, hcz, hlt, hlink⟩ := hpt (k, z) (by
    have := List.lookup_eq_some_iff.mp hz
    obtain ⟨l1, l2, h1, -⟩ := this
    rw [h1]; simp)
  obtain ⟨q0, hq0, hw⟩ := wsM_at (A := xA X) (cs := xk X) (m := m) hq
  rw [cellOf_obj (k := z.2) hy] at hw
  dsimp only at e1 e2 hlt hlink hcz
  rw [e1] at hcz
  have hv : ((List.range n).map (fun k => match sh_ref t i k with
    | some z => Value.ref (xA X z)
    | none => Value.int (m t i k)))[z.2]? = some (match sh_ref t i z.2 with
    | some z => Value.ref (xA X z)
    | none => Value.int (m t i z.2)) := by
    rw [List.getElem?_map, List.getElem?_range e2]; rfl
  refine va_get (D := (xC X, xI X)) (ci := ci) (C := cz.1) (T := cz.2.1) (N := cz.2.2) hexec hb hts (u_all ci cz hcz) hown hK hP q0 hw hcz z.2 hlt (hts _ hlink) (fun _ h9 => h9) hv hd ?_
  have hS' : okS r := (okS_cons.mp hS).2
  cases hr : sh_ref t i z.2 with
  | none =>
    rw [hr] at hx
    cases hx
    exact kk (okS_cons.mpr ⟨trivial, hS'⟩) hL H locs lsa hP hSt hl
  | some a =>
    rw [hr] at hx
    cases hx
    refine kk (okS_cons.mpr ⟨Or.inl (sh_closed hq (k := z.2) ?_ hr), hS'⟩) hL H locs lsa hP hSt hl
    show z.2 < lenOf t
    unfold lenOf
    rw [hy]
    exact e2
theorem gg_put {X : XT} {cc : ByteArray} {P : PT} {Q : State → Prop} (hC : GC X cc P) {pc k : Nat} {ls ls' : ALs} {st st' : ASt} {m m' : Mem} (hd : decode cc pc = .ok (.putfield k, 3)) (hx : putF P.2.1 k ls st m = some (ls', st', m')) (kk : GG X Q (pc + 3) ls' st' m') : GG X Q pc ls st m := by
  obtain ⟨hexec, hb, hml, hown, hts, -, hK, hA, -, hpt, -, -⟩ := hC
  intro hS hL H locs lsa hP hSt hl
  unfold putF at hx
  split at hx
  case h_2 => cases hx
  rename_i v q r
  split at hx
  case h_2 => cases hx
  rename_i z y hz hy
  split at hx
  case h_2 => cases hx
  rename_i hb2
  simp only [Bool.and_eq_true, beq_iff_eq] at hb2
  obtain ⟨e1, e2⟩ := hb2
  have e2 : z.2 < y.2 := Nat.blt_eq.mp e2
  obtain ⟨t, i⟩ := q
  have hS1 := (okS_cons.mp hS).2
  have hq : (t, i) ∈ vrefs := ok_cls (hS1 _ List.mem_cons_self) hy
  have hS' : okS r := (okS_cons.mp hS1).2
  obtain ⟨ci, n⟩ := y
  obtain ⟨cz, hcz, hlt, hlink⟩ := hpt (k, z) (by
    have := List.lookup_eq_some_iff.mp hz
    obtain ⟨l1, l2, h1, -⟩ := this
    rw [h1]; simp)
  obtain ⟨q0, hq0, hw⟩ := wsM_at (A := xA X) (cs := xk X) (m := m) hq
  rw [cellOf_obj (k := z.2) hy] at hw
  dsimp only at e1 e2 hlt hlink hcz
  rw [e1] at hcz
  have key : ∀ ty : FieldType, sh_ref t i z.2 = none → (cz.2.1 z.2).2.2.2 = false → parseFieldDescriptor (cz.2.1 z.2).2.2.1 = some ty → narrow ty (.int v) = .int v → fits ty (.int v) = true → GG X Q (pc + 3) ls r (mset m t i z.2 v) → xW X Q H locs (F0 (xm X) pc lsa (List.map (cv (xA X)) (Sum.inl v :: Sum.inr (Sum.inr (t, i)) :: r))) := by
    intro ty hr hfin hd2 hn hf kk
    refine va_put (D := (xC X, xI X)) (ci := ci) (v := .int v) (ty := ty) (C := cz.1) (T := cz.2.1) (N := cz.2.2) hexec hb hts (u_all ci cz hcz) (tyK ci) (ty_all ci cz hcz) (nm_all ci cz hcz) hown hK hP (wsM_D hA m) hSt q0 hw hcz z.2 hlt (hts _ hlink) (fun _ h9 => h9) hfin hd2 hn hf (by simpa using e2) hd (fun H1 locs1 hP1 _ hS1 => ?_)
    rw [← cellOf_set (cs := xk X) hy hr, wsM_set hq0] at hP1
    exact kk hS' hL H1 locs1 lsa hP1 hS1 hl
  split at hx
  case h_3 => cases hx
  case h_1 h5 h6 =>
    cases hx
    obtain ⟨f1, f2, f3⟩ := fkd_spec hcz (k := z.2) (Or.inl (by rw [← e1]; exact h6))
    exact key .int h5 f1 (f2 (by rw [← e1]; exact h6)) rfl rfl kk
  case h_2 h5 h6 =>
    split at hx
    case isFalse => cases hx
    case isTrue hv =>
      cases hx
      obtain ⟨f1, f2, f3⟩ := fkd_spec hcz (k := z.2) (Or.inr (by rw [← e1]; exact h6))
      refine key .boolean h5 f1 (f3 (by rw [← e1]; exact h6)) ?_ ?_ kk
      · rcases hv with rfl | rfl <;> rfl
      · rcases hv with rfl | rfl <;> rfl
theorem gg_bin {X : XT} {Q : State → Prop} {f : Int32 → Int32 → Int32} {pc : Nat} {ls ls' : ALs} {st st' : ASt} {m m' : Mem} (row : ∀ (x y : Int32) (H : Heap) (locs : List Loc) (lsa : Array Slot) (rest : List Value), xW X Q H locs (F0 (xm X) (pc + 1) lsa (.int (f x y) :: rest)) → xW X Q H locs (F0 (xm X) pc lsa (.int y :: .int x :: rest)))
    (hx : bin f ls st m = some (ls', st', m')) (kk : GG X Q (pc + 1) ls' st' m') : GG X Q pc ls st m := by
  intro hS hL H locs lsa hP hSt hl
  unfold bin at hx
  split at hx
  case h_2 => cases hx
  cases hx
  exact row _ _ _ _ _ _ (kk (okS_cons.mpr ⟨trivial, (okS_cons.mp (okS_cons.mp hS).2).2⟩) hL H locs lsa hP hSt hl)
theorem gg_una {X : XT} {Q : State → Prop} {f : Int32 → Int32} {pc : Nat} {ls ls' : ALs} {st st' : ASt} {m m' : Mem} (row : ∀ (x : Int32) (H : Heap) (locs : List Loc) (lsa : Array Slot) (rest : List Value), xW X Q H locs (F0 (xm X) (pc + 1) lsa (.int (f x) :: rest)) → xW X Q H locs (F0 (xm X) pc lsa (.int x :: rest)))
    (hx : una f ls st m = some (ls', st', m')) (kk : GG X Q (pc + 1) ls' st' m') : GG X Q pc ls st m := by
  intro hS hL H locs lsa hP hSt hl
  unfold una at hx
  split at hx
  case h_2 => cases hx
  cases hx
  exact row _ _ _ _ _ (kk (okS_cons.mpr ⟨trivial, (okS_cons.mp hS).2⟩) hL H locs lsa hP hSt hl)
/-- a constant comes upon the stack -/
theorem gg_push {X : XT} {Q : State → Prop} {pc n : Nat} {v : AV} {ls : ALs} {st : ASt} {m : Mem} (row : ∀ (H : Heap) (locs : List Loc) (lsa : Array Slot) (rest : List Value), xW X Q H locs (F0 (xm X) (pc + n) lsa (cv (xA X) v :: rest)) → xW X Q H locs (F0 (xm X) pc lsa rest)) (hv : okV v)
    (kk : GG X Q (pc + n) ls (v :: st) m) : GG X Q pc ls st m := by
  intro hS hL H locs lsa hP hSt hl
  exact row _ _ _ _ (kk (okS_cons.mpr ⟨hv, hS⟩) hL H locs lsa hP hSt hl)
/-- a local comes upon the stack -/
theorem gg_load {X : XT} {Q : State → Prop} {pc n k : Nat} {v : AV} {ls : ALs} {st : ASt} {m : Mem} (hv : ldv ls k = some v) (row : ∀ (H : Heap) (locs : List Loc) (lsa : Array Slot) (rest : List Value), lsa[k]? = some (.val (cv (xA X) v)) → xW X Q H locs (F0 (xm X) (pc + n) lsa (cv (xA X) v :: rest)) → xW X Q H locs (F0 (xm X) pc lsa rest))
    (kk : GG X Q (pc + n) ls (v :: st) m) : GG X Q pc ls st m := by
  intro hS hL H locs lsa hP hSt hl
  have h1 := ldv_spec hv
  exact row _ _ _ _ (hl.2.2.2 k v h1) (kk (okS_cons.mpr ⟨okL_at hL h1, hS⟩) hL H locs lsa hP hSt hl)
theorem gg_ldI {X : XT} {Q : State → Prop} {pc n k : Nat} {ls ls' : ALs} {st st' : ASt} {m m' : Mem} (row : ∀ (x : Int32) (H : Heap) (locs : List Loc) (lsa : Array Slot) (rest : List Value), lsa[k]? = some (.val (.int x)) → xW X Q H locs (F0 (xm X) (pc + n) lsa (.int x :: rest)) → xW X Q H locs (F0 (xm X) pc lsa rest))
    (hx : ldI ls k st m = some (ls', st', m')) (kk : GG X Q (pc + n) ls' st' m') : GG X Q pc ls st m := by
  unfold ldI at hx
  split at hx
  case h_2 => cases hx
  rename_i x hv
  cases hx
  exact gg_load hv (row x) kk
theorem gg_ldL {X : XT} {Q : State → Prop} {pc n k : Nat} {ls ls' : ALs} {st st' : ASt} {m m' : Mem} (row : ∀ (x : Int64) (H : Heap) (locs : List Loc) (lsa : Array Slot) (rest : List Value), lsa[k]? = some (.val (.long x)) → xW X Q H locs (F0 (xm X) (pc + n) lsa (.long x :: rest)) → xW X Q H locs (F0 (xm X) pc lsa rest))
    (hx : ldL ls k st m = some (ls', st', m')) (kk : GG X Q (pc + n) ls' st' m') : GG X Q pc ls st m := by
  unfold ldL at hx
  split at hx
  case h_2 => cases hx
  rename_i x hv
  cases hx
  exact gg_load hv (row x) kk
theorem gg_ldA {X : XT} {Q : State → Prop} {pc n k : Nat} {ls ls' : ALs} {st st' : ASt} {m m' : Mem} (row : ∀ (x : Nat) (H : Heap) (locs : List Loc) (lsa : Array Slot) (rest : List Value), lsa[k]? = some (.val (.ref x)) → xW X Q H locs (F0 (xm X) (pc + n) lsa (.ref x :: rest)) → xW X Q H locs (F0 (xm X) pc lsa rest))
    (hx : ldA ls k st m = some (ls', st', m')) (kk : GG X Q (pc + n) ls' st' m') : GG X Q pc ls st m := by
  unfold ldA at hx
  split at hx
  case h_2 => cases hx
  rename_i x hv
  cases hx
  exact gg_load hv (row (xA X x)) kk
theorem gg_stI {X : XT} {Q : State → Prop} {pc n k : Nat} {v : AV} {pre : List Value} {ls ls' : ALs} {r st' : ASt} {m m' : Mem} (row : ∀ (H : Heap) (locs : List Loc) (lsa : Array Slot) (lv : List (Nat × Value)), lv_has lsa (xn X) lv → k < xn X → (∀ j, ldv ls k = some j → lsa[k]? = some (.val (cv (xA X) j)) ∧ (k, cv (xA X) j) ∈ lv) →
      (∀ ls' : Array Slot, lv_has ls' (xn X) ((k, cv (xA X) v) :: lv.filter (fun q => !(q.1 == k) && !(q.1 + 1 == k && q.2.category == 2))) → xW X Q H locs (F0 (xm X) (pc + n) ls' (r.map (cv (xA X))))) → xW X Q H locs (F0 (xm X) pc lsa (pre ++ r.map (cv (xA X)))))
    (hx : stI ls k v r m = some (ls', st', m')) (kk : GG X Q (pc + n) ls' st' m') (hv : okL ls → okV v) : okS r → okL ls → ∀ (H : Heap) (locs : List Loc) (lsa : Array Slot), va_P (xC X, xI X) vwCl (wsM (xA X) (xk X) m) H → va_S (frA (xA X)) (xs X).heap H locs → lhas (xA X) (xn X) lsa ls →
    xW X Q H locs (F0 (xm X) pc lsa (pre ++ r.map (cv (xA X)))) := by
  intro hS hL H locs lsa hP hSt hl
  unfold stI at hx
  split at hx
  case h_2 => cases hx
  rename_i l hm
  cases hx
  have hk := (stA_spec hm).1
  refine row H locs lsa _ (lhas_has hl) (by rw [← hl.2.1]; exact hk) (fun j hj => ?_) (fun lsa' h' => kk hS (okL_set hL (hv hL) hm) H locs lsa' hP hSt (lhas_set hl.2.1 hm h'))
  exact ⟨hl.2.2.2 k j (ldv_spec hj), mem_lsL.mpr ⟨j, ldv_spec hj, rfl⟩⟩
theorem gg_stL {X : XT} {Q : State → Prop} {pc n k : Nat} {v : AV} {pre : List Value} {ls ls' : ALs} {r st' : ASt} {m m' : Mem} (row : ∀ (H : Heap) (locs : List Loc) (lsa : Array Slot) (lv : List (Nat × Value)), lv_has lsa (xn X) lv → k + 1 < xn X →
      (∀ ls' : Array Slot, lv_has ls' (xn X) ((k, cv (xA X) v) :: lv.filter (fun q => !(q.1 == k) && (!(q.1 == k + 1) && !(q.1 + 1 == k && q.2.category == 2)))) → xW X Q H locs (F0 (xm X) (pc + n) ls' (r.map (cv (xA X))))) → xW X Q H locs (F0 (xm X) pc lsa (pre ++ r.map (cv (xA X)))))
    (hx : stL ls k v r m = some (ls', st', m')) (kk : GG X Q (pc + n) ls' st' m') (hv : okV v) : okS r → okL ls → ∀ (H : Heap) (locs : List Loc) (lsa : Array Slot), va_P (xC X, xI X) vwCl (wsM (xA X) (xk X) m) H → va_S (frA (xA X)) (xs X).heap H locs → lhas (xA X) (xn X) lsa ls →
    xW X Q H locs (F0 (xm X) pc lsa (pre ++ r.map (cv (xA X)))) := by
  intro hS hL H locs lsa hP hSt hl
  unfold stL at hx
  split at hx
  case h_2 => cases hx
  rename_i l hm hb
  have hb : k + 1 < ls.length := Nat.blt_eq.mp hb
  cases hx
  exact row H locs lsa _ (lhas_has hl) (by rw [← hl.2.1]; exact hb) (fun lsa' h' => kk hS (okL_setN (okL_set hL hv hm)) H locs lsa' hP hSt (lhas_setL hl.2.1 hm h'))
set_option maxHeartbeats 4000000 in
theorem gg_ex1 {X : XT} {cc : ByteArray} {P : PT} {Q : State → Prop} (hC : GC X cc P) {pc : Nat} {i : Instr} {ls ls' : ALs} {st st' : ASt} {m m' : Mem} (hd : decode cc pc = .ok (i, ilen i)) (hx : ex1 P i ls st m = some (ls', st', m')) (kk : GG X Q (pc + ilen i) ls' st' m') : GG X Q pc ls st m := by
  have hexec := hC.1
  have hb := hC.2.1
  have hown := hC.2.2.2.1
  have hts := hC.2.2.2.2.1
  have hpt := hC.2.2.2.2.2.2.2.2.2
  unfold ex1 at hx
  split at hx
  · cases hx; exact gg_push (v := .inl _) (fun H locs lsa rest k => lv_iconst hexec hb hd rfl k) trivial kk
  · cases hx; exact gg_push (v := .inl _) (fun H locs lsa rest k => lv_bipush hexec hb hd rfl k) trivial kk
  · cases hx; exact gg_push (v := .inl _) (fun H locs lsa rest k => lv_sipush hexec hb hd rfl k) trivial kk
  · cases hx; exact gg_push (v := .inr (.inl _)) (fun H locs lsa rest k => lv_lconst hexec hb hd rfl k) trivial kk
  · exact gg_ldI (fun x H locs lsa rest h k => lv_iload hexec hb hd h k) hx kk
  · exact gg_ldI (fun x H locs lsa rest h k => lv_iload_n hexec hb hd rfl h k) hx kk
  · exact gg_ldL (fun x H locs lsa rest h k => lv_lload hexec hb hd h k) hx kk
  · exact gg_ldL (fun x H locs lsa rest h k => lv_lload_n hexec hb hd rfl h k) hx kk
  · exact gg_ldA (fun x H locs lsa rest h k => lv_aload hexec hb hd h k) hx kk
  · exact gg_ldA (fun x H locs lsa rest h k => lv_aload_n hexec hb hd rfl h k) hx kk
  · split at hx
    case h_2 => cases hx
    rename_i x r
    exact fun hS hL => gg_stI (n := 2) (v := .inl x) (pre := [.int x]) (fun H locs lsa lv h hn _ k => lv_istore hexec hb hd h hn rfl k) hx kk (fun _ => trivial) (okS_cons.mp hS).2 hL
  · split at hx
    case h_2 => cases hx
    rename_i x r
    exact fun hS hL => gg_stI (n := 1) (v := .inl x) (pre := [.int x]) (fun H locs lsa lv h hn _ k => lv_istore_n hexec hb hd rfl h hn rfl k) hx kk (fun _ => trivial) (okS_cons.mp hS).2 hL
  · split at hx
    case h_2 => cases hx
    rename_i x r
    exact fun hS hL => gg_stI (n := 2) (v := .inr (.inr x)) (pre := [.ref (xA X x)]) (fun H locs lsa lv h hn _ k => lv_astore hexec hb hd h hn rfl k) hx kk (fun _ => (okS_cons.mp hS).1) (okS_cons.mp hS).2 hL
  · split at hx
    case h_2 => cases hx
    rename_i x r
    exact fun hS hL => gg_stI (n := 1) (v := .inr (.inr x)) (pre := [.ref (xA X x)]) (fun H locs lsa lv h hn _ k => lv_astore_n hexec hb hd rfl h hn rfl k) hx kk (fun _ => (okS_cons.mp hS).1) (okS_cons.mp hS).2 hL
  · split at hx
    case h_2 => cases hx
    rename_i x r
    exact fun hS hL => gg_stL (n := 2) (v := .inr (.inl x)) (pre := [.long x]) (fun H locs lsa lv h hn k => lv_lstore hexec hb hd h hn rfl k) hx kk trivial (okS_cons.mp hS).2 hL
  · split at hx
    case h_2 => cases hx
    rename_i x r
    exact fun hS hL => gg_stL (n := 1) (v := .inr (.inl x)) (pre := [.long x]) (fun H locs lsa lv h hn k => lv_lstore_n hexec hb hd rfl h hn rfl k) hx kk trivial (okS_cons.mp hS).2 hL
  · split at hx
    case h_2 => cases hx
    rename_i x hv
    refine fun hS hL => gg_stI (n := 3) (v := .inl _) (pre := []) (fun H locs lsa lv h hn hj k => ?_) hx kk (fun _ => trivial) hS hL
    obtain ⟨q, hq⟩ := List.getElem?_of_mem (hj _ hv).2
    exact lv_iinc hexec hb hd h hq rfl hn rfl k
  · exact gg_bin (fun x y H locs lsa rest k => lv_iadd hexec hb hd k) hx kk
  · exact gg_bin (fun x y H locs lsa rest k => lv_isub hexec hb hd k) hx kk
  · exact gg_bin (fun x y H locs lsa rest k => lv_imul hexec hb hd k) hx kk
  · exact gg_bin (fun x y H locs lsa rest k => lv_iand hexec hb hd k) hx kk
  · exact gg_bin (fun x y H locs lsa rest k => lv_ior hexec hb hd k) hx kk
  · exact gg_bin (fun x y H locs lsa rest k => lv_ixor hexec hb hd k) hx kk
  · exact gg_bin (fun x y H locs lsa rest k => lv_ishl hexec hb hd k) hx kk
  · exact gg_bin (fun x y H locs lsa rest k => lv_ishr hexec hb hd k) hx kk
  · exact gg_una (fun x H locs lsa rest k => lv_ineg hexec hb hd k) hx kk
  · exact gg_una (fun x H locs lsa rest k => lv_i2b hexec hb hd rfl k) hx kk
  · exact gg_una (fun x H locs lsa rest k => lv_i2s hexec hb hd rfl k) hx kk
  · split at hx
    case h_2 => cases hx
    cases hx
    exact fun hS hL H locs lsa hP hSt hl => lv_i2l hexec hb hd rfl (kk (okS_cons.mpr ⟨trivial, (okS_cons.mp hS).2⟩) hL H locs lsa hP hSt hl)
  · split at hx
    case h_2 => cases hx
    cases hx
    exact fun hS hL H locs lsa hP hSt hl => W.lcmp hexec hb hd (kk (okS_cons.mpr ⟨trivial, (okS_cons.mp (okS_cons.mp hS).2).2⟩) hL H locs lsa hP hSt hl)
  · split at hx
    case h_3 => cases hx
    · cases hx
      exact fun hS hL H locs lsa hP hSt hl => lv_dup hexec hb hd rfl (kk (okS_cons.mpr ⟨trivial, hS⟩) hL H locs lsa hP hSt hl)
    · cases hx
      exact fun hS hL H locs lsa hP hSt hl => lv_dup hexec hb hd rfl (kk (okS_cons.mpr ⟨(okS_cons.mp hS).1, hS⟩) hL H locs lsa hP hSt hl)
  · split at hx
    case h_3 => cases hx
    · cases hx
      exact fun hS hL H locs lsa hP hSt hl => lv_dup2_11 hexec hb hd rfl rfl (kk (okS_cons.mpr ⟨trivial, okS_cons.mpr ⟨trivial, hS⟩⟩) hL H locs lsa hP hSt hl)
    · cases hx
      exact fun hS hL H locs lsa hP hSt hl => lv_dup2_11 hexec hb hd rfl rfl (kk (okS_cons.mpr ⟨trivial, okS_cons.mpr ⟨(okS_cons.mp (okS_cons.mp hS).2).1, hS⟩⟩) hL H locs lsa hP hSt hl)
  · exact gg_get hC hd hx kk
  · exact gg_put hC hd hx kk
  · split at hx
    case h_2 => cases hx
    rename_i x hz
    cases hx
    refine gg_push (v := .inl x) (fun H locs lsa rest k => lv_ldc hexec hb hown (hts _ (hpt.2.1 (_, x) ?_)) hd k) trivial kk
    obtain ⟨l1, l2, h1, -⟩ := List.lookup_eq_some_iff.mp hz
    rw [h1]; simp
  · split at hx
    case h_2 => cases hx
    rename_i x hz
    cases hx
    refine gg_push (v := .inr (.inl x)) (fun H locs lsa rest k => lv_ldc2 hexec hb hown (hts _ (hpt.2.2 (_, x) ?_)) hd k) trivial kk
    obtain ⟨l1, l2, h1, -⟩ := List.lookup_eq_some_iff.mp hz
    rw [h1]; simp
  · cases hx
end
section
/-! ===== straight rows ===== -/
def exN (P : PT) : List Instr → ALs → ASt → Mem → Option (ALs × ASt × Mem)
  | [], ls, st, m => some (ls, st, m)
  | i :: r, ls, st, m => match ex1 P i ls st m with
    | some q => exN P r q.1 q.2.1 q.2.2
    | none => none
def blk (cc : ByteArray) : Nat → List Instr → Nat → Bool
  | pc, [], e => Nat.beq pc e
  | pc, i :: r, e => decide (decode cc pc = .ok (i, ilen i)) && blk cc (pc + ilen i) r e
theorem gg_blk {X : XT} {cc : ByteArray} {P : PT} {Q : State → Prop} (hC : GC X cc P) : ∀ {is : List Instr} {pc pc' : Nat} {ls ls' : ALs} {st st' : ASt} {m m' : Mem}, blk cc pc is pc' = true → exN P is ls st m = some (ls', st', m') → GG X Q pc' ls' st' m' → GG X Q pc ls st m
  | [], pc, pc', ls, ls', st, st', m, m', hd, hx, kk => by
    cases hx
    rw [Nat.eq_of_beq_eq_true hd]
    exact kk
  | i :: r, pc, pc', ls, ls', st, st', m, m', hd, hx, kk => by
    simp only [blk, Bool.and_eq_true, decide_eq_true_eq] at hd
    unfold exN at hx
    split at hx
    case h_2 => cases hx
    rename_i q hq
    exact gg_ex1 hC hd.1 hq (gg_blk hC hd.2 hx kk)
/-- if the number's run ends with an answer and a memory, then the machine's does, with these -/
def Go (X : XT) {ρ : Type} (E : ρ → Mem → State → Prop) (pc : Nat) (ls : ALs) (st : ASt) (m : Mem) (o : Option (ρ × Mem)) : Prop := ∀ r m', o = some (r, m') → GG X (E r m') pc ls st m
section GO
variable {X : XT} {cc : ByteArray} {P : PT} {ρ : Type} {E : ρ → Mem → State → Prop} {pc : Nat} {ls : ALs} {st : ASt} {m : Mem} {o : Option (ρ × Mem)}
theorem go_blk (hC : GC X cc P) {is : List Instr} {pc' : Nat} {ls' : ALs} {st' : ASt} {m' : Mem} (hd : blk cc pc is pc' = true) (hx : exN P is ls st m = some (ls', st', m')) (kk : Go X E pc' ls' st' m' o) : Go X E pc ls st m o :=
  fun r m2 h => gg_blk hC hd hx (kk r m2 h)
theorem go_none : Go X E pc ls st m none := fun _ _ h => by cases h
theorem go_ite {c : Prop} [Decidable c] {a b : Option (ρ × Mem)} (ha : c → Go X E pc ls st m a) (hb : ¬ c → Go X E pc ls st m b) : Go X E pc ls st m (if c then a else b) := by
  by_cases h : c
  · rw [if_pos h]; exact ha h
  · rw [if_neg h]; exact hb h
theorem go_goto (hC : GC X cc P) {off : Int} (tgt : Nat) (hd : decode cc pc = .ok (.goto off, 3)) (ht : (pc : Int) + off = (tgt : Int)) (kk : Go X E tgt ls st m o) : Go X E pc ls st m o :=
  fun r m2 h hS hL H locs lsa hP hSt hl => lv_goto hC.1 hC.2.1 hd ht (kk r m2 h hS hL H locs lsa hP hSt hl)
theorem go_br {c : Prop} [Decidable c] {tgt nxt : Nat} {st2 : ASt} {a b : Option (ρ × Mem)} (hok : okS st → okS st2)
    (row : ∀ (Q : State → Prop) (H : Heap) (locs : List Loc) (lsa : Array Slot), (c → xW X Q H locs (F0 (xm X) tgt lsa (st2.map (cv (xA X))))) → (¬ c → xW X Q H locs (F0 (xm X) nxt lsa (st2.map (cv (xA X))))) → xW X Q H locs (F0 (xm X) pc lsa (st.map (cv (xA X)))))
    (ha : c → Go X E tgt ls st2 m a) (hb : ¬ c → Go X E nxt ls st2 m b) : Go X E pc ls st m (if c then a else b) := by
  intro r m2 h hS hL H locs lsa hP hSt hl
  refine row _ H locs lsa (fun hc => ?_) (fun hc => ?_)
  · rw [if_pos hc] at h
    exact ha hc r m2 h (hok hS) hL H locs lsa hP hSt hl
  · rw [if_neg hc] at h
    exact hb hc r m2 h (hok hS) hL H locs lsa hP hSt hl
theorem ok1 {v : AV} {st : ASt} : okS (v :: st) → okS st := fun h => (okS_cons.mp h).2
theorem ok2 {v w : AV} {st : ASt} : okS (v :: w :: st) → okS st := fun h => ok1 (ok1 h)
theorem ok3 {v w u : AV} {st : ASt} : okS (v :: w :: u :: st) → okS st := fun h => ok1 (ok2 h)
variable {x y : Int32} {off : Int} {a b : Option (ρ × Mem)} {rest : ASt}
theorem go_ifeq (hC : GC X cc P) (tgt : Nat) (hd : decode cc pc = .ok (.ifCond .eq off, 3)) (ht : (pc : Int) + off = (tgt : Int)) (ha : x = 0 → Go X E tgt ls rest m a) (hb : ¬ x = 0 → Go X E (pc + 3) ls rest m b) : Go X E pc ls (.inl x :: rest) m (if x = 0 then a else b) :=
  go_br ok1 (fun Q H locs lsa k1 k2 => lv_if_eq hC.1 hC.2.1 hd ht k1 k2) ha hb
theorem go_ifne (hC : GC X cc P) (tgt : Nat) (hd : decode cc pc = .ok (.ifCond .ne off, 3)) (ht : (pc : Int) + off = (tgt : Int)) (ha : ¬ x = 0 → Go X E tgt ls rest m a) (hb : x = 0 → Go X E (pc + 3) ls rest m b) : Go X E pc ls (.inl x :: rest) m (if x = 0 then b else a) :=
  go_br ok1 (fun Q H locs lsa k1 k2 => lv_if_ne hC.1 hC.2.1 hd ht k2 k1) hb ha
theorem go_iflt (hC : GC X cc P) (tgt : Nat) (hd : decode cc pc = .ok (.ifCond .lt off, 3)) (ht : (pc : Int) + off = (tgt : Int)) (ha : x < 0 → Go X E tgt ls rest m a) (hb : ¬ x < 0 → Go X E (pc + 3) ls rest m b) : Go X E pc ls (.inl x :: rest) m (if x < 0 then a else b) :=
  go_br ok1 (fun Q H locs lsa k1 k2 => lv_if_lt hC.1 hC.2.1 hd ht k1 k2) ha hb
theorem go_ifge (hC : GC X cc P) (tgt : Nat) (hd : decode cc pc = .ok (.ifCond .ge off, 3)) (ht : (pc : Int) + off = (tgt : Int)) (ha : 0 ≤ x → Go X E tgt ls rest m a) (hb : ¬ 0 ≤ x → Go X E (pc + 3) ls rest m b) : Go X E pc ls (.inl x :: rest) m (if 0 ≤ x then a else b) :=
  go_br ok1 (fun Q H locs lsa k1 k2 => lv_if_ge hC.1 hC.2.1 hd ht k1 k2) ha hb
theorem go_ifgt (hC : GC X cc P) (tgt : Nat) (hd : decode cc pc = .ok (.ifCond .gt off, 3)) (ht : (pc : Int) + off = (tgt : Int)) (ha : 0 < x → Go X E tgt ls rest m a) (hb : ¬ 0 < x → Go X E (pc + 3) ls rest m b) : Go X E pc ls (.inl x :: rest) m (if 0 < x then a else b) :=
  go_br ok1 (fun Q H locs lsa k1 k2 => lv_if_gt hC.1 hC.2.1 hd ht k1 k2) ha hb
theorem go_ifle (hC : GC X cc P) (tgt : Nat) (hd : decode cc pc = .ok (.ifCond .le off, 3)) (ht : (pc : Int) + off = (tgt : Int)) (ha : x ≤ 0 → Go X E tgt ls rest m a) (hb : ¬ x ≤ 0 → Go X E (pc + 3) ls rest m b) : Go X E pc ls (.inl x :: rest) m (if x ≤ 0 then a else b) :=
  go_br ok1 (fun Q H locs lsa k1 k2 => lv_if_le hC.1 hC.2.1 hd ht k1 k2) ha hb
theorem go_icmpeq (hC : GC X cc P) (tgt : Nat) (hd : decode cc pc = .ok (.if_icmp .eq off, 3)) (ht : (pc : Int) + off = (tgt : Int)) (ha : x = y → Go X E tgt ls rest m a) (hb : ¬ x = y → Go X E (pc + 3) ls rest m b) : Go X E pc ls (.inl y :: .inl x :: rest) m (if x = y then a else b) :=
  go_br ok2 (fun Q H locs lsa k1 k2 => lv_icmp_eq hC.1 hC.2.1 hd ht k1 k2) ha hb
theorem go_icmpne (hC : GC X cc P) (tgt : Nat) (hd : decode cc pc = .ok (.if_icmp .ne off, 3)) (ht : (pc : Int) + off = (tgt : Int)) (ha : ¬ x = y → Go X E tgt ls rest m a) (hb : x = y → Go X E (pc + 3) ls rest m b) : Go X E pc ls (.inl y :: .inl x :: rest) m (if x = y then b else a) :=
  go_br ok2 (fun Q H locs lsa k1 k2 => lv_icmp_ne hC.1 hC.2.1 hd ht k2 k1) hb ha
theorem go_icmplt (hC : GC X cc P) (tgt : Nat) (hd : decode cc pc = .ok (.if_icmp .lt off, 3)) (ht : (pc : Int) + off = (tgt : Int)) (ha : x < y → Go X E tgt ls rest m a) (hb : ¬ x < y → Go X E (pc + 3) ls rest m b) : Go X E pc ls (.inl y :: .inl x :: rest) m (if x < y then a else b) :=
  go_br ok2 (fun Q H locs lsa k1 k2 => lv_icmp_lt hC.1 hC.2.1 hd ht k1 k2) ha hb
theorem go_icmpge (hC : GC X cc P) (tgt : Nat) (hd : decode cc pc = .ok (.if_icmp .ge off, 3)) (ht : (pc : Int) + off = (tgt : Int)) (ha : y ≤ x → Go X E tgt ls rest m a) (hb : ¬ y ≤ x → Go X E (pc + 3) ls rest m b) : Go X E pc ls (.inl y :: .inl x :: rest) m (if y ≤ x then a else b) :=
  go_br ok2 (fun Q H locs lsa k1 k2 => lv_icmp_ge hC.1 hC.2.1 hd ht k1 k2) ha hb
theorem go_icmpgt (hC : GC X cc P) (tgt : Nat) (hd : decode cc pc = .ok (.if_icmp .gt off, 3)) (ht : (pc : Int) + off = (tgt : Int)) (ha : y < x → Go X E tgt ls rest m a) (hb : ¬ y < x → Go X E (pc + 3) ls rest m b) : Go X E pc ls (.inl y :: .inl x :: rest) m (if y < x then a else b) :=
  go_br ok2 (fun Q H locs lsa k1 k2 => lv_icmp_gt hC.1 hC.2.1 hd ht k1 k2) ha hb
theorem go_icmple (hC : GC X cc P) (tgt : Nat) (hd : decode cc pc = .ok (.if_icmp .le off, 3)) (ht : (pc : Int) + off = (tgt : Int)) (ha : x ≤ y → Go X E tgt ls rest m a) (hb : ¬ x ≤ y → Go X E (pc + 3) ls rest m b) : Go X E pc ls (.inl y :: .inl x :: rest) m (if x ≤ y then a else b) :=
  go_br ok2 (fun Q H locs lsa k1 k2 => lv_icmp_le hC.1 hC.2.1 hd ht k1 k2) ha hb
end GO
/-! ===== arrays: a place outside has no run ===== -/
abbrev ix (j : Int32) : Nat := j.toNatClampNeg
def inB (j : Int32) (n : Nat) : Bool := decide (0 ≤ j) && Nat.blt (ix j) n
theorem inB_in {j : Int32} {n : Nat} (h : inB j n = true) : vp_in j n ∧ ix j < n := by
  unfold inB at h
  rw [Bool.and_eq_true, decide_eq_true_eq] at h
  have h2 : ix j < n := Nat.blt_eq.mp h.2
  refine ⟨?_, h2⟩
  rintro (q | q)
  · have h1 := h.1
    rw [Int32.lt_iff_toInt_lt] at q
    rw [Int32.le_iff_toInt_le] at h1
    omega
  · exact absurd h2 (Nat.not_lt.mpr q)
section GA
variable {X : XT} {cc : ByteArray} {P : PT} {ρ : Type} {E : ρ → Mem → State → Prop} {pc : Nat} {ls : ALs} {m : Mem} {o : Option (ρ × Mem)} {rest : ASt} {t i n : Nat} {j : Int32}
theorem go_iald (hC : GC X cc P) (hd : decode cc pc = .ok (.iaload, 1)) (hc : sh_cls t = none) (ha : sh_arr t = some (0, n)) (kk : inB j n = true → Go X E (pc + 1) ls (.inl (m t i (ix j)) :: rest) m o) :
    Go X E pc ls (.inl j :: .inr (.inr (t, i)) :: rest) m (if inB j n = true then o else none) := by
  intro r m2 h hS hL H locs lsa hP hSt hl
  split at h
  case isFalse => cases h
  rename_i hin
  have hq : (t, i) ∈ vrefs := ok_arr (okS_cons.mp (ok1 hS)).1 ha
  obtain ⟨q0, hq0, hw⟩ := wsM_at (A := xA X) (cs := xk X) (m := m) hq
  rw [cellOf_arr hc ha] at hw
  exact va_iald hC.1 hC.2.1 hC.2.2.2.2.2.2.1 hP q0 0 hw rfl (inB_in hin).1 hd (kk hin r m2 h (okS_cons.mpr ⟨trivial, ok2 hS⟩) hL H locs lsa hP hSt hl)
theorem go_iast (hC : GC X cc P) {v : Int32} (hd : decode cc pc = .ok (.iastore, 1)) (hc : sh_cls t = none) (ha : sh_arr t = some (0, n)) (kk : inB j n = true → Go X E (pc + 1) ls rest (mset m t i (ix j) v) o) :
    Go X E pc ls (.inl v :: .inl j :: .inr (.inr (t, i)) :: rest) m (if inB j n = true then o else none) := by
  intro r m2 h hS hL H locs lsa hP hSt hl
  split at h
  case isFalse => cases h
  rename_i hin
  have hq : (t, i) ∈ vrefs := ok_arr (okS_cons.mp (ok2 hS)).1 ha
  obtain ⟨q0, hq0, hw⟩ := wsM_at (A := xA X) (cs := xk X) (m := m) hq
  rw [cellOf_arr hc ha] at hw
  refine va_iast hC.1 hC.2.1 hC.2.2.2.2.2.2.1 hP (wsM_D hC.2.2.2.2.2.2.2.1 m) hSt q0 0 hw rfl (inB_in hin).1 hd (fun H1 locs1 hP1 _ hS1 => ?_)
  refine kk hin r m2 h (ok3 hS) hL H1 locs1 lsa ?_ hS1 hl
  rw [← wsM_set hq0, cellOf_arr hc ha, mset_row]
  exact hP1
theorem go_aald (hC : GC X cc P) {kd : Nat} {z : AR} (hd : decode cc pc = .ok (.aaload, 1)) (hc : sh_cls t = none) (ha : sh_arr t = some (kd + 1, n)) (hk : kd < 3) (hz : sh_ref t i (ix j) = some z) (kk : inB j n = true → Go X E (pc + 1) ls (.inr (.inr z) :: rest) m o) :
    Go X E pc ls (.inl j :: .inr (.inr (t, i)) :: rest) m (if inB j n = true then o else none) := by
  intro r m2 h hS hL H locs lsa hP hSt hl
  split at h
  case isFalse => cases h
  rename_i hin
  have hq : (t, i) ∈ vrefs := ok_arr (okS_cons.mp (ok1 hS)).1 ha
  obtain ⟨q0, hq0, hw⟩ := wsM_at (A := xA X) (cs := xk X) (m := m) hq
  rw [cellOf_arq hc ha] at hw
  obtain ⟨hin1, hin2⟩ := inB_in hin
  have hzr : z ∈ vrefs := sh_closed hq (k := ix j) (by show ix j < lenOf t; unfold lenOf; rw [hc]; dsimp only; rw [ha]; exact hin2) hz
  have hty : (elT (kd + 1)).isReference = true := by
    match kd, hk with
    | 0, _ => rfl
    | 1, _ => rfl
    | 2, _ => rfl
  refine W.aald (v := .ref (xA X z)) (ty := elT (kd + 1)) hC.1 hC.2.1 (hP q0 _ hw) ((hC.2.2.2.2.2.2.1.2 (kd + 1) _ (tysM_at (by omega))).1 n (fun j => va_rf ((fun j => if j < n then (sh_ref t i j).map (xA X) else none) j))) hty (fun q => by cases q) (by show ¬ (j < 0 ∨ (arrV _ _ _).slots.size ≤ _); rw [arrV_size]; exact hin1) ?_ rfl rfl hd ?_
  · show (arrV _ _ _).slots[_]? = _
    rw [arrV_read _ _ hin2]
    show some (va_rf (if ix j < n then (sh_ref t i (ix j)).map (xA X) else none)) = _
    rw [if_pos hin2, hz]
    rfl
  · exact kk hin r m2 h (okS_cons.mpr ⟨Or.inl hzr, ok2 hS⟩) hL H locs lsa hP hSt hl
theorem go_alen (hC : GC X cc P) (hd : decode cc pc = .ok (.arraylength, 1)) (hc : sh_cls t = none) (ha : sh_arr t = some (0, n)) (kk : Go X E (pc + 1) ls (.inl (Int32.ofNat n) :: rest) m o) : Go X E pc ls (.inr (.inr (t, i)) :: rest) m o := by
  intro r m2 h hS hL H locs lsa hP hSt hl
  have hq : (t, i) ∈ vrefs := ok_arr (okS_cons.mp hS).1 ha
  obtain ⟨q0, hq0, hw⟩ := wsM_at (A := xA X) (cs := xk X) (m := m) hq
  rw [cellOf_arr hc ha] at hw
  exact va_alen hC.1 hC.2.1 hC.2.2.2.2.2.2.1 hP q0 0 hw rfl rfl hd (kk r m2 h (okS_cons.mpr ⟨trivial, ok1 hS⟩) hL H locs lsa hP hSt hl)
variable {x y : Int32} {u w : Int64}
theorem go_guard {c : Prop} [Decidable c] {pc2 : Nat} {st st2 : ASt} (hok : okS st → okS st2) (row : c → ∀ (Q : State → Prop) (H : Heap) (locs : List Loc) (lsa : Array Slot), xW X Q H locs (F0 (xm X) pc2 lsa (st2.map (cv (xA X)))) → xW X Q H locs (F0 (xm X) pc lsa (st.map (cv (xA X))))) (kk : c → Go X E pc2 ls st2 m o) :
    Go X E pc ls st m (if c then o else none) := by
  intro r m2 h hS hL H locs lsa hP hSt hl
  split at h
  case isFalse => cases h
  rename_i hc
  exact row hc _ H locs lsa (kk hc r m2 h (hok hS) hL H locs lsa hP hSt hl)
theorem okT {v : AV} {st : ASt} (hv : okV v) (h : okS st) : okS (v :: st) := okS_cons.mpr ⟨hv, h⟩
theorem go_idiv (hC : GC X cc P) (hd : decode cc pc = .ok (.idiv, 1)) (kk : ¬ y = 0 → Go X E (pc + 1) ls (.inl (x / y) :: rest) m o) : Go X E pc ls (.inl y :: .inl x :: rest) m (if ¬ y = 0 then o else none) :=
  go_guard (fun h => okT (v := .inl (x / y)) trivial (ok2 h)) (fun hc Q H locs lsa k => lv_idiv hC.1 hC.2.1 hd hc k) kk
theorem go_irem (hC : GC X cc P) (hd : decode cc pc = .ok (.irem, 1)) (kk : ¬ y = 0 → Go X E (pc + 1) ls (.inl (x - x / y * y) :: rest) m o) : Go X E pc ls (.inl y :: .inl x :: rest) m (if ¬ y = 0 then o else none) :=
  go_guard (fun h => okT (v := .inl (x - x / y * y)) trivial (ok2 h)) (fun hc Q H locs lsa k => lv_irem hC.1 hC.2.1 hd hc k) kk
theorem go_ldiv (hC : GC X cc P) (hd : decode cc pc = .ok (.ldiv, 1)) (kk : ¬ w = 0 → Go X E (pc + 1) ls (.inr (.inl (u / w)) :: rest) m o) : Go X E pc ls (.inr (.inl w) :: .inr (.inl u) :: rest) m (if ¬ w = 0 then o else none) :=
  go_guard (fun h => okT (v := .inr (.inl (u / w))) trivial (ok2 h)) (fun hc Q H locs lsa k => lv_ldiv hC.1 hC.2.1 hd hc k) kk
theorem go_lrem (hC : GC X cc P) (hd : decode cc pc = .ok (.lrem, 1)) (kk : ¬ w = 0 → Go X E (pc + 1) ls (.inr (.inl (u - u / w * w)) :: rest) m o) : Go X E pc ls (.inr (.inl w) :: .inr (.inl u) :: rest) m (if ¬ w = 0 then o else none) :=
  go_guard (fun h => okT (v := .inr (.inl (u - u / w * w))) trivial (ok2 h)) (fun hc Q H locs lsa k => lv_lrem hC.1 hC.2.1 hd hc k) kk
end GA
/-! ===== loops: a body goes on with the next state, or with the state behind the loop, or answers at once ===== -/
def lpk {σ τ ω : Type} (body : (σ → Option ω) → (τ → Option ω) → σ → Option ω) : Nat → σ → (τ → Option ω) → Option ω
  | 0, _, _ => none
  | n + 1, s, K => body (fun s' => lpk body n s' K) K s
theorem lpk_0 {σ τ ω : Type} (body : (σ → Option ω) → (τ → Option ω) → σ → Option ω) (s : σ) (K : τ → Option ω) : lpk body 0 s K = none := rfl
theorem lpk_s {σ τ ω : Type} (body : (σ → Option ω) → (τ → Option ω) → σ → Option ω) (n : Nat) (s : σ) (K : τ → Option ω) : lpk body (n + 1) s K = body (fun s' => lpk body n s' K) K s := rfl
def fuelN : Nat := 5000
def bnd {α β : Type} (o : Option (α × Mem)) (k : α → Mem → Option β) : Option β := match o with
  | none => none
  | some q => k q.1 q.2
theorem bnd_some {α β : Type} (a : α) (m : Mem) (k : α → Mem → Option β) : bnd (some (a, m)) k = k a m := rfl
theorem go_loop {σ τ ω : Type} {body : (σ → Option ω) → (τ → Option ω) → σ → Option ω} {hd : σ → Option ω → Prop} {K : τ → Option ω}
    (h0 : ∀ s, hd s none) (hb : ∀ (s : σ) (next : σ → Option ω), (∀ s', hd s' (next s')) → hd s (body next K s)) :
    ∀ (n : Nat) (s : σ), hd s (lpk body n s K)
  | 0, s => h0 s
  | n + 1, s => hb s _ (fun s' => go_loop h0 hb n s')
end
section
/-! ===== a method's contract ===== -/
abbrev puI (x : Int32) : ASt := [.inl x]
abbrev puL (x : Int64) : ASt := [.inr (.inl x)]
abbrev puV (_ : Unit) : ASt := []
def rmd (d : Nat) : Room := { frames := d, cells := 0, slots := 0, locals := 40 * d }
def McQ (A : AR → Nat) (dC : Nat → ClassId) (dI : Nat → Nat → Nat) (cs : Nat → ClassId) (pu : ASt) (m' : Mem) : Array Value → State → Outcome → State → Prop := fun _ st oc t =>
  oc = .returned (pu.map (cv A)).head? ∧ va_P (dC, dI) vwCl (wsM A cs m') t.heap ∧ va_F (frA A) st t
def McP (A : AR → Nat) (dC : Nat → ClassId) (dI : Nat → Nat → Nat) (cs : Nat → ClassId) (as : ASt) (m : Mem) : Array Value → State → Prop := va_Pc (as.map (cv A)) (fun U => va_P (dC, dI) vwCl (wsM A cs m) U.heap ∧ va_K (dC, dI) vwCl (tysM cs) U ∧ (∀ w ∈ nestC, va_Nw w U) ∧ injA A)
/-- y, called with 'as' where the memory is m, returns what o says -/
def Ctr (l : Launch) (A : AR → Nat) (dC : Nat → ClassId) (dI : Nat → Nat → Nat) (cs : Nat → ClassId) (y : MethodName) (cc : ByteArray) (maxL : Nat) (ret : Option FieldType) (d : Nat) {ρ : Type} (pu : ρ → ASt) (as : ASt) (m : Mem) (o : Option (ρ × Mem)) : Prop :=
  okS as → ∀ r m', o = some (r, m') → Met l y (.code y cc maxL ret :: wsC) (rmd d) (McP A dC dI cs as m) (McQ A dC dI cs (pu r) m') 0 0 (frA A)
theorem nest_on {w : Cond} (h : w ∈ nestC) : w.onTables = true ∧ ∃ a i b hh, w = .methodLinkNest a i b hh := by
  have h2 := (List.mem_filter.mp h).2
  cases w <;> first | exact ⟨rfl, _, _, _, _, rfl⟩ | cases h2
theorem McP_blind {A : AR → Nat} {dC : Nat → ClassId} {dI : Nat → Nat → Nat} {cs : Nat → ClassId} {as : ASt} {m : Mem} : FrameBlind (McP A dC dI cs as m) := by
  intro a U g mk q
  obtain ⟨q0, q1, q2, q3, q4⟩ := q
  exact ⟨q0, q1, va_K.moved (u := U) (U := U.calling g mk a) (Vm.Alike.refl U.vm) q2, fun w hw => va_Nw.same (u := U) (U := U.calling g mk a) (nest_on hw).1 rfl (q3 w hw), q4⟩
theorem McP_of {s U : State} {A : AR → Nat} {dC : Nat → ClassId} {dI : Nat → Nat → Nat} {cs : Nat → ClassId} {as : ASt} {m : Mem} {H : Heap} (hP : va_P (dC, dI) vwCl (wsM A cs m) H) (hK : va_K (dC, dI) vwCl (tysM cs) s) (hN : ∀ w ∈ nestC, va_Nw w s) (hA : injA A) (hU : U.heap = H) (hW : s.WarmedH U.vm) {a : Array Value} (ha : a = (as.map (cv A)).toArray) : McP A dC dI cs as m a U := by
  refine ⟨ha, by rw [hU]; exact hP, va_K.moved hW.alike hK, fun w hw => ?_, hA⟩
  obtain ⟨-, a, i, b, hh, rfl⟩ := nest_on hw
  exact va_Nw.warmM hW (hN _ hw)
theorem wsC_good {w : Cond} (h : w ∈ wsC) : (w.onTables && w.keeps) = true ∨ ∃ ty, w = .arrayClass ty := good_of_word (List.mem_filter.mp h).2
/-- the words of a call: the callee's code, its class, how it's linked -/
def vOk (own : String) (index : Nat) (C : String) (y : MethodName) (bytes : ByteArray) (maxL : Nat) (ret : Option FieldType) (n : Nat) : Prop :=
  Cond.methodLink own index y ∈ wsC ∧ Cond.instanceMethod y ∈ wsC ∧ Cond.selects C y y ∈ wsC ∧ Cond.initialized C ∈ wsC ∧ Cond.code y bytes maxL ret ∈ wsC ∧ (y.cls = C ∧ y.cls ≠ "java/lang/invoke/MethodHandle" ∧ y.cls ≠ "java/lang/invoke/VarHandle" ∧ (parseMethodDescriptor y.desc).map (fun d => d.parameters.length) = some n)
def sOk (own : String) (index : Nat) (y : MethodName) (bytes : ByteArray) (maxL : Nat) (ret : Option FieldType) (n : Nat) : Prop :=
  Cond.methodLink own index y ∈ wsC ∧ Cond.static y ∈ wsC ∧ Cond.initialized y.cls ∈ wsC ∧ Cond.code y bytes maxL ret ∈ wsC ∧ (y.cls ≠ "java/lang/invoke/MethodHandle" ∧ y.cls ≠ "java/lang/invoke/VarHandle" ∧ (parseMethodDescriptor y.desc).map (fun d => d.parameters.length) = some n)
def nOk (own : String) (index : Nat) (host : String) (y : MethodName) (bytes : ByteArray) (maxL : Nat) (ret : Option FieldType) (n : Nat) : Prop :=
  Cond.methodLinkNest own index y host ∈ nestC ∧ Cond.static y ∈ wsC ∧ Cond.initialized y.cls ∈ wsC ∧ Cond.code y bytes maxL ret ∈ wsC ∧ (y.cls ≠ "java/lang/invoke/MethodHandle" ∧ y.cls ≠ "java/lang/invoke/VarHandle" ∧ (parseMethodDescriptor y.desc).map (fun d => d.parameters.length) = some n)
theorem good_ws {y : MethodName} {bytes : ByteArray} {maxL : Nat} {ret : Option FieldType} (h : Cond.code y bytes maxL ret ∈ wsC) : GoodIn wsC (.code y bytes maxL ret :: wsC) := by
  intro w hw
  rcases List.mem_cons.mp hw with rfl | hw
  · exact ⟨h, wsC_good h⟩
  · exact ⟨hw, wsC_good hw⟩
def catS : ASt → Nat
  | [] => 0
  | .inr (.inl _) :: r => 2 + catS r
  | _ :: r => 1 + catS r
theorem catS_eq {A : AR → Nat} : ∀ (st : ASt), ((st.map (cv A)).map fun v => v.category).sum = catS st
  | [] => rfl
  | .inl x :: r => by simp only [List.map_cons, List.sum_cons, catS_eq r]; rfl
  | .inr (.inl x) :: r => by simp only [List.map_cons, List.sum_cons, catS_eq r]; rfl
  | .inr (.inr x) :: r => by simp only [List.map_cons, List.sum_cons, catS_eq r]; rfl
theorem gg_run {X : XT} {Q : State → Prop} {pc : Nat} {ls : ALs} {st rest pu : ASt} {m' : Mem} {a : Array Value} {H : Heap} {locs : List Loc} {lsa : Array Slot}
    (hr : va_Run (xp X) (xl X) (xe X) (xR X) (xs X) (xm X) (xa X) (xb X) (xM X) (xc X) H locs (xcl X) (xsl X) 0 0 (F0 (xm X) pc lsa (st.map (cv (xA X)))) (rest.map (cv (xA X))) (McQ (xA X) (xC X) (xI X) (xk X) pu m' a) (frA (xA X)))
    (hS : va_S (frA (xA X)) (xs X).heap H locs) (hl : lhas (xA X) (xn X) lsa ls) (hpu : pu.length ≤ 1) (hok : okS (pu ++ rest)) (hL : okL ls) (kk : GG X Q (pc + 3) ls (pu ++ rest) m') : xW X Q H locs (F0 (xm X) pc lsa (st.map (cv (xA X)))) := by
  intro T hT Xs
  obtain ⟨v, st₀, t, T', L, h0, X', hLf, e1, e2, ⟨hv, hP, hz, hk⟩, step⟩ := hr T hT Xs
  cases hv
  rw [h0] at hz hk
  have hst : (pu.map (cv (xA X))).head?.toList ++ rest.map (cv (xA X)) = (pu ++ rest).map (cv (xA X)) := by
    match pu, hpu with
    | [], _ => rfl
    | [x], _ => rfl
  obtain ⟨t2, a1, b1⟩ := kk hok hL T'.heap (locs ++ L) lsa (by rw [e1]; exact hP)
    ⟨Nat.le_trans hS.1 (by rw [e1]; exact hz), fun q h1 h2 => by rw [e1, hk q (Nat.lt_of_lt_of_le h1 hS.1) h2]; exact hS.2.1 q h1 h2, fun q hq => by
      rcases List.mem_append.mp hq with h | h
      · exact hS.2.2 q h
      · exact hLf q h⟩ hl T' rfl X'
  refine ⟨t2, step t2 ?_, b1⟩
  rw [← hst] at a1
  exact a1
section GCALL
variable {X : XT} {cc : ByteArray} {P : PT} {ρ σ : Type} {E : σ → Mem → State → Prop} {pc index d maxL n : Nat} {ls : ALs} {m : Mem} {rest as : ASt} {pu : ρ → ASt} {oy : Option (ρ × Mem)} {k : ρ → Mem → Option (σ × Mem)} {y : MethodName} {bytes : ByteArray} {ret : Option FieldType} {C host : String}
theorem bnd_eq {oy : Option (ρ × Mem)} {k : ρ → Mem → Option (σ × Mem)} {q : σ × Mem} (h : bnd oy k = some q) : ∃ r m1, oy = some (r, m1) ∧ k r m1 = some q := by
  cases oy with
  | none => cases h
  | some z => exact ⟨z.1, z.2, rfl, h⟩
theorem ok_app {a b : ASt} (ha : okS a) (hb : okS b) : okS (a ++ b) := fun v hv => (List.mem_append.mp hv).elim (ha v) (hb v)
theorem ok_appl {a b : ASt} (h : okS (a ++ b)) : okS a := fun v hv => h v (List.mem_append_left _ hv)
theorem ok_appr {a b : ASt} (h : okS (a ++ b)) : okS b := fun v hv => h v (List.mem_append_right _ hv)
theorem go_callV (hC : GC X cc P) {t i ci nf : Nat} {cz : vw_C} (hct : Ctr (xl X) (xA X) (xC X) (xI X) (xk X) y bytes maxL ret d pu (.inr (.inr (t, i)) :: as) m oy) (hd : decode cc pc = .ok (.invokevirtual index, 3)) (hcz : vwCl[ci]? = some cz) (hsh : sh_cls t = some (ci, nf)) (hw : vOk P.1 index cz.1 y bytes maxL ret n) (hn : as.length = n)
    (hR : d + 1 ≤ (xR X).frames ∧ 8 + (maxL + 11) + 40 * d ≤ (xR X).locals) (hcl : xcl X ≤ (xR X).cells ∧ xsl X ≤ (xR X).slots) (hcat : catS rest ≤ 8) (hpu : ∀ r, (pu r).length ≤ 1 ∧ okS (pu r)) {st : ASt} (hst : st = as.reverse ++ .inr (.inr (t, i)) :: rest)
    (kk : ∀ r m1, oy = some (r, m1) → Go X E (pc + 3) ls (pu r ++ rest) m1 (k r m1)) : Go X E pc ls st m (bnd oy k) := by
  intro q m2 h hS hL H locs lsa hP hSt hl
  obtain ⟨r, m1, e1, e2⟩ := bnd_eq h
  subst hst
  obtain ⟨w1, w2, w3, w4, w5, w6⟩ := hw
  have hrest := ok_appr hS
  have hq : (t, i) ∈ vrefs := ok_cls (okS_cons.mp hrest).1 hsh
  have has : okS (.inr (.inr (t, i)) :: as) := okT (okS_cons.mp hrest).1 (fun v hv => ok_appl hS v (List.mem_reverse.mpr hv))
  obtain ⟨q0, hq0, hwm⟩ := wsM_at (A := xA X) (cs := xk X) (m := m) hq
  rw [cellOf_obj (k := 0) hsh] at hwm
  have hts := hC.2.2.2.2.1
  have hG : GoodIn wsC (wsV P.1 index cz.1 y (.code y bytes maxL ret :: wsC)) := by
    intro w hw
    unfold wsV at hw
    rcases List.mem_append.mp hw with h1 | h1
    · simp only [List.mem_cons, List.not_mem_nil, or_false] at h1
      rcases h1 with rfl | rfl | rfl | rfl
      · exact ⟨w1, wsC_good w1⟩
      · exact ⟨w2, wsC_good w2⟩
      · exact ⟨w3, wsC_good w3⟩
      · exact ⟨w4, wsC_good w4⟩
    · exact good_ws w5 w h1
  refine gg_run (m' := m1) (a := (Value.ref (xA X (t, i)) :: as.map (cv (xA X))).toArray) (va_runV (As := as.map (cv (xA X))) (b := xA X (t, i)) ⟨hC.1, hC.2.1, hC.2.2.1, hC.2.2.2.1, hts⟩ (hct has r m1 e1) (cwV n hts hG rfl rfl rfl w6 hR) ⟨McP_blind, va_recv hC.2.2.2.2.2.2.1 hP hcz hwm, fun U hU hW => McP_of hP hC.2.2.2.2.2.2.1 hC.2.2.2.2.2.1 hC.2.2.2.2.2.2.2.1 hU hW rfl⟩ rfl (by simpa using hn) hl.1 ?_ (lv_room (by rw [catS_eq]; exact hcat)) hd hcl) hSt hl (hpu r).1 (ok_app (hpu r).2 (ok1 hrest)) hL (kk r m1 e1 q m2 e2)
  simp [cv]
theorem go_callS (hC : GC X cc P) (hct : Ctr (xl X) (xA X) (xC X) (xI X) (xk X) y bytes maxL ret d pu as m oy) (hd : decode cc pc = .ok (.invokestatic index, 3)) (hw : sOk P.1 index y bytes maxL ret n) (hn : as.length = n)
    (hR : d + 1 ≤ (xR X).frames ∧ 8 + (maxL + 11) + 40 * d ≤ (xR X).locals) (hcl : xcl X ≤ (xR X).cells ∧ xsl X ≤ (xR X).slots) (hcat : catS rest ≤ 8) (hpu : ∀ r, (pu r).length ≤ 1 ∧ okS (pu r)) {st : ASt} (hst : st = as.reverse ++ rest)
    (kk : ∀ r m1, oy = some (r, m1) → Go X E (pc + 3) ls (pu r ++ rest) m1 (k r m1)) : Go X E pc ls st m (bnd oy k) := by
  intro q m2 h hS hL H locs lsa hP hSt hl
  obtain ⟨r, m1, e1, e2⟩ := bnd_eq h
  subst hst
  obtain ⟨w1, w2, w3, w4, w5⟩ := hw
  have hrest := ok_appr hS
  have has : okS as := fun v hv => ok_appl hS v (List.mem_reverse.mpr hv)
  have hts := hC.2.2.2.2.1
  refine gg_run (m' := m1) (a := (as.map (cv (xA X))).toArray) (va_runS (As := as.map (cv (xA X))) ⟨hC.1, hC.2.1, hC.2.2.1, hC.2.2.2.1, hts⟩ (hct has r m1 e1) ⟨callB_of n hts (good_ws w4) rfl rfl rfl (hts _ w3) (hts _ w1) w5 hR, hts _ w2⟩ ⟨McP_blind, fun U hU hW => McP_of hP hC.2.2.2.2.2.2.1 hC.2.2.2.2.2.1 hC.2.2.2.2.2.2.2.1 hU hW rfl⟩ rfl (by simpa using hn) hl.1 ?_ (lv_room (by rw [catS_eq]; exact hcat)) hd hcl) hSt hl (hpu r).1 (ok_app (hpu r).2 hrest) hL (kk r m1 e1 q m2 e2)
  simp [cv]
theorem go_callN (hC : GC X cc P) (hct : Ctr (xl X) (xA X) (xC X) (xI X) (xk X) y bytes maxL ret d pu as m oy) (hd : decode cc pc = .ok (.invokestatic index, 3)) (hw : nOk P.1 index host y bytes maxL ret n) (hn : as.length = n)
    (hR : d + 1 ≤ (xR X).frames ∧ 8 + (maxL + 11) + 40 * d ≤ (xR X).locals) (hcl : xcl X ≤ (xR X).cells ∧ xsl X ≤ (xR X).slots) (hcat : catS rest ≤ 8) (hpu : ∀ r, (pu r).length ≤ 1 ∧ okS (pu r)) {st : ASt} (hst : st = as.reverse ++ rest)
    (kk : ∀ r m1, oy = some (r, m1) → Go X E (pc + 3) ls (pu r ++ rest) m1 (k r m1)) : Go X E pc ls st m (bnd oy k) := by
  intro q m2 h hS hL H locs lsa hP hSt hl
  obtain ⟨r, m1, e1, e2⟩ := bnd_eq h
  subst hst
  obtain ⟨w1, w2, w3, w4, w5⟩ := hw
  have hrest := ok_appr hS
  have has : okS as := fun v hv => ok_appl hS v (List.mem_reverse.mpr hv)
  have hts := hC.2.2.2.2.1
  refine gg_run (m' := m1) (a := (as.map (cv (xA X))).toArray) (va_runSN (As := as.map (cv (xA X))) ⟨hC.1, hC.2.1, hC.2.2.1, hC.2.2.2.1, hts⟩ (hct has r m1 e1) ⟨va_cnB n hts (good_ws w4) rfl rfl rfl (hC.2.2.2.2.2.1 _ w1) (hts _ w3) w5 hR, hts _ w2, trivial⟩ ⟨McP_blind, fun U hU hW => McP_of hP hC.2.2.2.2.2.2.1 hC.2.2.2.2.2.1 hC.2.2.2.2.2.2.2.1 hU hW rfl⟩ rfl (by simpa using hn) hl.1 ?_ (lv_room (by rw [catS_eq]; exact hcat)) hd hcl) hSt hl (hpu r).1 (ok_app (hpu r).2 hrest) hL (kk r m1 e1 q m2 e2)
  simp [cv]
end GCALL
/-! ===== a method's end, its start ===== -/
def Em (X : XT) {ρ : Type} (pu : ρ → ASt) (r : ρ) (m' : Mem) : State → Prop := MQ (xb X) (McQ (xA X) (xC X) (xI X) (xk X) (pu r) m') (xa X) (xs X) (xcl X) (xsl X) (frA (xA X))
section GRET
variable {X : XT} {cc : ByteArray} {P : PT} {pc : Nat} {ls : ALs} {m : Mem}
theorem go_iret (hC : GC X cc P) (hr : (xM X).sig.returnType = some .int) {v : Int32} (hd : decode cc pc = .ok (.ireturn, 1)) : Go X (Em X puI) pc ls [.inl v] m (some (v, m)) := by
  intro r m2 h hS hL H locs lsa hP hSt hl
  cases h
  exact W.iret (v := v) hC.1 hC.2.1 hr (fun t ht hW => ⟨rfl, by rw [ht]; exact hP, hSt.F ht⟩) hSt.2.2 hd hC.2.2.2.2.2.2.2.2.1
theorem go_zret (hC : GC X cc P) (hr : (xM X).sig.returnType = some .boolean) {v : Int32} (hv : v = 0 ∨ v = 1) (hd : decode cc pc = .ok (.ireturn, 1)) : Go X (Em X puI) pc ls [.inl v] m (some (v, m)) := by
  intro r m2 h hS hL H locs lsa hP hSt hl
  cases h
  refine W.zret (v := v) (ty := .boolean) hC.1 hC.2.1 hr ?_ (fun t ht hW => ⟨rfl, by rw [ht]; exact hP, hSt.F ht⟩) hSt.2.2 hd hC.2.2.2.2.2.2.2.2.1
  rcases hv with rfl | rfl <;> rfl
theorem go_zretG (hC : GC X cc P) (hr : (xM X).sig.returnType = some .boolean) {v : Int32} (hd : decode cc pc = .ok (.ireturn, 1)) : Go X (Em X puI) pc ls [.inl v] m (if v = 0 ∨ v = 1 then some (v, m) else none) := by
  intro r m2 h
  split at h
  case isFalse => cases h
  rename_i hv
  exact go_zret hC hr hv hd r m2 h
theorem go_lret (hC : GC X cc P) (hr : (xM X).sig.returnType = some .long) {v : Int64} (hd : decode cc pc = .ok (.lreturn, 1)) : Go X (Em X puL) pc ls [.inr (.inl v)] m (some (v, m)) := by
  intro r m2 h hS hL H locs lsa hP hSt hl
  cases h
  exact W.lret (v := v) hC.1 hC.2.1 hr (fun t ht hW => ⟨rfl, by rw [ht]; exact hP, hSt.F ht⟩) hSt.2.2 hd hC.2.2.2.2.2.2.2.2.1
theorem go_vret (hC : GC X cc P) (hr : (xM X).sig.returnType = none) (hd : decode cc pc = .ok (.return_, 1)) : Go X (Em X puV) pc ls [] m (some ((), m)) := by
  intro r m2 h hS hL H locs lsa hP hSt hl
  cases h
  exact W.vret hC.1 hC.2.1 hr (fun t ht hW => ⟨rfl, by rw [ht]; exact hP, hSt.F ht⟩) hSt.2.2 hd hC.2.2.2.2.2.2.2.2.1
end GRET
def entL : ASt → ALs
  | [] => []
  | .inr (.inl x) :: r => some (.inr (.inl x)) :: none :: entL r
  | v :: r => some v :: entL r
def padL (n : Nat) (l : ALs) : ALs := l ++ List.replicate (n - l.length) none
theorem entL_len {A : AR → Nat} : ∀ (as : ASt), (lg_sl (as.map (cv A))).length = (entL as).length
  | [] => rfl
  | .inl x :: r => by have h := entL_len (A := A) r; simp only [lg_sl, List.map_cons, List.flatMap_cons, entL, List.length_append, List.length_cons] at h ⊢; rw [h]; simp [cv, Value.category]; omega
  | .inr (.inl x) :: r => by have h := entL_len (A := A) r; simp only [lg_sl, List.map_cons, List.flatMap_cons, entL, List.length_append, List.length_cons] at h ⊢; rw [h]; simp [cv, Value.category]; omega
  | .inr (.inr x) :: r => by have h := entL_len (A := A) r; simp only [lg_sl, List.map_cons, List.flatMap_cons, entL, List.length_append, List.length_cons] at h ⊢; rw [h]; simp [cv, Value.category]; omega
theorem entL_at {A : AR → Nat} : ∀ (as : ASt) (i k : Nat) (v : AV), (entL as)[k]? = some (some v) → (i + k, cv A v) ∈ lv_args i (as.map (cv A))
  | [], i, k, v, h => by simp [entL] at h
  | .inl x :: r, i, k, v, h => by
    simp only [List.map_cons, lv_args]
    cases k with
    | zero => simp only [entL, List.getElem?_cons_zero] at h; cases h; exact List.mem_cons_self
    | succ k => simp only [entL, List.getElem?_cons_succ] at h; have := entL_at (A := A) r (i + 1) k v h; refine List.mem_cons_of_mem _ ?_; simpa [cv, Value.category, Nat.add_assoc, Nat.add_comm 1 k] using this
  | .inr (.inl x) :: r, i, k, v, h => by
    simp only [List.map_cons, lv_args]
    cases k with
    | zero => simp only [entL, List.getElem?_cons_zero] at h; cases h; exact List.mem_cons_self
    | succ k => cases k with
      | zero => simp [entL] at h
      | succ k => simp only [entL, List.getElem?_cons_succ] at h; have := entL_at (A := A) r (i + 2) k v h; refine List.mem_cons_of_mem _ ?_; simpa [cv, Value.category, Nat.add_assoc, Nat.add_comm 2 k] using this
  | .inr (.inr x) :: r, i, k, v, h => by
    simp only [List.map_cons, lv_args]
    cases k with
    | zero => simp only [entL, List.getElem?_cons_zero] at h; cases h; exact List.mem_cons_self
    | succ k => simp only [entL, List.getElem?_cons_succ] at h; have := entL_at (A := A) r (i + 1) k v h; refine List.mem_cons_of_mem _ ?_; simpa [cv, Value.category, Nat.add_assoc, Nat.add_comm 1 k] using this
theorem okL_ent : ∀ (as : ASt), okS as → okL (entL as)
  | [], _ => fun v h => by cases h
  | .inl x :: r, h => fun v hv => by
    rcases List.mem_cons.mp hv with h1 | h1
    · cases h1; trivial
    · exact okL_ent r (ok1 h) v h1
  | .inr (.inl x) :: r, h => fun v hv => by
    rcases List.mem_cons.mp hv with h1 | h1
    · cases h1; trivial
    · rcases List.mem_cons.mp h1 with h2 | h2
      · cases h2
      · exact okL_ent r (ok1 h) v h2
  | .inr (.inr x) :: r, h => fun v hv => by
    rcases List.mem_cons.mp hv with h1 | h1
    · cases h1; exact (okS_cons.mp h).1
    · exact okL_ent r (ok1 h) v h1
theorem ctr_of {l : Launch} {A : AR → Nat} {dC : Nat → ClassId} {dI : Nat → Nat → Nat} {cs : Nat → ClassId} {y : MethodName} {cc : ByteArray} {maxL d : Nat} {ret : Option FieldType} {ρ : Type} {pu : ρ → ASt} {as : ASt} {m : Mem} {o : Option (ρ × Mem)} {P : PT} {ls : ALs}
    (hy : plainName y.cls = true) (hown : P.1 = y.cls) (hP : ptOk P) (hlen : Nat.ble (entL as).length maxL = true) (hls : padL maxL (entL as) = ls)
    (body : ∀ X : XT, GC X cc P → xl X = l → xA X = A → xC X = dC → xI X = dI → xk X = cs → xR X = rmd d → xcl X = 0 → xsl X = 0 → (xM X).sig.returnType = ret → Go X (Em X pu) 0 ls [] m o) : Ctr l A dC dI cs y cc maxL ret d pu as m o := by
  intro hok r m' ho
  refine Met.ofW (cc := cc) (maxL := maxL) (ret := ret) hy rfl ?_
  intro p e s mi args below meth c s₁ B hml hv
  obtain ⟨rfl, hPw, hK, hN, hA⟩ := hv
  have hts := atoms_spec (ws := .code y cc maxL ret :: wsC) B.pre
  have hfc : s.vm.findClass y.cls = some mi.cls := findClass_of_methodNamed B.named
  rw [lg_entry_eq]
  have hle : (lg_sl (as.map (cv A))).length ≤ maxL := by rw [entL_len]; exact Nat.le_of_ble_eq_true hlen
  have hl := lv_entry (as.map (cv A)) (n := maxL) hle
  have hlh : lhas A maxL ((lg_sl (as.map (cv A)) ++ List.replicate (maxL - (lg_sl (as.map (cv A))).length) Slot.unset).toArray) ls := by
    subst hls
    refine ⟨hl.1, ?_, hl.2.1, fun k v hk => ?_⟩
    · have := Nat.le_of_ble_eq_true hlen
      simp [padL]; omega
    · unfold padL at hk
      by_cases h1 : k < (entL as).length
      · rw [List.getElem?_append_left h1] at hk
        have := entL_at (A := A) as 0 k v hk
        rw [Nat.zero_add] at this
        exact hl.2.2 _ this
      · rw [List.getElem?_append_right (Nat.not_lt.mp h1), List.getElem?_replicate] at hk
        split at hk <;> cases hk
  have hokl : okL ls := by
    subst hls
    intro v hv
    rcases List.mem_append.mp hv with h1 | h1
    · exact okL_ent as hok v h1
    · exact absurd (List.eq_of_mem_replicate h1) (by intro q; cases q)
  have hgc : GC (p, l, e, rmd d, s, mi, (as.map (cv A)).toArray, below, meth, c, A, dC, dI, cs, 0, 0, maxL) cc P :=
    ⟨B.exec, B.bytes, hml, by show s.vm.findClass P.1 = _; rw [hown]; exact hfc, fun w hw => hts w (List.mem_cons_of_mem _ hw), hN, hK, hA, B.notSynchronized, hP⟩
  exact body _ hgc rfl rfl rfl rfl rfl rfl rfl rfl B.returns r m' ho (fun v h => by cases h) hokl s.heap [] _ hPw va_S.rf hlh
/-! ===== what every piece of a method takes ===== -/
def MX (X : XT) (cc : ByteArray) (P : PT) (D : Nat) (ret : Option FieldType) : Prop := GC X cc P ∧ xR X = rmd D ∧ xcl X = 0 ∧ xsl X = 0 ∧ (xM X).sig.returnType = ret
theorem MX.room {X : XT} {cc : ByteArray} {P : PT} {D : Nat} {ret : Option FieldType} (h : MX X cc P D ret) {d maxL : Nat} (h1 : d + 1 ≤ D) (h2 : maxL ≤ 21) : d + 1 ≤ (xR X).frames ∧ 8 + (maxL + 11) + 40 * d ≤ (xR X).locals := by
  rw [h.2.1]
  show d + 1 ≤ D ∧ 8 + (maxL + 11) + 40 * d ≤ 40 * D
  omega
theorem MX.cl {X : XT} {cc : ByteArray} {P : PT} {D : Nat} {ret : Option FieldType} (h : MX X cc P D ret) : xcl X ≤ (xR X).cells ∧ xsl X ≤ (xR X).slots := by
  rw [h.2.2.1, h.2.2.2.1]
  exact ⟨Nat.zero_le _, Nat.zero_le _⟩
theorem puI_ok : ∀ r, (puI r).length ≤ 1 ∧ okS (puI r) := fun r => ⟨Nat.le_refl _, fun v hv => by rw [List.mem_singleton.mp hv]; trivial⟩
theorem puL_ok : ∀ r, (puL r).length ≤ 1 ∧ okS (puL r) := fun r => ⟨Nat.le_refl _, fun v hv => by rw [List.mem_singleton.mp hv]; trivial⟩
theorem puV_ok : ∀ r, (puV r).length ≤ 1 ∧ okS (puV r) := fun r => ⟨Nat.zero_le _, fun v hv => by cases hv⟩
theorem wsC_at {w : Cond} (i : Nat) (h : lw_tbl[i]? = some w) (hg : goodWord w = true) : w ∈ wsC := List.mem_filter.mpr ⟨List.mem_of_getElem? h, hg⟩
/-! ===== the JDK's own: max, min, arraycopy ===== -/
section GJ
variable {X : XT} {cc : ByteArray} {P : PT} {ρ : Type} {E : ρ → Mem → State → Prop} {pc D : Nat} {ret : Option FieldType} {ls : ALs} {m : Mem} {o : Option (ρ × Mem)} {rest : ASt} {index : Nat}
theorem go_max (h : MX X cc P D ret) (hD : 1 ≤ D) {x y : Int32} (hd : decode cc pc = .ok (.invokestatic index, 3)) (w1 : Cond.methodLink P.1 index Lib.Math.max.name ∈ wsC) (w2 : Cond.static Lib.Math.max.name ∈ wsC) (w3 : Cond.initialized "java/lang/Math" ∈ wsC) (w4 : Cond.code Lib.Math.max.name Lib.Math.max.code 2 (some .int) ∈ wsC) (hcat : catS rest ≤ 8)
    (kk : Go X E (pc + 3) ls (.inl (if x < y then y else x) :: rest) m o) : Go X E pc ls (.inl y :: .inl x :: rest) m o := by
  intro r m2 ho hS hL H locs lsa hP hSt hl
  have hts := h.1.2.2.2.2.1
  refine va_mmax h.1.1 h.1.2.1 (h.1.2.2.1.trans hl.1.symm) h.1.2.2.2.1 (hts _ w1) (hts _ w2) (hts _ w3) (hts _ w4) ?_ ?_ h.cl.1 h.cl.2 hd (kk r m2 ho (okT trivial (ok2 hS)) hL H locs lsa hP hSt hl)
  · rw [h.2.1]; exact hD
  · rw [h.2.1, catS_eq]; show catS rest + 13 ≤ 40 * D; omega
theorem go_min (h : MX X cc P D ret) (hD : 1 ≤ D) {x y : Int32} (hd : decode cc pc = .ok (.invokestatic index, 3)) (w1 : Cond.methodLink P.1 index Lib.Math.min.name ∈ wsC) (w2 : Cond.static Lib.Math.min.name ∈ wsC) (w3 : Cond.initialized "java/lang/Math" ∈ wsC) (w4 : Cond.code Lib.Math.min.name Lib.Math.min.code 2 (some .int) ∈ wsC) (hcat : catS rest ≤ 8)
    (kk : Go X E (pc + 3) ls (.inl (if y < x then y else x) :: rest) m o) : Go X E pc ls (.inl y :: .inl x :: rest) m o := by
  intro r m2 ho hS hL H locs lsa hP hSt hl
  have hts := h.1.2.2.2.2.1
  refine va_mmin h.1.1 h.1.2.1 (h.1.2.2.1.trans hl.1.symm) h.1.2.2.2.1 (hts _ w1) (hts _ w2) (hts _ w3) (hts _ w4) ?_ ?_ h.cl.1 h.cl.2 hd (kk r m2 ho (okT trivial (ok2 hS)) hL H locs lsa hP hSt hl)
  · rw [h.2.1]; exact hD
  · rw [h.2.1, catS_eq]; show catS rest + 13 ≤ 40 * D; omega
def mcopy (m : Mem) (t0 i0 t1 i1 sp dp n : Nat) : Mem := fun t i j => if t = t1 ∧ i = i1 ∧ dp ≤ j ∧ j < dp + n then m t0 i0 (sp + (j - dp)) else m t i j
def cpOk (sp dp n : Int32) (n0 n1 : Nat) : Bool := decide (0 ≤ sp) && decide (0 ≤ dp) && decide (0 ≤ n) && decide (ix sp + ix n ≤ n0) && decide (ix dp + ix n ≤ n1)
theorem nn_of {x : Int32} (h : 0 ≤ x) : ¬ x < 0 := by
  rw [Int32.lt_iff_toInt_lt]
  rw [Int32.le_iff_toInt_le] at h
  omega
theorem cellOf_copy {A : AR → Nat} {cs : Nat → ClassId} {m : Mem} {t0 i0 t1 i1 sp dp n : Nat} {r : AR} (h : r ≠ (t1, i1)) : cellOf A cs (mcopy m t0 i0 t1 i1 sp dp n) r = cellOf A cs m r := by
  have e : ∀ k, mcopy m t0 i0 t1 i1 sp dp n r.1 r.2 k = m r.1 r.2 k := fun k => by
    unfold mcopy
    rw [if_neg]
    rintro ⟨h1, h2, -⟩
    exact h (Prod.ext h1 h2)
  unfold cellOf
  simp only [e]
theorem wsM_copy {A : AR → Nat} {cs : Nat → ClassId} {m : Mem} {t0 i0 t i k sp dp n : Nat} (hk : vrefs[k]? = some (t, i)) : (wsM A cs m).set k (A (t, i), cellOf A cs (mcopy m t0 i0 t i sp dp n) (t, i)) = wsM A cs (mcopy m t0 i0 t i sp dp n) := by
  apply List.ext_getElem?
  intro q
  rw [List.getElem?_set]
  have hlen : (wsM A cs m).length = vrefs.length := by simp [wsM]
  have hkl := (List.getElem?_eq_some_iff.mp hk).1
  by_cases hq : k = q
  · subst hq
    rw [if_pos rfl, if_pos (by rw [hlen]; exact hkl)]
    simp [wsM, hk]
  · rw [if_neg hq]
    simp only [wsM, List.getElem?_map]
    cases hr : vrefs[q]? with
    | none => rfl
    | some r =>
      have hne : r ≠ (t, i) := fun e => hq (vrefs_inj hk (by rw [hr, e]))
      simp only [Option.map_some]
      rw [cellOf_copy hne]
theorem go_acopy (h : MX X cc P D ret) (hD : 1 ≤ D) {sp dp n : Int32} {t0 i0 t1 i1 n0 n1 : Nat} (hd : decode cc pc = .ok (.invokestatic index, 3)) (w1 : Cond.methodLink P.1 index arraycopyName ∈ wsC) (w2 : Cond.native arraycopyName ∈ wsC) (w3 : Cond.static arraycopyName ∈ wsC) (w4 : Cond.initialized "java/lang/System" ∈ wsC) (hcat : catS rest ≤ 8)
    (hc0 : sh_cls t0 = none) (ha0 : sh_arr t0 = some (0, n0)) (hc1 : sh_cls t1 = none) (ha1 : sh_arr t1 = some (0, n1)) (kk : cpOk sp dp n n0 n1 = true → Go X E (pc + 3) ls rest (mcopy m t0 i0 t1 i1 (ix sp) (ix dp) (ix n)) o) :
    Go X E pc ls (.inl n :: .inl dp :: .inr (.inr (t1, i1)) :: .inl sp :: .inr (.inr (t0, i0)) :: rest) m (if cpOk sp dp n n0 n1 = true then o else none) := by
  intro r m2 ho hS hL H locs lsa hP hSt hl
  split at ho
  case isFalse => cases ho
  rename_i hin
  have hts := h.1.2.2.2.2.1
  have hq1 : (t1, i1) ∈ vrefs := ok_arr (okS_cons.mp (ok2 hS)).1 ha1
  have hq0 : (t0, i0) ∈ vrefs := ok_arr (okS_cons.mp (ok1 (ok3 hS))).1 ha0
  obtain ⟨q0, hv0, hw0⟩ := wsM_at (A := xA X) (cs := xk X) (m := m) hq0
  obtain ⟨q1, hv1, hw1⟩ := wsM_at (A := xA X) (cs := xk X) (m := m) hq1
  rw [cellOf_arr hc0 ha0] at hw0
  rw [cellOf_arr hc1 ha1] at hw1
  have hin2 := hin
  simp only [cpOk, Bool.and_eq_true, decide_eq_true_eq] at hin2
  obtain ⟨⟨⟨⟨g1, g2⟩, g3⟩, g4⟩, g5⟩ := hin2
  refine va_copyi h.1.1 h.1.2.1 (h.1.2.2.1.trans hl.1.symm) h.1.2.2.2.1 (hts _ w1) (hts _ w2) (hts _ w3) (hts _ w4) h.1.2.2.2.2.2.2.1 hP (wsM_D h.1.2.2.2.2.2.2.2.1 m) hSt q0 q1 0 0 hw0 hw1 rfl rfl rfl (nn_of g1) (nn_of g2) (nn_of g3) g4 g5 (fun _ _ => rfl) ?_ ?_ hd (fun H1 locs1 hP1 _ hS1 => ?_)
  · rw [h.2.1]; exact hD
  · rw [h.2.1, catS_eq]
    have e : nativeFrameWords "java/lang/System" "arraycopy" 5 ≤ 20 := by decide +kernel
    show catS rest + (nativeFrameWords "java/lang/System" "arraycopy" 5 + 11) ≤ 40 * D
    omega
  · refine kk hin r m2 ho (ok2 (ok3 hS)) hL H1 locs1 lsa ?_ hS1 hl
    rw [← wsM_copy hv1, cellOf_arr hc1 ha1]
    have e : (fun j => mcopy m t0 i0 t1 i1 (ix sp) (ix dp) (ix n) t1 i1 j) = va_cpy (fun j => m t0 i0 j) (fun j => m t1 i1 j) (ix sp) (ix dp) (ix n) := by
      funext j
      unfold mcopy va_cpy
      by_cases hj : ix dp ≤ j ∧ j < ix dp + ix n
      · rw [if_pos ⟨rfl, rfl, hj⟩, if_pos hj]
      · rw [if_neg (fun q => hj q.2.2), if_neg hj]
    rw [e]
    exact hP1
end GJ
/-! ===== switches ===== -/
section GSW
variable {X : XT} {cc : ByteArray} {P : PT} {ρ : Type} {E : ρ → Mem → State → Prop} {pc len : Nat} {ls : ALs} {m : Mem} {o : Option (ρ × Mem)} {rest : ASt} {x : Int32}
theorem go_tsIn (hC : GC X cc P) {dflt lo hi off : Int} {offs : Array Int} (v : Int32) (tgt : Nat) (hx : x = v) (hd : decode cc pc = .ok (.tableswitch dflt lo hi offs, len)) (h1 : ¬ v.toInt < lo ∧ ¬ hi < v.toInt) (ho : offs[(v.toInt - lo).toNat]? = some off) (ht : (pc : Int) + off = (tgt : Int)) (kk : Go X E tgt ls rest m o) : Go X E pc ls (.inl x :: rest) m o := by
  intro r m2 h hS hL H locs lsa hP hSt hl
  subst hx
  exact lv_tableIn hC.1 hC.2.1 hd h1.1 h1.2 ho ht (kk r m2 h (ok1 hS) hL H locs lsa hP hSt hl)
theorem sw_out {x : Int32} {lo hi : Int} {n : Nat} (hn : hi < lo + n) (h : ∀ j : Nat, j < n → ¬ x = Int32.ofInt (lo + j)) : x.toInt < lo ∨ hi < x.toInt := by
  by_cases h1 : x.toInt < lo
  · exact Or.inl h1
  by_cases h2 : hi < x.toInt
  · exact Or.inr h2
  refine absurd ?_ (h (x.toInt - lo).toNat (by omega))
  rw [show lo + ((x.toInt - lo).toNat : Int) = x.toInt by omega, Int32.ofInt_toInt]
theorem go_tsOut (hC : GC X cc P) {dflt lo hi : Int} {offs : Array Int} (tgt : Nat) (hd : decode cc pc = .ok (.tableswitch dflt lo hi offs, len)) (h1 : x.toInt < lo ∨ hi < x.toInt) (ht : (pc : Int) + dflt = (tgt : Int)) (kk : Go X E tgt ls rest m o) : Go X E pc ls (.inl x :: rest) m o := by
  intro r m2 h hS hL H locs lsa hP hSt hl
  exact lv_tableOut hC.1 hC.2.1 hd h1 ht (kk r m2 h (ok1 hS) hL H locs lsa hP hSt hl)
theorem go_ls (hC : GC X cc P) {dflt off : Int} {ps : Array (Int × Int)} (tgt : Nat) (hd : decode cc pc = .ok (.lookupswitch dflt ps, len)) (hp : (ps.toList.zip (ps.toList.drop 1)).all (fun (a, next) => a.1 < next.1) = true) (ho : Op.lookupswitch.offset ps.toList dflt x.toInt = off) (ht : (pc : Int) + off = (tgt : Int)) (kk : Go X E tgt ls rest m o) : Go X E pc ls (.inl x :: rest) m o := by
  intro r m2 h hS hL H locs lsa hP hSt hl
  exact lv_lookup hC.1 hC.2.1 hd hp ho ht (kk r m2 h (ok1 hS) hL H locs lsa hP hSt hl)
theorem go_lsIn (hC : GC X cc P) {dflt off : Int} {ps : Array (Int × Int)} (v : Int32) (tgt : Nat) (hx : x = v) (hd : decode cc pc = .ok (.lookupswitch dflt ps, len)) (hp : (ps.toList.zip (ps.toList.drop 1)).all (fun (a, next) => a.1 < next.1) = true) (ho : Op.lookupswitch.offset ps.toList dflt v.toInt = off) (ht : (pc : Int) + off = (tgt : Int)) (kk : Go X E tgt ls rest m o) : Go X E pc ls (.inl x :: rest) m o := by
  subst hx
  exact go_ls hC tgt hd hp ho ht kk
theorem toInt_ne {x v : Int32} (h : ¬ x = v) : ¬ x.toInt = v.toInt := fun q => h (Int32.toInt_inj.mp q)
end GSW
end
section
/-! ===== printed by wip/whole/tr.py out of the listing: pools and words ===== -/
def P_X6 : PT := (RX6, [(213, 4, 0), (196, 4, 1), (210, 4, 2), (90, 1, 0), (95, 1, 1), (98, 1, 2), (101, 1, 3), (104, 1, 4), (86, 5, 0), (82, 5, 1), (115, 5, 2), (118, 5, 3), (188, 0, 0), (138, 0, 2), (149, 0, 5), (187, 0, 9), (131, 0, 10), (132, 0, 11), (135, 0, 12), (128, 0, 13), (164, 3, 2), (160, 3, 4), (76, 2, 2), (13, 6, 0), (21, 6, 1), (28, 6, 2), (35, 6, 3), (42, 6, 4), (46, 6, 5), (50, 6, 6)], [(163, (1000000 : Int32))], [(190, (-9223372036854775808 : Int64))])
theorem pt_X6 : ptOk P_X6 := ⟨(List.forall_mem_cons.mpr ⟨⟨_, rfl, by decide, wsC_at 78 (by decide +kernel) rfl⟩, (List.forall_mem_cons.mpr ⟨⟨_, rfl, by decide, wsC_at 80 (by decide +kernel) rfl⟩, (List.forall_mem_cons.mpr ⟨⟨_, rfl, by decide, wsC_at 82 (by decide +kernel) rfl⟩, (List.forall_mem_cons.mpr ⟨⟨_, rfl, by decide, wsC_at 109 (by decide +kernel) rfl⟩, (List.forall_mem_cons.mpr ⟨⟨_, rfl, by decide, wsC_at 112 (by decide +kernel) rfl⟩, (List.forall_mem_cons.mpr ⟨⟨_, rfl, by decide, wsC_at 115 (by decide +kernel) rfl⟩, (List.forall_mem_cons.mpr ⟨⟨_, rfl, by decide, wsC_at 118 (by decide +kernel) rfl⟩, (List.forall_mem_cons.mpr ⟨⟨_, rfl, by decide, wsC_at 121 (by decide +kernel) rfl⟩, (List.forall_mem_cons.mpr ⟨⟨_, rfl, by decide, wsC_at 135 (by decide +kernel) rfl⟩, (List.forall_mem_cons.mpr ⟨⟨_, rfl, by decide, wsC_at 138 (by decide +kernel) rfl⟩, (List.forall_mem_cons.mpr ⟨⟨_, rfl, by decide, wsC_at 141 (by decide +kernel) rfl⟩, (List.forall_mem_cons.mpr ⟨⟨_, rfl, by decide, wsC_at 144 (by decide +kernel) rfl⟩, (List.forall_mem_cons.mpr ⟨⟨_, rfl, by decide, wsC_at 163 (by decide +kernel) rfl⟩, (List.forall_mem_cons.mpr ⟨⟨_, rfl, by decide, wsC_at 167 (by decide +kernel) rfl⟩, (List.forall_mem_cons.mpr ⟨⟨_, rfl, by decide, wsC_at 171 (by decide +kernel) rfl⟩, (List.forall_mem_cons.mpr ⟨⟨_, rfl, by decide, wsC_at 177 (by decide +kernel) rfl⟩, (List.forall_mem_cons.mpr ⟨⟨_, rfl, by decide, wsC_at 179 (by decide +kernel) rfl⟩, (List.forall_mem_cons.mpr ⟨⟨_, rfl, by decide, wsC_at 181 (by decide +kernel) rfl⟩, (List.forall_mem_cons.mpr ⟨⟨_, rfl, by decide, wsC_at 183 (by decide +kernel) rfl⟩, (List.forall_mem_cons.mpr ⟨⟨_, rfl, by decide, wsC_at 186 (by decide +kernel) rfl⟩, (List.forall_mem_cons.mpr ⟨⟨_, rfl, by decide, wsC_at 228 (by decide +kernel) rfl⟩, (List.forall_mem_cons.mpr ⟨⟨_, rfl, by decide, wsC_at 231 (by decide +kernel) rfl⟩, (List.forall_mem_cons.mpr ⟨⟨_, rfl, by decide, wsC_at 252 (by decide +kernel) rfl⟩, (List.forall_mem_cons.mpr ⟨⟨_, rfl, by decide, wsC_at 260 (by decide +kernel) rfl⟩, (List.forall_mem_cons.mpr ⟨⟨_, rfl, by decide, wsC_at 261 (by decide +kernel) rfl⟩, (List.forall_mem_cons.mpr ⟨⟨_, rfl, by decide, wsC_at 262 (by decide +kernel) rfl⟩, (List.forall_mem_cons.mpr ⟨⟨_, rfl, by decide, wsC_at 263 (by decide +kernel) rfl⟩, (List.forall_mem_cons.mpr ⟨⟨_, rfl, by decide, wsC_at 264 (by decide +kernel) rfl⟩, (List.forall_mem_cons.mpr ⟨⟨_, rfl, by decide, wsC_at 265 (by decide +kernel) rfl⟩, (List.forall_mem_cons.mpr ⟨⟨_, rfl, by decide, wsC_at 266 (by decide +kernel) rfl⟩, (fun _ h => absurd h List.not_mem_nil)⟩)⟩)⟩)⟩)⟩)⟩)⟩)⟩)⟩)⟩)⟩)⟩)⟩)⟩)⟩)⟩)⟩)⟩)⟩)⟩)⟩)⟩)⟩)⟩)⟩)⟩)⟩)⟩)⟩)⟩), (List.forall_mem_cons.mpr ⟨wsC_at 475 (by decide +kernel) rfl, (fun _ h => absurd h List.not_mem_nil)⟩), (List.forall_mem_cons.mpr ⟨wsC_at 534 (by decide +kernel) rfl, (fun _ h => absurd h List.not_mem_nil)⟩)⟩
def P_X0 : PT := (RX0, [(66, 1, 0), (70, 1, 1), (72, 1, 2), (74, 1, 3), (76, 1, 4), (62, 5, 0), (38, 5, 1), (45, 5, 2), (49, 5, 3), (9, 0, 0), (15, 0, 1), (18, 0, 2), (21, 0, 3), (24, 0, 4), (29, 0, 5), (32, 0, 6), (35, 0, 7), (44, 0, 8), (48, 0, 9), (52, 0, 10), (53, 0, 11), (56, 0, 12), (59, 0, 13)], [(131, (1000000 : Int32))], [])
theorem pt_X0 : ptOk P_X0 := ⟨(List.forall_mem_cons.mpr ⟨⟨_, rfl, by decide, wsC_at 108 (by decide +kernel) rfl⟩, (List.forall_mem_cons.mpr ⟨⟨_, rfl, by decide, wsC_at 111 (by decide +kernel) rfl⟩, (List.forall_mem_cons.mpr ⟨⟨_, rfl, by decide, wsC_at 114 (by decide +kernel) rfl⟩, (List.forall_mem_cons.mpr ⟨⟨_, rfl, by decide, wsC_at 117 (by decide +kernel) rfl⟩, (List.forall_mem_cons.mpr ⟨⟨_, rfl, by decide, wsC_at 120 (by decide +kernel) rfl⟩, (List.forall_mem_cons.mpr ⟨⟨_, rfl, by decide, wsC_at 134 (by decide +kernel) rfl⟩, (List.forall_mem_cons.mpr ⟨⟨_, rfl, by decide, wsC_at 137 (by decide +kernel) rfl⟩, (List.forall_mem_cons.mpr ⟨⟨_, rfl, by decide, wsC_at 140 (by decide +kernel) rfl⟩, (List.forall_mem_cons.mpr ⟨⟨_, rfl, by decide, wsC_at 143 (by decide +kernel) rfl⟩, (List.forall_mem_cons.mpr ⟨⟨_, rfl, by decide, wsC_at 162 (by decide +kernel) rfl⟩, (List.forall_mem_cons.mpr ⟨⟨_, rfl, by decide, wsC_at 164 (by decide +kernel) rfl⟩, (List.forall_mem_cons.mpr ⟨⟨_, rfl, by decide, wsC_at 165 (by decide +kernel) rfl⟩, (List.forall_mem_cons.mpr ⟨⟨_, rfl, by decide, wsC_at 168 (by decide +kernel) rfl⟩, (List.forall_mem_cons.mpr ⟨⟨_, rfl, by decide, wsC_at 169 (by decide +kernel) rfl⟩, (List.forall_mem_cons.mpr ⟨⟨_, rfl, by decide, wsC_at 170 (by decide +kernel) rfl⟩, (List.forall_mem_cons.mpr ⟨⟨_, rfl, by decide, wsC_at 172 (by decide +kernel) rfl⟩, (List.forall_mem_cons.mpr ⟨⟨_, rfl, by decide, wsC_at 173 (by decide +kernel) rfl⟩, (List.forall_mem_cons.mpr ⟨⟨_, rfl, by decide, wsC_at 174 (by decide +kernel) rfl⟩, (List.forall_mem_cons.mpr ⟨⟨_, rfl, by decide, wsC_at 176 (by decide +kernel) rfl⟩, (List.forall_mem_cons.mpr ⟨⟨_, rfl, by decide, wsC_at 178 (by decide +kernel) rfl⟩, (List.forall_mem_cons.mpr ⟨⟨_, rfl, by decide, wsC_at 180 (by decide +kernel) rfl⟩, (List.forall_mem_cons.mpr ⟨⟨_, rfl, by decide, wsC_at 182 (by decide +kernel) rfl⟩, (List.forall_mem_cons.mpr ⟨⟨_, rfl, by decide, wsC_at 184 (by decide +kernel) rfl⟩, (fun _ h => absurd h List.not_mem_nil)⟩)⟩)⟩)⟩)⟩)⟩)⟩)⟩)⟩)⟩)⟩)⟩)⟩)⟩)⟩)⟩)⟩)⟩)⟩)⟩)⟩)⟩)⟩), (List.forall_mem_cons.mpr ⟨wsC_at 464 (by decide +kernel) rfl, (fun _ h => absurd h List.not_mem_nil)⟩), (fun _ h => absurd h List.not_mem_nil)⟩
def P_X1 : PT := (RX1, [(18, 1, 0), (24, 1, 1), (27, 1, 2), (30, 1, 3), (33, 1, 4)], [], [])
theorem pt_X1 : ptOk P_X1 := ⟨(List.forall_mem_cons.mpr ⟨⟨_, rfl, by decide, wsC_at 107 (by decide +kernel) rfl⟩, (List.forall_mem_cons.mpr ⟨⟨_, rfl, by decide, wsC_at 110 (by decide +kernel) rfl⟩, (List.forall_mem_cons.mpr ⟨⟨_, rfl, by decide, wsC_at 113 (by decide +kernel) rfl⟩, (List.forall_mem_cons.mpr ⟨⟨_, rfl, by decide, wsC_at 116 (by decide +kernel) rfl⟩, (List.forall_mem_cons.mpr ⟨⟨_, rfl, by decide, wsC_at 119 (by decide +kernel) rfl⟩, (fun _ h => absurd h List.not_mem_nil)⟩)⟩)⟩)⟩)⟩), (fun _ h => absurd h List.not_mem_nil), (fun _ h => absurd h List.not_mem_nil)⟩
def P_X2 : PT := (RX2, [(22, 0, 2), (9, 2, 0), (15, 2, 1), (18, 2, 2)], [], [])
theorem pt_X2 : ptOk P_X2 := ⟨(List.forall_mem_cons.mpr ⟨⟨_, rfl, by decide, wsC_at 166 (by decide +kernel) rfl⟩, (List.forall_mem_cons.mpr ⟨⟨_, rfl, by decide, wsC_at 249 (by decide +kernel) rfl⟩, (List.forall_mem_cons.mpr ⟨⟨_, rfl, by decide, wsC_at 250 (by decide +kernel) rfl⟩, (List.forall_mem_cons.mpr ⟨⟨_, rfl, by decide, wsC_at 251 (by decide +kernel) rfl⟩, (fun _ h => absurd h List.not_mem_nil)⟩)⟩)⟩)⟩), (fun _ h => absurd h List.not_mem_nil), (fun _ h => absurd h List.not_mem_nil)⟩
def P_X3 : PT := (RX3, [(48, 0, 8), (41, 0, 13), (12, 3, 0), (18, 3, 1), (22, 3, 2), (25, 3, 3), (30, 3, 4)], [(29, (1000000 : Int32))], [])
theorem pt_X3 : ptOk P_X3 := ⟨(List.forall_mem_cons.mpr ⟨⟨_, rfl, by decide, wsC_at 175 (by decide +kernel) rfl⟩, (List.forall_mem_cons.mpr ⟨⟨_, rfl, by decide, wsC_at 185 (by decide +kernel) rfl⟩, (List.forall_mem_cons.mpr ⟨⟨_, rfl, by decide, wsC_at 225 (by decide +kernel) rfl⟩, (List.forall_mem_cons.mpr ⟨⟨_, rfl, by decide, wsC_at 226 (by decide +kernel) rfl⟩, (List.forall_mem_cons.mpr ⟨⟨_, rfl, by decide, wsC_at 227 (by decide +kernel) rfl⟩, (List.forall_mem_cons.mpr ⟨⟨_, rfl, by decide, wsC_at 229 (by decide +kernel) rfl⟩, (List.forall_mem_cons.mpr ⟨⟨_, rfl, by decide, wsC_at 230 (by decide +kernel) rfl⟩, (fun _ h => absurd h List.not_mem_nil)⟩)⟩)⟩)⟩)⟩)⟩)⟩), (List.forall_mem_cons.mpr ⟨wsC_at 224 (by decide +kernel) rfl, (fun _ h => absurd h List.not_mem_nil)⟩), (fun _ h => absurd h List.not_mem_nil)⟩
def P_X4 : PT := (RX4, [(9, 4, 0), (15, 4, 1), (19, 4, 2), (23, 4, 3)], [], [])
theorem pt_X4 : ptOk P_X4 := ⟨(List.forall_mem_cons.mpr ⟨⟨_, rfl, by decide, wsC_at 77 (by decide +kernel) rfl⟩, (List.forall_mem_cons.mpr ⟨⟨_, rfl, by decide, wsC_at 79 (by decide +kernel) rfl⟩, (List.forall_mem_cons.mpr ⟨⟨_, rfl, by decide, wsC_at 81 (by decide +kernel) rfl⟩, (List.forall_mem_cons.mpr ⟨⟨_, rfl, by decide, wsC_at 83 (by decide +kernel) rfl⟩, (fun _ h => absurd h List.not_mem_nil)⟩)⟩)⟩)⟩), (fun _ h => absurd h List.not_mem_nil), (fun _ h => absurd h List.not_mem_nil)⟩
def P_X5 : PT := (RX5, [(11, 5, 0), (18, 5, 1), (22, 5, 2), (25, 5, 3)], [], [])
theorem pt_X5 : ptOk P_X5 := ⟨(List.forall_mem_cons.mpr ⟨⟨_, rfl, by decide, wsC_at 133 (by decide +kernel) rfl⟩, (List.forall_mem_cons.mpr ⟨⟨_, rfl, by decide, wsC_at 136 (by decide +kernel) rfl⟩, (List.forall_mem_cons.mpr ⟨⟨_, rfl, by decide, wsC_at 139 (by decide +kernel) rfl⟩, (List.forall_mem_cons.mpr ⟨⟨_, rfl, by decide, wsC_at 142 (by decide +kernel) rfl⟩, (fun _ h => absurd h List.not_mem_nil)⟩)⟩)⟩)⟩), (fun _ h => absurd h List.not_mem_nil), (fun _ h => absurd h List.not_mem_nil)⟩
def P_J7 : PT := (RJ7, [], [], [])
theorem pt_J7 : ptOk P_J7 := ⟨(fun _ h => absurd h List.not_mem_nil), (fun _ h => absurd h List.not_mem_nil), (fun _ h => absurd h List.not_mem_nil)⟩
theorem wd_s_X6_111 : sOk RX6 111 yX6_isWithin prog_1_method_30_code 3 (some .boolean) 3 := ⟨(wsC_at 289 (by decide +kernel) rfl), (wsC_at 290 (by decide +kernel) rfl), (wsC_at 51 (by decide +kernel) rfl), (wsC_at 291 (by decide +kernel) rfl), by decide +kernel⟩
theorem wd_v_X4_41 : vOk RX4 41 RX4 yX4_holds prog_6_method_3_code 3 (some .boolean) 2 := ⟨(wsC_at 299 (by decide +kernel) rfl), (wsC_at 300 (by decide +kernel) rfl), (wsC_at 301 (by decide +kernel) rfl), (wsC_at 52 (by decide +kernel) rfl), (wsC_at 302 (by decide +kernel) rfl), by decide +kernel⟩
theorem wd_s_X6_243 : sOk RX6 243 yX6_isDigit prog_1_method_48_code 3 (some .boolean) 3 := ⟨(wsC_at 317 (by decide +kernel) rfl), (wsC_at 318 (by decide +kernel) rfl), (wsC_at 51 (by decide +kernel) rfl), (wsC_at 319 (by decide +kernel) rfl), by decide +kernel⟩
theorem wd_s_X6_240 : sOk RX6 240 yX6_goesOn prog_1_method_47_code 2 (some .boolean) 2 := ⟨(wsC_at 314 (by decide +kernel) rfl), (wsC_at 315 (by decide +kernel) rfl), (wsC_at 51 (by decide +kernel) rfl), (wsC_at 316 (by decide +kernel) rfl), by decide +kernel⟩
theorem wd_v_X6_207 : vOk RX6 207 RX4 yX4_at prog_6_method_5_code 2 (some .int) 1 := ⟨(wsC_at 310 (by decide +kernel) rfl), (wsC_at 311 (by decide +kernel) rfl), (wsC_at 312 (by decide +kernel) rfl), (wsC_at 52 (by decide +kernel) rfl), (wsC_at 313 (by decide +kernel) rfl), by decide +kernel⟩
theorem wd_ml_X5_34 : Cond.methodLink RX5 34 Lib.Math.min.name ∈ wsC := (wsC_at 325 (by decide +kernel) rfl)
theorem wd_st_min : Cond.static Lib.Math.min.name ∈ wsC := (wsC_at 326 (by decide +kernel) rfl)
theorem wd_in_Math : Cond.initialized "java/lang/Math" ∈ wsC := (wsC_at 59 (by decide +kernel) rfl)
theorem wd_co_min : Cond.code Lib.Math.min.name Lib.Math.min.code 2 (some .int) ∈ wsC := (wsC_at 327 (by decide +kernel) rfl)
theorem wd_v_X1_7 : vOk RX1 7 RX4 yX4_at prog_6_method_5_code 2 (some .int) 1 := ⟨(wsC_at 332 (by decide +kernel) rfl), (wsC_at 311 (by decide +kernel) rfl), (wsC_at 312 (by decide +kernel) rfl), (wsC_at 52 (by decide +kernel) rfl), (wsC_at 313 (by decide +kernel) rfl), by decide +kernel⟩
theorem wd_n_X1_13 : nOk RX1 13 "HeronFord" yX6_kindOf prog_1_method_49_code 1 (some .int) 1 := ⟨List.mem_filter.mpr ⟨List.mem_of_getElem? (i := 333) (by decide +kernel), rfl⟩, (wsC_at 334 (by decide +kernel) rfl), (wsC_at 51 (by decide +kernel) rfl), (wsC_at 335 (by decide +kernel) rfl), by decide +kernel⟩
theorem wd_v_X5_40 : vOk RX5 40 RX1 yX1_take prog_3_method_2_code 3 none 2 := ⟨(wsC_at 328 (by decide +kernel) rfl), (wsC_at 329 (by decide +kernel) rfl), (wsC_at 330 (by decide +kernel) rfl), (wsC_at 54 (by decide +kernel) rfl), (wsC_at 331 (by decide +kernel) rfl), by decide +kernel⟩
theorem wd_v_X5_28 : vOk RX5 28 RX4 yX4_at prog_6_method_5_code 2 (some .int) 1 := ⟨(wsC_at 324 (by decide +kernel) rfl), (wsC_at 311 (by decide +kernel) rfl), (wsC_at 312 (by decide +kernel) rfl), (wsC_at 52 (by decide +kernel) rfl), (wsC_at 313 (by decide +kernel) rfl), by decide +kernel⟩
theorem wd_v_X6_79 : vOk RX6 79 RX3 yX3_forget prog_5_method_2_code 1 none 0 := ⟨(wsC_at 336 (by decide +kernel) rfl), (wsC_at 337 (by decide +kernel) rfl), (wsC_at 338 (by decide +kernel) rfl), (wsC_at 56 (by decide +kernel) rfl), (wsC_at 339 (by decide +kernel) rfl), by decide +kernel⟩
theorem wd_v_X6_72 : vOk RX6 72 RX5 yX5_take prog_7_method_3_code 5 none 3 := ⟨(wsC_at 320 (by decide +kernel) rfl), (wsC_at 321 (by decide +kernel) rfl), (wsC_at 322 (by decide +kernel) rfl), (wsC_at 53 (by decide +kernel) rfl), (wsC_at 323 (by decide +kernel) rfl), by decide +kernel⟩
theorem wd_s_X6_68 : sOk RX6 68 yX6_firstFault prog_1_method_46_code 4 (some .int) 3 := ⟨(wsC_at 307 (by decide +kernel) rfl), (wsC_at 308 (by decide +kernel) rfl), (wsC_at 51 (by decide +kernel) rfl), (wsC_at 309 (by decide +kernel) rfl), by decide +kernel⟩
theorem wd_v_X6_64 : vOk RX6 64 RX6 yX6_faulty prog_1_method_36_code 2 (some .int) 1 := ⟨(wsC_at 303 (by decide +kernel) rfl), (wsC_at 305 (by decide +kernel) rfl), (wsC_at 0 (by decide +kernel) rfl), (wsC_at 51 (by decide +kernel) rfl), (wsC_at 306 (by decide +kernel) rfl), by decide +kernel⟩
theorem wd_v_X6_60 : vOk RX6 60 RX4 yX4_faultAt prog_6_method_4_code 4 (some .int) 3 := ⟨(wsC_at 295 (by decide +kernel) rfl), (wsC_at 296 (by decide +kernel) rfl), (wsC_at 297 (by decide +kernel) rfl), (wsC_at 52 (by decide +kernel) rfl), (wsC_at 298 (by decide +kernel) rfl), by decide +kernel⟩
theorem wd_s_X6_57 : sOk RX6 57 yX6_isLane prog_1_method_32_code 1 (some .boolean) 1 := ⟨(wsC_at 292 (by decide +kernel) rfl), (wsC_at 293 (by decide +kernel) rfl), (wsC_at 51 (by decide +kernel) rfl), (wsC_at 294 (by decide +kernel) rfl), by decide +kernel⟩
theorem wd_s_X6_53 : sOk RX6 53 yX6_isSheet prog_1_method_31_code 1 (some .boolean) 1 := ⟨(wsC_at 286 (by decide +kernel) rfl), (wsC_at 287 (by decide +kernel) rfl), (wsC_at 51 (by decide +kernel) rfl), (wsC_at 288 (by decide +kernel) rfl), by decide +kernel⟩
theorem wd_s_X6_107 : sOk RX6 107 yX6_shareOf prog_1_method_35_code 2 (some .int) 2 := ⟨(wsC_at 348 (by decide +kernel) rfl), (wsC_at 349 (by decide +kernel) rfl), (wsC_at 51 (by decide +kernel) rfl), (wsC_at 350 (by decide +kernel) rfl), by decide +kernel⟩
theorem wd_v_X6_83 : vOk RX6 83 RX5 yX5_has prog_7_method_2_code 2 (some .boolean) 1 := ⟨(wsC_at 344 (by decide +kernel) rfl), (wsC_at 345 (by decide +kernel) rfl), (wsC_at 346 (by decide +kernel) rfl), (wsC_at 53 (by decide +kernel) rfl), (wsC_at 347 (by decide +kernel) rfl), by decide +kernel⟩
theorem wd_s_X0_78 : sOk RX0 78 yJ7_fill_53178 prog_12_method_103_code 4 none 2 := ⟨(wsC_at 379 (by decide +kernel) rfl), (wsC_at 380 (by decide +kernel) rfl), (wsC_at 60 (by decide +kernel) rfl), (wsC_at 381 (by decide +kernel) rfl), by decide +kernel⟩
theorem wd_v_X0_121 : vOk RX0 121 RX0 yX0_isBelow prog_2_method_13_code 2 (some .boolean) 1 := ⟨(wsC_at 400 (by decide +kernel) rfl), (wsC_at 401 (by decide +kernel) rfl), (wsC_at 402 (by decide +kernel) rfl), (wsC_at 55 (by decide +kernel) rfl), (wsC_at 403 (by decide +kernel) rfl), by decide +kernel⟩
theorem wd_n_X0_118 : nOk RX0 118 "HeronFord" yX6_shareOf prog_1_method_35_code 2 (some .int) 2 := ⟨List.mem_filter.mpr ⟨List.mem_of_getElem? (i := 399) (by decide +kernel), rfl⟩, (wsC_at 349 (by decide +kernel) rfl), (wsC_at 51 (by decide +kernel) rfl), (wsC_at 350 (by decide +kernel) rfl), by decide +kernel⟩
theorem wd_v_X0_108 : vOk RX0 108 RX0 yX0_hasNewSong prog_2_method_9_code 2 (some .boolean) 1 := ⟨(wsC_at 404 (by decide +kernel) rfl), (wsC_at 406 (by decide +kernel) rfl), (wsC_at 4 (by decide +kernel) rfl), (wsC_at 55 (by decide +kernel) rfl), (wsC_at 407 (by decide +kernel) rfl), by decide +kernel⟩
theorem wd_v_X0_112 : vOk RX0 112 RX0 yX0_hasSecret prog_2_method_10_code 2 (some .boolean) 1 := ⟨(wsC_at 408 (by decide +kernel) rfl), (wsC_at 410 (by decide +kernel) rfl), (wsC_at 5 (by decide +kernel) rfl), (wsC_at 55 (by decide +kernel) rfl), (wsC_at 411 (by decide +kernel) rfl), by decide +kernel⟩
theorem wd_v_X0_115 : vOk RX0 115 RX0 yX0_lenderFor prog_2_method_11_code 4 (some .int) 2 := ⟨(wsC_at 412 (by decide +kernel) rfl), (wsC_at 414 (by decide +kernel) rfl), (wsC_at 6 (by decide +kernel) rfl), (wsC_at 55 (by decide +kernel) rfl), (wsC_at 415 (by decide +kernel) rfl), by decide +kernel⟩
theorem wd_v_X0_97 : vOk RX0 97 RX0 yX0_tollOf prog_2_method_12_code 3 (some .int) 1 := ⟨(wsC_at 395 (by decide +kernel) rfl), (wsC_at 396 (by decide +kernel) rfl), (wsC_at 397 (by decide +kernel) rfl), (wsC_at 55 (by decide +kernel) rfl), (wsC_at 398 (by decide +kernel) rfl), by decide +kernel⟩
theorem wd_v_X0_104 : vOk RX0 104 RX0 yX0_turnWord prog_2_method_8_code 3 none 2 := ⟨(wsC_at 420 (by decide +kernel) rfl), (wsC_at 422 (by decide +kernel) rfl), (wsC_at 8 (by decide +kernel) rfl), (wsC_at 55 (by decide +kernel) rfl), (wsC_at 423 (by decide +kernel) rfl), by decide +kernel⟩
theorem wd_v_X0_100 : vOk RX0 100 RX0 yX0_pay prog_2_method_7_code 4 none 3 := ⟨(wsC_at 416 (by decide +kernel) rfl), (wsC_at 418 (by decide +kernel) rfl), (wsC_at 7 (by decide +kernel) rfl), (wsC_at 55 (by decide +kernel) rfl), (wsC_at 419 (by decide +kernel) rfl), by decide +kernel⟩
theorem wd_v_X0_94 : vOk RX0 94 RX0 yX0_payerOf prog_2_method_6_code 4 (some .int) 2 := ⟨(wsC_at 391 (by decide +kernel) rfl), (wsC_at 393 (by decide +kernel) rfl), (wsC_at 3 (by decide +kernel) rfl), (wsC_at 55 (by decide +kernel) rfl), (wsC_at 394 (by decide +kernel) rfl), by decide +kernel⟩
theorem wd_v_X0_90 : vOk RX0 90 RX0 yX0_pass prog_2_method_4_code 4 (some .int) 2 := ⟨(wsC_at 387 (by decide +kernel) rfl), (wsC_at 388 (by decide +kernel) rfl), (wsC_at 389 (by decide +kernel) rfl), (wsC_at 55 (by decide +kernel) rfl), (wsC_at 390 (by decide +kernel) rfl), by decide +kernel⟩
theorem wd_v_X0_84 : vOk RX0 84 RX4 yX4_at prog_6_method_5_code 2 (some .int) 1 := ⟨(wsC_at 386 (by decide +kernel) rfl), (wsC_at 311 (by decide +kernel) rfl), (wsC_at 312 (by decide +kernel) rfl), (wsC_at 52 (by decide +kernel) rfl), (wsC_at 313 (by decide +kernel) rfl), by decide +kernel⟩
theorem wd_v_X6_174 : vOk RX6 174 RX0 yX0_walk prog_2_method_3_code 5 (some .int) 3 := ⟨(wsC_at 382 (by decide +kernel) rfl), (wsC_at 383 (by decide +kernel) rfl), (wsC_at 384 (by decide +kernel) rfl), (wsC_at 55 (by decide +kernel) rfl), (wsC_at 385 (by decide +kernel) rfl), by decide +kernel⟩
theorem wd_v_X6_170 : vOk RX6 170 RX0 yX0_start prog_2_method_2_code 4 none 1 := ⟨(wsC_at 375 (by decide +kernel) rfl), (wsC_at 376 (by decide +kernel) rfl), (wsC_at 377 (by decide +kernel) rfl), (wsC_at 55 (by decide +kernel) rfl), (wsC_at 378 (by decide +kernel) rfl), by decide +kernel⟩
theorem wd_v_X6_125 : vOk RX6 125 RX6 yX6_walkAsTold prog_1_method_40_code 4 (some .int) 3 := ⟨(wsC_at 371 (by decide +kernel) rfl), (wsC_at 373 (by decide +kernel) rfl), (wsC_at 2 (by decide +kernel) rfl), (wsC_at 51 (by decide +kernel) rfl), (wsC_at 374 (by decide +kernel) rfl), by decide +kernel⟩
theorem wd_v_X6_121 : vOk RX6 121 RX6 yX6_refusalOf prog_1_method_39_code 8 (some .int) 5 := ⟨(wsC_at 367 (by decide +kernel) rfl), (wsC_at 369 (by decide +kernel) rfl), (wsC_at 1 (by decide +kernel) rfl), (wsC_at 51 (by decide +kernel) rfl), (wsC_at 370 (by decide +kernel) rfl), by decide +kernel⟩
theorem wd_v_X6_145 : vOk RX6 145 RX6 yX6_unknownFish prog_1_method_37_code 1 (some .int) 0 := ⟨(wsC_at 432 (by decide +kernel) rfl), (wsC_at 434 (by decide +kernel) rfl), (wsC_at 10 (by decide +kernel) rfl), (wsC_at 51 (by decide +kernel) rfl), (wsC_at 435 (by decide +kernel) rfl), by decide +kernel⟩
theorem wd_v_X6_141 : vOk RX6 141 RX6 yX6_refusalWithFish prog_1_method_38_code 6 (some .int) 5 := ⟨(wsC_at 428 (by decide +kernel) rfl), (wsC_at 430 (by decide +kernel) rfl), (wsC_at 9 (by decide +kernel) rfl), (wsC_at 51 (by decide +kernel) rfl), (wsC_at 431 (by decide +kernel) rfl), by decide +kernel⟩
theorem wd_v_X6_153 : vOk RX6 153 RX0 yX0_tollOf prog_2_method_12_code 3 (some .int) 1 := ⟨(wsC_at 440 (by decide +kernel) rfl), (wsC_at 396 (by decide +kernel) rfl), (wsC_at 397 (by decide +kernel) rfl), (wsC_at 55 (by decide +kernel) rfl), (wsC_at 398 (by decide +kernel) rfl), by decide +kernel⟩
theorem wd_n_X0_127 : nOk RX0 127 "HeronFord" yX6_mayBe prog_1_method_33_code 2 (some .boolean) 2 := ⟨List.mem_filter.mpr ⟨List.mem_of_getElem? (i := 461) (by decide +kernel), rfl⟩, (wsC_at 462 (by decide +kernel) rfl), (wsC_at 51 (by decide +kernel) rfl), (wsC_at 463 (by decide +kernel) rfl), by decide +kernel⟩
theorem wd_v_X0_124 : vOk RX0 124 RX0 yX0_cheapest prog_2_method_15_code 5 (some .int) 2 := ⟨(wsC_at 457 (by decide +kernel) rfl), (wsC_at 459 (by decide +kernel) rfl), (wsC_at 11 (by decide +kernel) rfl), (wsC_at 55 (by decide +kernel) rfl), (wsC_at 460 (by decide +kernel) rfl), by decide +kernel⟩
theorem wd_ml_X3_51 : Cond.methodLink RX3 51 arraycopyName ∈ wsC := (wsC_at 465 (by decide +kernel) rfl)
theorem wd_na_copy : Cond.native arraycopyName ∈ wsC := (wsC_at 467 (by decide +kernel) rfl)
theorem wd_st_copy : Cond.static arraycopyName ∈ wsC := (wsC_at 466 (by decide +kernel) rfl)
theorem wd_in_System : Cond.initialized "java/lang/System" ∈ wsC := (wsC_at 61 (by decide +kernel) rfl)
theorem wd_v_X3_69 : vOk RX3 69 RX0 yX0_unpass prog_2_method_5_code 4 none 3 := ⟨(wsC_at 471 (by decide +kernel) rfl), (wsC_at 472 (by decide +kernel) rfl), (wsC_at 473 (by decide +kernel) rfl), (wsC_at 55 (by decide +kernel) rfl), (wsC_at 474 (by decide +kernel) rfl), by decide +kernel⟩
theorem wd_s_X3_37 : sOk RX3 37 yX3_goOn prog_5_method_4_code 6 none 2 := ⟨(wsC_at 450 (by decide +kernel) rfl), (wsC_at 451 (by decide +kernel) rfl), (wsC_at 56 (by decide +kernel) rfl), (wsC_at 452 (by decide +kernel) rfl), by decide +kernel⟩
theorem wd_v_X3_65 : vOk RX3 65 RX0 yX0_pass prog_2_method_4_code 4 (some .int) 2 := ⟨(wsC_at 470 (by decide +kernel) rfl), (wsC_at 388 (by decide +kernel) rfl), (wsC_at 389 (by decide +kernel) rfl), (wsC_at 55 (by decide +kernel) rfl), (wsC_at 390 (by decide +kernel) rfl), by decide +kernel⟩
theorem wd_n_X3_61 : nOk RX3 61 "HeronFord" yX6_mayBe prog_1_method_33_code 2 (some .boolean) 2 := ⟨List.mem_filter.mpr ⟨List.mem_of_getElem? (i := 469) (by decide +kernel), rfl⟩, (wsC_at 462 (by decide +kernel) rfl), (wsC_at 51 (by decide +kernel) rfl), (wsC_at 463 (by decide +kernel) rfl), by decide +kernel⟩
theorem wd_v_X3_57 : vOk RX3 57 RX0 yX0_isBelow prog_2_method_13_code 2 (some .boolean) 1 := ⟨(wsC_at 468 (by decide +kernel) rfl), (wsC_at 401 (by decide +kernel) rfl), (wsC_at 402 (by decide +kernel) rfl), (wsC_at 55 (by decide +kernel) rfl), (wsC_at 403 (by decide +kernel) rfl), by decide +kernel⟩
theorem wd_v_X3_44 : vOk RX3 44 RX0 yX0_stillDue prog_2_method_14_code 4 (some .int) 1 := ⟨(wsC_at 453 (by decide +kernel) rfl), (wsC_at 454 (by decide +kernel) rfl), (wsC_at 455 (by decide +kernel) rfl), (wsC_at 55 (by decide +kernel) rfl), (wsC_at 456 (by decide +kernel) rfl), by decide +kernel⟩
theorem wd_v_X3_33 : vOk RX3 33 RX0 yX0_start prog_2_method_2_code 4 none 1 := ⟨(wsC_at 449 (by decide +kernel) rfl), (wsC_at 376 (by decide +kernel) rfl), (wsC_at 377 (by decide +kernel) rfl), (wsC_at 55 (by decide +kernel) rfl), (wsC_at 378 (by decide +kernel) rfl), by decide +kernel⟩
theorem wd_v_X6_156 : vOk RX6 156 RX3 yX3_find prog_5_method_3_code 3 none 2 := ⟨(wsC_at 445 (by decide +kernel) rfl), (wsC_at 446 (by decide +kernel) rfl), (wsC_at 447 (by decide +kernel) rfl), (wsC_at 56 (by decide +kernel) rfl), (wsC_at 448 (by decide +kernel) rfl), by decide +kernel⟩
theorem wd_ml_X0_135 : Cond.methodLink RX0 135 Lib.Math.max.name ∈ wsC := (wsC_at 488 (by decide +kernel) rfl)
theorem wd_st_max : Cond.static Lib.Math.max.name ∈ wsC := (wsC_at 489 (by decide +kernel) rfl)
theorem wd_co_max : Cond.code Lib.Math.max.name Lib.Math.max.code 2 (some .int) ∈ wsC := (wsC_at 490 (by decide +kernel) rfl)
theorem wd_v_X0_132 : vOk RX0 132 RX0 yX0_netOf prog_2_method_17_code 4 (some .int) 1 := ⟨(wsC_at 484 (by decide +kernel) rfl), (wsC_at 486 (by decide +kernel) rfl), (wsC_at 12 (by decide +kernel) rfl), (wsC_at 55 (by decide +kernel) rfl), (wsC_at 487 (by decide +kernel) rfl), by decide +kernel⟩
theorem wd_v_X6_167 : vOk RX6 167 RX0 yX0_fewestPayments prog_2_method_16_code 5 (some .int) 0 := ⟨(wsC_at 480 (by decide +kernel) rfl), (wsC_at 481 (by decide +kernel) rfl), (wsC_at 482 (by decide +kernel) rfl), (wsC_at 55 (by decide +kernel) rfl), (wsC_at 483 (by decide +kernel) rfl), by decide +kernel⟩
theorem wd_v_X6_177 : vOk RX6 177 RX2 yX2_add prog_4_method_2_code 3 (some .int) 2 := ⟨(wsC_at 499 (by decide +kernel) rfl), (wsC_at 500 (by decide +kernel) rfl), (wsC_at 501 (by decide +kernel) rfl), (wsC_at 57 (by decide +kernel) rfl), (wsC_at 502 (by decide +kernel) rfl), by decide +kernel⟩
theorem wd_v_X6_236 : vOk RX6 236 RX2 yX2_areSo prog_4_method_3_code 3 (some .boolean) 1 := ⟨(wsC_at 515 (by decide +kernel) rfl), (wsC_at 516 (by decide +kernel) rfl), (wsC_at 517 (by decide +kernel) rfl), (wsC_at 57 (by decide +kernel) rfl), (wsC_at 518 (by decide +kernel) rfl), by decide +kernel⟩
theorem wd_s_X6_183 : sOk RX6 183 yX6_bitIf prog_1_method_34_code 2 (some .int) 2 := ⟨(wsC_at 519 (by decide +kernel) rfl), (wsC_at 520 (by decide +kernel) rfl), (wsC_at 51 (by decide +kernel) rfl), (wsC_at 521 (by decide +kernel) rfl), by decide +kernel⟩
theorem wd_v_X6_180 : vOk RX6 180 RX6 yX6_fits prog_1_method_41_code 4 (some .boolean) 3 := ⟨(wsC_at 511 (by decide +kernel) rfl), (wsC_at 513 (by decide +kernel) rfl), (wsC_at 13 (by decide +kernel) rfl), (wsC_at 51 (by decide +kernel) rfl), (wsC_at 514 (by decide +kernel) rfl), by decide +kernel⟩
theorem wd_ml_X4_32 : Cond.methodLink RX4 32 Lib.Math.max.name ∈ wsC := (wsC_at 544 (by decide +kernel) rfl)
theorem wd_ml_X4_38 : Cond.methodLink RX4 38 Lib.Math.min.name ∈ wsC := (wsC_at 545 (by decide +kernel) rfl)
theorem wd_s_X4_26 : sOk RX4 26 yJ7_fill_53178 prog_12_method_103_code 4 none 2 := ⟨(wsC_at 543 (by decide +kernel) rfl), (wsC_at 380 (by decide +kernel) rfl), (wsC_at 60 (by decide +kernel) rfl), (wsC_at 381 (by decide +kernel) rfl), by decide +kernel⟩
theorem wd_v_X6_192 : vOk RX6 192 RX4 yX4_begin prog_6_method_2_code 3 none 2 := ⟨(wsC_at 539 (by decide +kernel) rfl), (wsC_at 540 (by decide +kernel) rfl), (wsC_at 541 (by decide +kernel) rfl), (wsC_at 52 (by decide +kernel) rfl), (wsC_at 542 (by decide +kernel) rfl), by decide +kernel⟩
theorem wd_v_X4_45 : vOk RX4 45 RX4 yX4_cut prog_6_method_7_code 2 (some .int) 1 := ⟨(wsC_at 559 (by decide +kernel) rfl), (wsC_at 561 (by decide +kernel) rfl), (wsC_at 14 (by decide +kernel) rfl), (wsC_at 52 (by decide +kernel) rfl), (wsC_at 562 (by decide +kernel) rfl), by decide +kernel⟩
theorem wd_v_X6_204 : vOk RX6 204 RX4 yX4_set prog_6_method_6_code 3 none 2 := ⟨(wsC_at 555 (by decide +kernel) rfl), (wsC_at 556 (by decide +kernel) rfl), (wsC_at 557 (by decide +kernel) rfl), (wsC_at 52 (by decide +kernel) rfl), (wsC_at 558 (by decide +kernel) rfl), by decide +kernel⟩
theorem wd_v_X6_200 : vOk RX6 200 RX4 yX4_holds prog_6_method_3_code 3 (some .boolean) 2 := ⟨(wsC_at 554 (by decide +kernel) rfl), (wsC_at 300 (by decide +kernel) rfl), (wsC_at 301 (by decide +kernel) rfl), (wsC_at 52 (by decide +kernel) rfl), (wsC_at 302 (by decide +kernel) rfl), by decide +kernel⟩
theorem wd_ml_X6_216 : Cond.methodLink RX6 216 arraycopyName ∈ wsC := (wsC_at 571 (by decide +kernel) rfl)
theorem wd_v_X6_232 : vOk RX6 232 RX6 yX6_leaveTrace prog_1_method_42_code 2 none 1 := ⟨(wsC_at 580 (by decide +kernel) rfl), (wsC_at 582 (by decide +kernel) rfl), (wsC_at 16 (by decide +kernel) rfl), (wsC_at 51 (by decide +kernel) rfl), (wsC_at 583 (by decide +kernel) rfl), by decide +kernel⟩
theorem wd_v_X6_229 : vOk RX6 229 RX6 yX6_fishsTelling prog_1_method_43_code 2 (some .int) 1 := ⟨(wsC_at 588 (by decide +kernel) rfl), (wsC_at 590 (by decide +kernel) rfl), (wsC_at 18 (by decide +kernel) rfl), (wsC_at 51 (by decide +kernel) rfl), (wsC_at 591 (by decide +kernel) rfl), by decide +kernel⟩
theorem wd_v_X6_226 : vOk RX6 226 RX6 yX6_eelsTelling prog_1_method_44_code 2 (some .int) 1 := ⟨(wsC_at 584 (by decide +kernel) rfl), (wsC_at 586 (by decide +kernel) rfl), (wsC_at 17 (by decide +kernel) rfl), (wsC_at 51 (by decide +kernel) rfl), (wsC_at 587 (by decide +kernel) rfl), by decide +kernel⟩
theorem wd_v_X6_222 : vOk RX6 222 RX6 yX6_pikesTelling prog_1_method_45_code 3 (some .int) 1 := ⟨(wsC_at 576 (by decide +kernel) rfl), (wsC_at 578 (by decide +kernel) rfl), (wsC_at 15 (by decide +kernel) rfl), (wsC_at 51 (by decide +kernel) rfl), (wsC_at 579 (by decide +kernel) rfl), by decide +kernel⟩
end
section
/-! ===== printed by wip/whole/tr.py out of the listing ===== -/
def f_X6_isWithin (x0 : Int32) (x1 : Int32) (x2 : Int32) (m : Mem) : Option (Int32 × Mem) :=
  if x0 < x1 then
    some ((0 : Int32), m)
  else
    if x2 < x0 then
      some ((0 : Int32), m)
    else
      some ((1 : Int32), m)
theorem g_X6_isWithin {X : XT} (h : MX X prog_1_method_30_code P_X6 0 (some .boolean)) (x0 : Int32) (x1 : Int32) (x2 : Int32) (m : Mem) : Go X (Em X puI) 0 [some (.inl x0), some (.inl x1), some (.inl x2)] [] m (f_X6_isWithin x0 x1 x2 m) := by
  unfold f_X6_isWithin
  refine go_blk h.1 (is := [.iload_n 0, .iload_n 1]) (pc' := 2) (ls' := [some (.inl x0), some (.inl x1), some (.inl x2)]) (st' := [.inl x1, .inl x0]) (m' := m) (by decide +kernel) rfl ?_
  refine go_icmplt h.1 (off := 12) 14 (by decide +kernel) (by decide) (fun c2 => ?_) (fun c2 => ?_)
  · refine go_blk h.1 (is := [.iconst 0]) (pc' := 15) (ls' := [some (.inl x0), some (.inl x1), some (.inl x2)]) (st' := [.inl (0 : Int32)]) (m' := m) (by decide +kernel) rfl ?_
    exact go_zret h.1 h.2.2.2.2 (Or.inl rfl) (by decide +kernel)
  · refine go_blk h.1 (is := [.iload_n 0, .iload_n 2]) (pc' := 7) (ls' := [some (.inl x0), some (.inl x1), some (.inl x2)]) (st' := [.inl x2, .inl x0]) (m' := m) (by decide +kernel) rfl ?_
    refine go_icmpgt h.1 (off := 7) 14 (by decide +kernel) (by decide) (fun c7 => ?_) (fun c7 => ?_)
    · refine go_blk h.1 (is := [.iconst 0]) (pc' := 15) (ls' := [some (.inl x0), some (.inl x1), some (.inl x2)]) (st' := [.inl (0 : Int32)]) (m' := m) (by decide +kernel) rfl ?_
      exact go_zret h.1 h.2.2.2.2 (Or.inl rfl) (by decide +kernel)
    · refine go_blk h.1 (is := [.iconst 1]) (pc' := 11) (ls' := [some (.inl x0), some (.inl x1), some (.inl x2)]) (st' := [.inl (1 : Int32)]) (m' := m) (by decide +kernel) rfl ?_
      refine go_goto h.1 (off := 4) 15 (by decide +kernel) (by decide) ?_
      exact go_zret h.1 h.2.2.2.2 (Or.inr rfl) (by decide +kernel)
theorem ctr_X6_isWithin (l : Launch) (A : AR → Nat) (dC : Nat → ClassId) (dI : Nat → Nat → Nat) (cs : Nat → ClassId) (x0 : Int32) (x1 : Int32) (x2 : Int32) (m : Mem) : Ctr l A dC dI cs yX6_isWithin prog_1_method_30_code 3 (some .boolean) 0 puI [.inl x0, .inl x1, .inl x2] m (f_X6_isWithin x0 x1 x2 m) :=
  ctr_of (P := P_X6) (by decide +kernel) rfl pt_X6 rfl rfl (fun X hC _ _ _ _ _ hR h0 h1 hr => g_X6_isWithin ⟨hC, hR, h0, h1, hr⟩ x0 x1 x2 m)

def f_X6_isSheet (x0 : Int32) (m : Mem) : Option (Int32 × Mem) :=
  bnd (f_X6_isWithin x0 (0 : Int32) (3 : Int32) m) (fun r3 m3 =>
    if r3 = 0 ∨ r3 = 1 then some (r3, m3) else none)
theorem g_X6_isSheet {X : XT} (h : MX X prog_1_method_31_code P_X6 1 (some .boolean)) (x0 : Int32) (m : Mem) : Go X (Em X puI) 0 [some (.inl x0)] [] m (f_X6_isSheet x0 m) := by
  unfold f_X6_isSheet
  refine go_blk h.1 (is := [.iload_n 0, .iconst 0, .iconst 3]) (pc' := 3) (ls' := [some (.inl x0)]) (st' := [.inl (3 : Int32), .inl (0 : Int32), .inl x0]) (m' := m) (by decide +kernel) rfl ?_
  refine go_callS h.1 (index := 111) (n := 3) (as := [.inl x0, .inl (0 : Int32), .inl (3 : Int32)]) (rest := []) (ctr_X6_isWithin (xl X) (xA X) (xC X) (xI X) (xk X) x0 (0 : Int32) (3 : Int32) m) (by decide +kernel) wd_s_X6_111 rfl (h.room (by first | decide | omega) (by decide)) h.cl (Nat.le_of_ble_eq_true rfl) puI_ok rfl (fun r3 m3 _ => ?_)
  show Go X (Em X puI) 6 [some (.inl x0)] [.inl r3] m3 _
  exact go_zretG h.1 h.2.2.2.2 (by decide +kernel)
theorem ctr_X6_isSheet (l : Launch) (A : AR → Nat) (dC : Nat → ClassId) (dI : Nat → Nat → Nat) (cs : Nat → ClassId) (x0 : Int32) (m : Mem) : Ctr l A dC dI cs yX6_isSheet prog_1_method_31_code 1 (some .boolean) 1 puI [.inl x0] m (f_X6_isSheet x0 m) :=
  ctr_of (P := P_X6) (by decide +kernel) rfl pt_X6 rfl rfl (fun X hC _ _ _ _ _ hR h0 h1 hr => g_X6_isSheet ⟨hC, hR, h0, h1, hr⟩ x0 m)

def f_X6_isLane (x0 : Int32) (m : Mem) : Option (Int32 × Mem) :=
  bnd (f_X6_isWithin x0 (0 : Int32) (2 : Int32) m) (fun r3 m3 =>
    if r3 = 0 ∨ r3 = 1 then some (r3, m3) else none)
theorem g_X6_isLane {X : XT} (h : MX X prog_1_method_32_code P_X6 1 (some .boolean)) (x0 : Int32) (m : Mem) : Go X (Em X puI) 0 [some (.inl x0)] [] m (f_X6_isLane x0 m) := by
  unfold f_X6_isLane
  refine go_blk h.1 (is := [.iload_n 0, .iconst 0, .iconst 2]) (pc' := 3) (ls' := [some (.inl x0)]) (st' := [.inl (2 : Int32), .inl (0 : Int32), .inl x0]) (m' := m) (by decide +kernel) rfl ?_
  refine go_callS h.1 (index := 111) (n := 3) (as := [.inl x0, .inl (0 : Int32), .inl (2 : Int32)]) (rest := []) (ctr_X6_isWithin (xl X) (xA X) (xC X) (xI X) (xk X) x0 (0 : Int32) (2 : Int32) m) (by decide +kernel) wd_s_X6_111 rfl (h.room (by first | decide | omega) (by decide)) h.cl (Nat.le_of_ble_eq_true rfl) puI_ok rfl (fun r3 m3 _ => ?_)
  show Go X (Em X puI) 6 [some (.inl x0)] [.inl r3] m3 _
  exact go_zretG h.1 h.2.2.2.2 (by decide +kernel)
theorem ctr_X6_isLane (l : Launch) (A : AR → Nat) (dC : Nat → ClassId) (dI : Nat → Nat → Nat) (cs : Nat → ClassId) (x0 : Int32) (m : Mem) : Ctr l A dC dI cs yX6_isLane prog_1_method_32_code 1 (some .boolean) 1 puI [.inl x0] m (f_X6_isLane x0 m) :=
  ctr_of (P := P_X6) (by decide +kernel) rfl pt_X6 rfl rfl (fun X hC _ _ _ _ _ hR h0 h1 hr => g_X6_isLane ⟨hC, hR, h0, h1, hr⟩ x0 m)

def f_X4_holds (w : Nat) (x1 : Int32) (x2 : Int32) (m : Mem) : Option (Int32 × Mem) :=
  if x1 < 0 then
    some ((0 : Int32), m)
  else
    if x2 < 0 then
      some ((0 : Int32), m)
    else
      if ((m 2 w 3) - x2) < x1 then
        some ((0 : Int32), m)
      else
        some ((1 : Int32), m)
theorem g_X4_holds {X : XT} (h : MX X prog_6_method_3_code P_X4 0 (some .boolean)) (w : Nat) (x1 : Int32) (x2 : Int32) (m : Mem) : Go X (Em X puI) 0 [some (.inr (.inr (2, w))), some (.inl x1), some (.inl x2)] [] m (f_X4_holds w x1 x2 m) := by
  unfold f_X4_holds
  refine go_blk h.1 (is := [.iload_n 1]) (pc' := 1) (ls' := [some (.inr (.inr (2, w))), some (.inl x1), some (.inl x2)]) (st' := [.inl x1]) (m' := m) (by decide +kernel) rfl ?_
  refine go_iflt h.1 (off := 21) 22 (by decide +kernel) (by decide) (fun c1 => ?_) (fun c1 => ?_)
  · refine go_blk h.1 (is := [.iconst 0]) (pc' := 23) (ls' := [some (.inr (.inr (2, w))), some (.inl x1), some (.inl x2)]) (st' := [.inl (0 : Int32)]) (m' := m) (by decide +kernel) rfl ?_
    exact go_zret h.1 h.2.2.2.2 (Or.inl rfl) (by decide +kernel)
  · refine go_blk h.1 (is := [.iload_n 2]) (pc' := 5) (ls' := [some (.inr (.inr (2, w))), some (.inl x1), some (.inl x2)]) (st' := [.inl x2]) (m' := m) (by decide +kernel) rfl ?_
    refine go_iflt h.1 (off := 17) 22 (by decide +kernel) (by decide) (fun c5 => ?_) (fun c5 => ?_)
    · refine go_blk h.1 (is := [.iconst 0]) (pc' := 23) (ls' := [some (.inr (.inr (2, w))), some (.inl x1), some (.inl x2)]) (st' := [.inl (0 : Int32)]) (m' := m) (by decide +kernel) rfl ?_
      exact go_zret h.1 h.2.2.2.2 (Or.inl rfl) (by decide +kernel)
    · refine go_blk h.1 (is := [.iload_n 1, .aload_n 0, .getfield 23, .iload_n 2, .isub]) (pc' := 15) (ls' := [some (.inr (.inr (2, w))), some (.inl x1), some (.inl x2)]) (st' := [.inl ((m 2 w 3) - x2), .inl x1]) (m' := m) (by decide +kernel) rfl ?_
      refine go_icmpgt h.1 (off := 7) 22 (by decide +kernel) (by decide) (fun c15 => ?_) (fun c15 => ?_)
      · refine go_blk h.1 (is := [.iconst 0]) (pc' := 23) (ls' := [some (.inr (.inr (2, w))), some (.inl x1), some (.inl x2)]) (st' := [.inl (0 : Int32)]) (m' := m) (by decide +kernel) rfl ?_
        exact go_zret h.1 h.2.2.2.2 (Or.inl rfl) (by decide +kernel)
      · refine go_blk h.1 (is := [.iconst 1]) (pc' := 19) (ls' := [some (.inr (.inr (2, w))), some (.inl x1), some (.inl x2)]) (st' := [.inl (1 : Int32)]) (m' := m) (by decide +kernel) rfl ?_
        refine go_goto h.1 (off := 4) 23 (by decide +kernel) (by decide) ?_
        exact go_zret h.1 h.2.2.2.2 (Or.inr rfl) (by decide +kernel)
theorem ctr_X4_holds (l : Launch) (A : AR → Nat) (dC : Nat → ClassId) (dI : Nat → Nat → Nat) (cs : Nat → ClassId) (w : Nat) (x1 : Int32) (x2 : Int32) (m : Mem) : Ctr l A dC dI cs yX4_holds prog_6_method_3_code 3 (some .boolean) 0 puI [.inr (.inr (2, w)), .inl x1, .inl x2] m (f_X4_holds w x1 x2 m) :=
  ctr_of (P := P_X4) (by decide +kernel) rfl pt_X4 rfl rfl (fun X hC _ _ _ _ _ hR h0 h1 hr => g_X4_holds ⟨hC, hR, h0, h1, hr⟩ w x1 x2 m)

def f_X4_faultAt (w : Nat) (x1 : Int32) (x2 : Int32) (x3 : Int32) (m : Mem) : Option (Int32 × Mem) :=
  if (m 2 w 1) = 0 then
    some ((1 : Int32), m)
  else
    if (m 2 w 2) = x1 then
      if 0 ≤ x3 then
        bnd (f_X4_holds w x2 x3 m) (fun r28 m28 =>
          if r28 = 0 then
            some ((3 : Int32), m28)
          else
            some ((0 : Int32), m28))
      else
        some ((4 : Int32), m)
    else
      some ((2 : Int32), m)
theorem g_X4_faultAt {X : XT} (h : MX X prog_6_method_4_code P_X4 1 (some .int)) (w : Nat) (x1 : Int32) (x2 : Int32) (x3 : Int32) (m : Mem) : Go X (Em X puI) 0 [some (.inr (.inr (2, w))), some (.inl x1), some (.inl x2), some (.inl x3)] [] m (f_X4_faultAt w x1 x2 x3 m) := by
  unfold f_X4_faultAt
  refine go_blk h.1 (is := [.aload_n 0, .getfield 15]) (pc' := 4) (ls' := [some (.inr (.inr (2, w))), some (.inl x1), some (.inl x2), some (.inl x3)]) (st' := [.inl (m 2 w 1)]) (m' := m) (by decide +kernel) rfl ?_
  refine go_ifne h.1 (off := 5) 9 (by decide +kernel) (by decide) (fun c4 => ?_) (fun c4 => ?_)
  · refine go_blk h.1 (is := [.aload_n 0, .getfield 19, .iload_n 1]) (pc' := 14) (ls' := [some (.inr (.inr (2, w))), some (.inl x1), some (.inl x2), some (.inl x3)]) (st' := [.inl x1, .inl (m 2 w 2)]) (m' := m) (by decide +kernel) rfl ?_
    refine go_icmpeq h.1 (off := 5) 19 (by decide +kernel) (by decide) (fun c14 => ?_) (fun c14 => ?_)
    · refine go_blk h.1 (is := [.iload_n 3]) (pc' := 20) (ls' := [some (.inr (.inr (2, w))), some (.inl x1), some (.inl x2), some (.inl x3)]) (st' := [.inl x3]) (m' := m) (by decide +kernel) rfl ?_
      refine go_ifge h.1 (off := 5) 25 (by decide +kernel) (by decide) (fun c20 => ?_) (fun c20 => ?_)
      · refine go_blk h.1 (is := [.aload_n 0, .iload_n 2, .iload_n 3]) (pc' := 28) (ls' := [some (.inr (.inr (2, w))), some (.inl x1), some (.inl x2), some (.inl x3)]) (st' := [.inl x3, .inl x2, .inr (.inr (2, w))]) (m' := m) (by decide +kernel) rfl ?_
        refine go_callV h.1 (index := 41) (n := 2) (t := 2) (i := w) (ci := 4) (nf := 4) (cz := (RX4, TX4, 4)) (as := [.inl x2, .inl x3]) (rest := []) (ctr_X4_holds (xl X) (xA X) (xC X) (xI X) (xk X) w x2 x3 m) (by decide +kernel) rfl rfl wd_v_X4_41 rfl (h.room (by first | decide | omega) (by decide)) h.cl (Nat.le_of_ble_eq_true rfl) puI_ok rfl (fun r28 m28 _ => ?_)
        show Go X (Em X puI) 31 [some (.inr (.inr (2, w))), some (.inl x1), some (.inl x2), some (.inl x3)] [.inl r28] m28 _
        refine go_ifeq h.1 (off := 7) 38 (by decide +kernel) (by decide) (fun c31 => ?_) (fun c31 => ?_)
        · refine go_blk h.1 (is := [.iconst 3]) (pc' := 39) (ls' := [some (.inr (.inr (2, w))), some (.inl x1), some (.inl x2), some (.inl x3)]) (st' := [.inl (3 : Int32)]) (m' := m28) (by decide +kernel) rfl ?_
          exact go_iret h.1 h.2.2.2.2 (by decide +kernel)
        · refine go_blk h.1 (is := [.iconst 0]) (pc' := 35) (ls' := [some (.inr (.inr (2, w))), some (.inl x1), some (.inl x2), some (.inl x3)]) (st' := [.inl (0 : Int32)]) (m' := m28) (by decide +kernel) rfl ?_
          refine go_goto h.1 (off := 4) 39 (by decide +kernel) (by decide) ?_
          exact go_iret h.1 h.2.2.2.2 (by decide +kernel)
      · refine go_blk h.1 (is := [.iconst 4]) (pc' := 24) (ls' := [some (.inr (.inr (2, w))), some (.inl x1), some (.inl x2), some (.inl x3)]) (st' := [.inl (4 : Int32)]) (m' := m) (by decide +kernel) rfl ?_
        exact go_iret h.1 h.2.2.2.2 (by decide +kernel)
    · refine go_blk h.1 (is := [.iconst 2]) (pc' := 18) (ls' := [some (.inr (.inr (2, w))), some (.inl x1), some (.inl x2), some (.inl x3)]) (st' := [.inl (2 : Int32)]) (m' := m) (by decide +kernel) rfl ?_
      exact go_iret h.1 h.2.2.2.2 (by decide +kernel)
  · refine go_blk h.1 (is := [.iconst 1]) (pc' := 8) (ls' := [some (.inr (.inr (2, w))), some (.inl x1), some (.inl x2), some (.inl x3)]) (st' := [.inl (1 : Int32)]) (m' := m) (by decide +kernel) rfl ?_
    exact go_iret h.1 h.2.2.2.2 (by decide +kernel)
theorem ctr_X4_faultAt (l : Launch) (A : AR → Nat) (dC : Nat → ClassId) (dI : Nat → Nat → Nat) (cs : Nat → ClassId) (w : Nat) (x1 : Int32) (x2 : Int32) (x3 : Int32) (m : Mem) : Ctr l A dC dI cs yX4_faultAt prog_6_method_4_code 4 (some .int) 1 puI [.inr (.inr (2, w)), .inl x1, .inl x2, .inl x3] m (f_X4_faultAt w x1 x2 x3 m) :=
  ctr_of (P := P_X4) (by decide +kernel) rfl pt_X4 rfl rfl (fun X hC _ _ _ _ _ hR h0 h1 hr => g_X4_faultAt ⟨hC, hR, h0, h1, hr⟩ w x1 x2 x3 m)

def f_X4_at (w : Nat) (x1 : Int32) (m : Mem) : Option (Int32 × Mem) :=
  bnd (f_X4_holds w x1 (1 : Int32) m) (fun r3 m3 =>
    if r3 = 0 then
      some ((0 : Int32), m3)
    else
      if inB x1 60 = true then
        some ((m3 3 w (ix x1)), m3)
      else none)
theorem g_X4_at {X : XT} (h : MX X prog_6_method_5_code P_X4 1 (some .int)) (w : Nat) (x1 : Int32) (m : Mem) : Go X (Em X puI) 0 [some (.inr (.inr (2, w))), some (.inl x1)] [] m (f_X4_at w x1 m) := by
  unfold f_X4_at
  refine go_blk h.1 (is := [.aload_n 0, .iload_n 1, .iconst 1]) (pc' := 3) (ls' := [some (.inr (.inr (2, w))), some (.inl x1)]) (st' := [.inl (1 : Int32), .inl x1, .inr (.inr (2, w))]) (m' := m) (by decide +kernel) rfl ?_
  refine go_callV h.1 (index := 41) (n := 2) (t := 2) (i := w) (ci := 4) (nf := 4) (cz := (RX4, TX4, 4)) (as := [.inl x1, .inl (1 : Int32)]) (rest := []) (ctr_X4_holds (xl X) (xA X) (xC X) (xI X) (xk X) w x1 (1 : Int32) m) (by decide +kernel) rfl rfl wd_v_X4_41 rfl (h.room (by first | decide | omega) (by decide)) h.cl (Nat.le_of_ble_eq_true rfl) puI_ok rfl (fun r3 m3 _ => ?_)
  show Go X (Em X puI) 6 [some (.inr (.inr (2, w))), some (.inl x1)] [.inl r3] m3 _
  refine go_ifeq h.1 (off := 12) 18 (by decide +kernel) (by decide) (fun c6 => ?_) (fun c6 => ?_)
  · refine go_blk h.1 (is := [.iconst 0]) (pc' := 19) (ls' := [some (.inr (.inr (2, w))), some (.inl x1)]) (st' := [.inl (0 : Int32)]) (m' := m3) (by decide +kernel) rfl ?_
    exact go_iret h.1 h.2.2.2.2 (by decide +kernel)
  · refine go_blk h.1 (is := [.aload_n 0, .getfield 9, .iload_n 1]) (pc' := 14) (ls' := [some (.inr (.inr (2, w))), some (.inl x1)]) (st' := [.inl x1, .inr (.inr (3, w))]) (m' := m3) (by decide +kernel) rfl ?_
    refine go_iald h.1 (by decide +kernel) rfl rfl (fun b14 => ?_)
    show Go X (Em X puI) 15 [some (.inr (.inr (2, w))), some (.inl x1)] [.inl (m3 3 w (ix x1))] m3 _
    refine go_goto h.1 (off := 4) 19 (by decide +kernel) (by decide) ?_
    exact go_iret h.1 h.2.2.2.2 (by decide +kernel)
theorem ctr_X4_at (l : Launch) (A : AR → Nat) (dC : Nat → ClassId) (dI : Nat → Nat → Nat) (cs : Nat → ClassId) (w : Nat) (x1 : Int32) (m : Mem) : Ctr l A dC dI cs yX4_at prog_6_method_5_code 2 (some .int) 1 puI [.inr (.inr (2, w)), .inl x1] m (f_X4_at w x1 m) :=
  ctr_of (P := P_X4) (by decide +kernel) rfl pt_X4 rfl rfl (fun X hC _ _ _ _ _ hR h0 h1 hr => g_X4_at ⟨hC, hR, h0, h1, hr⟩ w x1 m)

def f_X6_isDigit (x0 : Int32) (x1 : Int32) (x2 : Int32) (m : Mem) : Option (Int32 × Mem) :=
  bnd (f_X6_isWithin x0 ((48 : Int32) + x1) ((48 : Int32) + x2) m) (fun r9 m9 =>
    if r9 = 0 ∨ r9 = 1 then some (r9, m9) else none)
theorem g_X6_isDigit {X : XT} (h : MX X prog_1_method_48_code P_X6 1 (some .boolean)) (x0 : Int32) (x1 : Int32) (x2 : Int32) (m : Mem) : Go X (Em X puI) 0 [some (.inl x0), some (.inl x1), some (.inl x2)] [] m (f_X6_isDigit x0 x1 x2 m) := by
  unfold f_X6_isDigit
  refine go_blk h.1 (is := [.iload_n 0, .bipush 48, .iload_n 1, .iadd, .bipush 48, .iload_n 2, .iadd]) (pc' := 9) (ls' := [some (.inl x0), some (.inl x1), some (.inl x2)]) (st' := [.inl ((48 : Int32) + x2), .inl ((48 : Int32) + x1), .inl x0]) (m' := m) (by decide +kernel) rfl ?_
  refine go_callS h.1 (index := 111) (n := 3) (as := [.inl x0, .inl ((48 : Int32) + x1), .inl ((48 : Int32) + x2)]) (rest := []) (ctr_X6_isWithin (xl X) (xA X) (xC X) (xI X) (xk X) x0 ((48 : Int32) + x1) ((48 : Int32) + x2) m) (by decide +kernel) wd_s_X6_111 rfl (h.room (by first | decide | omega) (by decide)) h.cl (Nat.le_of_ble_eq_true rfl) puI_ok rfl (fun r9 m9 _ => ?_)
  show Go X (Em X puI) 12 [some (.inl x0), some (.inl x1), some (.inl x2)] [.inl r9] m9 _
  exact go_zretG h.1 h.2.2.2.2 (by decide +kernel)
theorem ctr_X6_isDigit (l : Launch) (A : AR → Nat) (dC : Nat → ClassId) (dI : Nat → Nat → Nat) (cs : Nat → ClassId) (x0 : Int32) (x1 : Int32) (x2 : Int32) (m : Mem) : Ctr l A dC dI cs yX6_isDigit prog_1_method_48_code 3 (some .boolean) 1 puI [.inl x0, .inl x1, .inl x2] m (f_X6_isDigit x0 x1 x2 m) :=
  ctr_of (P := P_X6) (by decide +kernel) rfl pt_X6 rfl rfl (fun X hC _ _ _ _ _ hR h0 h1 hr => g_X6_isDigit ⟨hC, hR, h0, h1, hr⟩ x0 x1 x2 m)

def f_X6_goesOn (x0 : Int32) (x1 : Int32) (m : Mem) : Option (Int32 × Mem) :=
  if (2 : Int32) ≤ x0 then
    if x0 < (32 : Int32) then
      if ¬ (6 : Int32) = 0 then
        if ((x0 - (2 : Int32)) - (x0 - (2 : Int32)) / (6 : Int32) * (6 : Int32)) = (0 : Int32) then
          if x1 = (59 : Int32) then
            some ((1 : Int32), m)
          else
            some ((0 : Int32), m)
        else
          if ((x0 - (2 : Int32)) - (x0 - (2 : Int32)) / (6 : Int32) * (6 : Int32)) = (1 : Int32) then
            if x1 = (102 : Int32) then
              some ((1 : Int32), m)
            else
              if x1 = (101 : Int32) then
                some ((1 : Int32), m)
              else
                if x1 = (112 : Int32) then
                  some ((1 : Int32), m)
                else
                  some ((0 : Int32), m)
          else
            if ((x0 - (2 : Int32)) - (x0 - (2 : Int32)) / (6 : Int32) * (6 : Int32)) = (2 : Int32) then
              bnd (f_X6_isDigit x1 (1 : Int32) (9 : Int32) m) (fun r120 m120 =>
                if r120 = 0 ∨ r120 = 1 then some (r120, m120) else none)
            else
              if ((x0 - (2 : Int32)) - (x0 - (2 : Int32)) / (6 : Int32) * (6 : Int32)) = (3 : Int32) then
                bnd (f_X6_isDigit x1 (0 : Int32) (9 : Int32) m) (fun r128 m128 =>
                  if r128 = 0 ∨ r128 = 1 then some (r128, m128) else none)
              else
                if ((x0 - (2 : Int32)) - (x0 - (2 : Int32)) / (6 : Int32) * (6 : Int32)) = (4 : Int32) then
                  bnd (f_X6_isDigit x1 (0 : Int32) (6 : Int32) m) (fun r136 m136 =>
                    if r136 = 0 ∨ r136 = 1 then some (r136, m136) else none)
                else
                  bnd (f_X6_isDigit x1 (0 : Int32) (5 : Int32) m) (fun r143 m143 =>
                    if r143 = 0 ∨ r143 = 1 then some (r143, m143) else none)
      else none
    else
      some ((0 : Int32), m)
  else
    if x0 = 0 then
      if x1 = (104 : Int32) then
        some ((1 : Int32), m)
      else
        some ((0 : Int32), m)
    else
      bnd (f_X6_isDigit x1 (0 : Int32) (9 : Int32) m) (fun r27 m27 =>
        if r27 = 0 ∨ r27 = 1 then some (r27, m27) else none)
theorem g_X6_goesOn {X : XT} (h : MX X prog_1_method_47_code P_X6 2 (some .boolean)) (x0 : Int32) (x1 : Int32) (m : Mem) : Go X (Em X puI) 0 [some (.inl x0), some (.inl x1)] [] m (f_X6_goesOn x0 x1 m) := by
  unfold f_X6_goesOn
  refine go_blk h.1 (is := [.iload_n 0, .iconst 2]) (pc' := 2) (ls' := [some (.inl x0), some (.inl x1)]) (st' := [.inl (2 : Int32), .inl x0]) (m' := m) (by decide +kernel) rfl ?_
  refine go_icmpge h.1 (off := 29) 31 (by decide +kernel) (by decide) (fun c2 => ?_) (fun c2 => ?_)
  · refine go_blk h.1 (is := [.iload_n 0, .bipush 32]) (pc' := 34) (ls' := [some (.inl x0), some (.inl x1)]) (st' := [.inl (32 : Int32), .inl x0]) (m' := m) (by decide +kernel) rfl ?_
    refine go_icmplt h.1 (off := 5) 39 (by decide +kernel) (by decide) (fun c34 => ?_) (fun c34 => ?_)
    · refine go_blk h.1 (is := [.iload_n 0, .iconst 2, .isub, .bipush 6]) (pc' := 44) (ls' := [some (.inl x0), some (.inl x1)]) (st' := [.inl (6 : Int32), .inl (x0 - (2 : Int32))]) (m' := m) (by decide +kernel) rfl ?_
      refine go_irem h.1 (by decide +kernel) (fun z44 => ?_)
      refine go_ite (fun w45_0 => ?_) (fun w45_0 => ?_)
      · refine go_tsIn h.1 (dflt := 95) (lo := 0) (hi := 4) (offs := #[35, 47, 71, 79, 87]) (len := 35) (off := 35) (0 : Int32) 80 w45_0 (by decide +kernel) (by decide) rfl (by decide) ?_
        refine go_blk h.1 (is := [.iload_n 1, .bipush 59]) (pc' := 83) (ls' := [some (.inl x0), some (.inl x1)]) (st' := [.inl (59 : Int32), .inl x1]) (m' := m) (by decide +kernel) rfl ?_
        refine go_icmpne h.1 (off := 7) 90 (by decide +kernel) (by decide) (fun c83 => ?_) (fun c83 => ?_)
        · refine go_blk h.1 (is := [.iconst 0]) (pc' := 91) (ls' := [some (.inl x0), some (.inl x1)]) (st' := [.inl (0 : Int32)]) (m' := m) (by decide +kernel) rfl ?_
          exact go_zret h.1 h.2.2.2.2 (Or.inl rfl) (by decide +kernel)
        · refine go_blk h.1 (is := [.iconst 1]) (pc' := 87) (ls' := [some (.inl x0), some (.inl x1)]) (st' := [.inl (1 : Int32)]) (m' := m) (by decide +kernel) rfl ?_
          refine go_goto h.1 (off := 4) 91 (by decide +kernel) (by decide) ?_
          exact go_zret h.1 h.2.2.2.2 (Or.inr rfl) (by decide +kernel)
      · refine go_ite (fun w45_1 => ?_) (fun w45_1 => ?_)
        · refine go_tsIn h.1 (dflt := 95) (lo := 0) (hi := 4) (offs := #[35, 47, 71, 79, 87]) (len := 35) (off := 47) (1 : Int32) 92 w45_1 (by decide +kernel) (by decide) rfl (by decide) ?_
          refine go_blk h.1 (is := [.iload_n 1, .bipush 102]) (pc' := 95) (ls' := [some (.inl x0), some (.inl x1)]) (st' := [.inl (102 : Int32), .inl x1]) (m' := m) (by decide +kernel) rfl ?_
          refine go_icmpeq h.1 (off := 15) 110 (by decide +kernel) (by decide) (fun c95 => ?_) (fun c95 => ?_)
          · refine go_blk h.1 (is := [.iconst 1]) (pc' := 111) (ls' := [some (.inl x0), some (.inl x1)]) (st' := [.inl (1 : Int32)]) (m' := m) (by decide +kernel) rfl ?_
            refine go_goto h.1 (off := 4) 115 (by decide +kernel) (by decide) ?_
            exact go_zret h.1 h.2.2.2.2 (Or.inr rfl) (by decide +kernel)
          · refine go_blk h.1 (is := [.iload_n 1, .bipush 101]) (pc' := 101) (ls' := [some (.inl x0), some (.inl x1)]) (st' := [.inl (101 : Int32), .inl x1]) (m' := m) (by decide +kernel) rfl ?_
            refine go_icmpeq h.1 (off := 9) 110 (by decide +kernel) (by decide) (fun c101 => ?_) (fun c101 => ?_)
            · refine go_blk h.1 (is := [.iconst 1]) (pc' := 111) (ls' := [some (.inl x0), some (.inl x1)]) (st' := [.inl (1 : Int32)]) (m' := m) (by decide +kernel) rfl ?_
              refine go_goto h.1 (off := 4) 115 (by decide +kernel) (by decide) ?_
              exact go_zret h.1 h.2.2.2.2 (Or.inr rfl) (by decide +kernel)
            · refine go_blk h.1 (is := [.iload_n 1, .bipush 112]) (pc' := 107) (ls' := [some (.inl x0), some (.inl x1)]) (st' := [.inl (112 : Int32), .inl x1]) (m' := m) (by decide +kernel) rfl ?_
              refine go_icmpne h.1 (off := 7) 114 (by decide +kernel) (by decide) (fun c107 => ?_) (fun c107 => ?_)
              · refine go_blk h.1 (is := [.iconst 0]) (pc' := 115) (ls' := [some (.inl x0), some (.inl x1)]) (st' := [.inl (0 : Int32)]) (m' := m) (by decide +kernel) rfl ?_
                exact go_zret h.1 h.2.2.2.2 (Or.inl rfl) (by decide +kernel)
              · refine go_blk h.1 (is := [.iconst 1]) (pc' := 111) (ls' := [some (.inl x0), some (.inl x1)]) (st' := [.inl (1 : Int32)]) (m' := m) (by decide +kernel) rfl ?_
                refine go_goto h.1 (off := 4) 115 (by decide +kernel) (by decide) ?_
                exact go_zret h.1 h.2.2.2.2 (Or.inr rfl) (by decide +kernel)
        · refine go_ite (fun w45_2 => ?_) (fun w45_2 => ?_)
          · refine go_tsIn h.1 (dflt := 95) (lo := 0) (hi := 4) (offs := #[35, 47, 71, 79, 87]) (len := 35) (off := 71) (2 : Int32) 116 w45_2 (by decide +kernel) (by decide) rfl (by decide) ?_
            refine go_blk h.1 (is := [.iload_n 1, .iconst 1, .bipush 9]) (pc' := 120) (ls' := [some (.inl x0), some (.inl x1)]) (st' := [.inl (9 : Int32), .inl (1 : Int32), .inl x1]) (m' := m) (by decide +kernel) rfl ?_
            refine go_callS h.1 (index := 243) (n := 3) (as := [.inl x1, .inl (1 : Int32), .inl (9 : Int32)]) (rest := []) (ctr_X6_isDigit (xl X) (xA X) (xC X) (xI X) (xk X) x1 (1 : Int32) (9 : Int32) m) (by decide +kernel) wd_s_X6_243 rfl (h.room (by first | decide | omega) (by decide)) h.cl (Nat.le_of_ble_eq_true rfl) puI_ok rfl (fun r120 m120 _ => ?_)
            show Go X (Em X puI) 123 [some (.inl x0), some (.inl x1)] [.inl r120] m120 _
            exact go_zretG h.1 h.2.2.2.2 (by decide +kernel)
          · refine go_ite (fun w45_3 => ?_) (fun w45_3 => ?_)
            · refine go_tsIn h.1 (dflt := 95) (lo := 0) (hi := 4) (offs := #[35, 47, 71, 79, 87]) (len := 35) (off := 79) (3 : Int32) 124 w45_3 (by decide +kernel) (by decide) rfl (by decide) ?_
              refine go_blk h.1 (is := [.iload_n 1, .iconst 0, .bipush 9]) (pc' := 128) (ls' := [some (.inl x0), some (.inl x1)]) (st' := [.inl (9 : Int32), .inl (0 : Int32), .inl x1]) (m' := m) (by decide +kernel) rfl ?_
              refine go_callS h.1 (index := 243) (n := 3) (as := [.inl x1, .inl (0 : Int32), .inl (9 : Int32)]) (rest := []) (ctr_X6_isDigit (xl X) (xA X) (xC X) (xI X) (xk X) x1 (0 : Int32) (9 : Int32) m) (by decide +kernel) wd_s_X6_243 rfl (h.room (by first | decide | omega) (by decide)) h.cl (Nat.le_of_ble_eq_true rfl) puI_ok rfl (fun r128 m128 _ => ?_)
              show Go X (Em X puI) 131 [some (.inl x0), some (.inl x1)] [.inl r128] m128 _
              exact go_zretG h.1 h.2.2.2.2 (by decide +kernel)
            · refine go_ite (fun w45_4 => ?_) (fun w45_4 => ?_)
              · refine go_tsIn h.1 (dflt := 95) (lo := 0) (hi := 4) (offs := #[35, 47, 71, 79, 87]) (len := 35) (off := 87) (4 : Int32) 132 w45_4 (by decide +kernel) (by decide) rfl (by decide) ?_
                refine go_blk h.1 (is := [.iload_n 1, .iconst 0, .bipush 6]) (pc' := 136) (ls' := [some (.inl x0), some (.inl x1)]) (st' := [.inl (6 : Int32), .inl (0 : Int32), .inl x1]) (m' := m) (by decide +kernel) rfl ?_
                refine go_callS h.1 (index := 243) (n := 3) (as := [.inl x1, .inl (0 : Int32), .inl (6 : Int32)]) (rest := []) (ctr_X6_isDigit (xl X) (xA X) (xC X) (xI X) (xk X) x1 (0 : Int32) (6 : Int32) m) (by decide +kernel) wd_s_X6_243 rfl (h.room (by first | decide | omega) (by decide)) h.cl (Nat.le_of_ble_eq_true rfl) puI_ok rfl (fun r136 m136 _ => ?_)
                show Go X (Em X puI) 139 [some (.inl x0), some (.inl x1)] [.inl r136] m136 _
                exact go_zretG h.1 h.2.2.2.2 (by decide +kernel)
              · refine go_tsOut h.1 (dflt := 95) (lo := 0) (hi := 4) (offs := #[35, 47, 71, 79, 87]) (len := 35) 140 (by decide +kernel) (sw_out (n := 5) (by decide) ((lt_s (lt_s (lt_s (lt_s (lt_s lt_0 w45_0) w45_1) w45_2) w45_3) w45_4) : ∀ j : Nat, j < 5 → ¬ ((x0 - (2 : Int32)) - (x0 - (2 : Int32)) / (6 : Int32) * (6 : Int32)) = Int32.ofInt (0 + (j : Int)))) (by decide) ?_
                refine go_blk h.1 (is := [.iload_n 1, .iconst 0, .iconst 5]) (pc' := 143) (ls' := [some (.inl x0), some (.inl x1)]) (st' := [.inl (5 : Int32), .inl (0 : Int32), .inl x1]) (m' := m) (by decide +kernel) rfl ?_
                refine go_callS h.1 (index := 243) (n := 3) (as := [.inl x1, .inl (0 : Int32), .inl (5 : Int32)]) (rest := []) (ctr_X6_isDigit (xl X) (xA X) (xC X) (xI X) (xk X) x1 (0 : Int32) (5 : Int32) m) (by decide +kernel) wd_s_X6_243 rfl (h.room (by first | decide | omega) (by decide)) h.cl (Nat.le_of_ble_eq_true rfl) puI_ok rfl (fun r143 m143 _ => ?_)
                show Go X (Em X puI) 146 [some (.inl x0), some (.inl x1)] [.inl r143] m143 _
                exact go_zretG h.1 h.2.2.2.2 (by decide +kernel)
    · refine go_blk h.1 (is := [.iconst 0]) (pc' := 38) (ls' := [some (.inl x0), some (.inl x1)]) (st' := [.inl (0 : Int32)]) (m' := m) (by decide +kernel) rfl ?_
      exact go_zret h.1 h.2.2.2.2 (Or.inl rfl) (by decide +kernel)
  · refine go_blk h.1 (is := [.iload_n 0]) (pc' := 6) (ls' := [some (.inl x0), some (.inl x1)]) (st' := [.inl x0]) (m' := m) (by decide +kernel) rfl ?_
    refine go_ifne h.1 (off := 17) 23 (by decide +kernel) (by decide) (fun c6 => ?_) (fun c6 => ?_)
    · refine go_blk h.1 (is := [.iload_n 1, .iconst 0, .bipush 9]) (pc' := 27) (ls' := [some (.inl x0), some (.inl x1)]) (st' := [.inl (9 : Int32), .inl (0 : Int32), .inl x1]) (m' := m) (by decide +kernel) rfl ?_
      refine go_callS h.1 (index := 243) (n := 3) (as := [.inl x1, .inl (0 : Int32), .inl (9 : Int32)]) (rest := []) (ctr_X6_isDigit (xl X) (xA X) (xC X) (xI X) (xk X) x1 (0 : Int32) (9 : Int32) m) (by decide +kernel) wd_s_X6_243 rfl (h.room (by first | decide | omega) (by decide)) h.cl (Nat.le_of_ble_eq_true rfl) puI_ok rfl (fun r27 m27 _ => ?_)
      show Go X (Em X puI) 30 [some (.inl x0), some (.inl x1)] [.inl r27] m27 _
      exact go_zretG h.1 h.2.2.2.2 (by decide +kernel)
    · refine go_blk h.1 (is := [.iload_n 1, .bipush 104]) (pc' := 12) (ls' := [some (.inl x0), some (.inl x1)]) (st' := [.inl (104 : Int32), .inl x1]) (m' := m) (by decide +kernel) rfl ?_
      refine go_icmpne h.1 (off := 7) 19 (by decide +kernel) (by decide) (fun c12 => ?_) (fun c12 => ?_)
      · refine go_blk h.1 (is := [.iconst 0]) (pc' := 20) (ls' := [some (.inl x0), some (.inl x1)]) (st' := [.inl (0 : Int32)]) (m' := m) (by decide +kernel) rfl ?_
        refine go_goto h.1 (off := 10) 30 (by decide +kernel) (by decide) ?_
        exact go_zret h.1 h.2.2.2.2 (Or.inl rfl) (by decide +kernel)
      · refine go_blk h.1 (is := [.iconst 1]) (pc' := 16) (ls' := [some (.inl x0), some (.inl x1)]) (st' := [.inl (1 : Int32)]) (m' := m) (by decide +kernel) rfl ?_
        refine go_goto h.1 (off := 14) 30 (by decide +kernel) (by decide) ?_
        exact go_zret h.1 h.2.2.2.2 (Or.inr rfl) (by decide +kernel)
theorem ctr_X6_goesOn (l : Launch) (A : AR → Nat) (dC : Nat → ClassId) (dI : Nat → Nat → Nat) (cs : Nat → ClassId) (x0 : Int32) (x1 : Int32) (m : Mem) : Ctr l A dC dI cs yX6_goesOn prog_1_method_47_code 2 (some .boolean) 2 puI [.inl x0, .inl x1] m (f_X6_goesOn x0 x1 m) :=
  ctr_of (P := P_X6) (by decide +kernel) rfl pt_X6 rfl rfl (fun X hC _ _ _ _ _ hR h0 h1 hr => g_X6_goesOn ⟨hC, hR, h0, h1, hr⟩ x0 x1 m)

def f_X6_firstFault_b2 (w : Nat) (x1 : Int32) (x2 : Int32) (next : Int32 × Mem → Option (Int32 × Mem)) (exit : Mem → Option (Int32 × Mem)) (s : Int32 × Mem) : Option (Int32 × Mem) :=
  if x2 ≤ s.1 then
    exit (s.2)
  else
    bnd (f_X4_at w (x1 + s.1) s.2) (fun r12 m12 =>
      bnd (f_X6_goesOn s.1 r12 m12) (fun r15 m15 =>
        if r15 = 0 then
          some (s.1, m15)
        else
          next ((s.1 + (1 : Int32)), m15)))
theorem g_X6_firstFault_b2 {X : XT} (h : MX X prog_1_method_46_code P_X6 3 (some .int)) (w : Nat) (x1 : Int32) (x2 : Int32) (next : Int32 × Mem → Option (Int32 × Mem)) (exit : Mem → Option (Int32 × Mem)) (hn : ∀ (s : Int32 × Mem), Go X (Em X puI) 2 [some (.inr (.inr (2, w))), some (.inl x1), some (.inl x2), some (.inl s.1)] [] s.2 (next s)) (hx : ∀ (t : Mem) (o0 : Option AV) (o1 : Option AV) (o3 : Option AV), Go X (Em X puI) 29 [o0, o1, some (.inl x2), o3] [] t (exit t)) (s : Int32 × Mem) : Go X (Em X puI) 2 [some (.inr (.inr (2, w))), some (.inl x1), some (.inl x2), some (.inl s.1)] [] s.2 (f_X6_firstFault_b2 w x1 x2 next exit s) := by
  unfold f_X6_firstFault_b2
  refine go_blk h.1 (is := [.iload_n 3, .iload_n 2]) (pc' := 4) (ls' := [some (.inr (.inr (2, w))), some (.inl x1), some (.inl x2), some (.inl s.1)]) (st' := [.inl x2, .inl s.1]) (m' := s.2) (by decide +kernel) rfl ?_
  refine go_icmpge h.1 (off := 25) 29 (by decide +kernel) (by decide) (fun c4 => ?_) (fun c4 => ?_)
  · exact hx (s.2) (some (.inr (.inr (2, w)))) (some (.inl x1)) (some (.inl s.1))
  · refine go_blk h.1 (is := [.iload_n 3, .aload_n 0, .iload_n 1, .iload_n 3, .iadd]) (pc' := 12) (ls' := [some (.inr (.inr (2, w))), some (.inl x1), some (.inl x2), some (.inl s.1)]) (st' := [.inl (x1 + s.1), .inr (.inr (2, w)), .inl s.1]) (m' := s.2) (by decide +kernel) rfl ?_
    refine go_callV h.1 (index := 207) (n := 1) (t := 2) (i := w) (ci := 4) (nf := 4) (cz := (RX4, TX4, 4)) (as := [.inl (x1 + s.1)]) (rest := [.inl s.1]) (ctr_X4_at (xl X) (xA X) (xC X) (xI X) (xk X) w (x1 + s.1) s.2) (by decide +kernel) rfl rfl wd_v_X6_207 rfl (h.room (by first | decide | omega) (by decide)) h.cl (Nat.le_of_ble_eq_true rfl) puI_ok rfl (fun r12 m12 _ => ?_)
    show Go X (Em X puI) 15 [some (.inr (.inr (2, w))), some (.inl x1), some (.inl x2), some (.inl s.1)] [.inl r12, .inl s.1] m12 _
    refine go_callS h.1 (index := 240) (n := 2) (as := [.inl s.1, .inl r12]) (rest := []) (ctr_X6_goesOn (xl X) (xA X) (xC X) (xI X) (xk X) s.1 r12 m12) (by decide +kernel) wd_s_X6_240 rfl (h.room (by first | decide | omega) (by decide)) h.cl (Nat.le_of_ble_eq_true rfl) puI_ok rfl (fun r15 m15 _ => ?_)
    show Go X (Em X puI) 18 [some (.inr (.inr (2, w))), some (.inl x1), some (.inl x2), some (.inl s.1)] [.inl r15] m15 _
    refine go_ifne h.1 (off := 5) 23 (by decide +kernel) (by decide) (fun c18 => ?_) (fun c18 => ?_)
    · refine go_blk h.1 (is := [.iinc 3 1]) (pc' := 26) (ls' := [some (.inr (.inr (2, w))), some (.inl x1), some (.inl x2), some (.inl (s.1 + (1 : Int32)))]) (st' := []) (m' := m15) (by decide +kernel) rfl ?_
      refine go_goto h.1 (off := -24) 2 (by decide +kernel) (by decide) ?_
      exact hn ((s.1 + (1 : Int32)), m15)
    · refine go_blk h.1 (is := [.iload_n 3]) (pc' := 22) (ls' := [some (.inr (.inr (2, w))), some (.inl x1), some (.inl x2), some (.inl s.1)]) (st' := [.inl s.1]) (m' := m15) (by decide +kernel) rfl ?_
      exact go_iret h.1 h.2.2.2.2 (by decide +kernel)

def f_X6_firstFault_j49 (w : Nat) (s0 : Int32) (x2 : Int32) (m : Mem) : Option (Int32 × Mem) :=
  if s0 = 0 then
    some (x2, m)
  else
    some ((-9 : Int32), m)
theorem g_X6_firstFault_j49 {X : XT} (h : MX X prog_1_method_46_code P_X6 3 (some .int)) (w : Nat) (s0 : Int32) (x2 : Int32) (m : Mem) (o0 : Option AV) (o1 : Option AV) (o3 : Option AV) : Go X (Em X puI) 49 [o0, o1, some (.inl x2), o3] [.inl s0] m (f_X6_firstFault_j49 w s0 x2 m) := by
  unfold f_X6_firstFault_j49
  refine go_blk h.1 (is := [.istore_n 3, .iload_n 3]) (pc' := 51) (ls' := [o0, o1, some (.inl x2), some (.inl s0)]) (st' := [.inl s0]) (m' := m) (by decide +kernel) rfl ?_
  refine go_ifeq h.1 (off := 8) 59 (by decide +kernel) (by decide) (fun c51 => ?_) (fun c51 => ?_)
  · refine go_blk h.1 (is := [.iload_n 2]) (pc' := 60) (ls' := [o0, o1, some (.inl x2), some (.inl s0)]) (st' := [.inl x2]) (m' := m) (by decide +kernel) rfl ?_
    exact go_iret h.1 h.2.2.2.2 (by decide +kernel)
  · refine go_blk h.1 (is := [.bipush (-9)]) (pc' := 56) (ls' := [o0, o1, some (.inl x2), some (.inl s0)]) (st' := [.inl (-9 : Int32)]) (m' := m) (by decide +kernel) rfl ?_
    refine go_goto h.1 (off := 4) 60 (by decide +kernel) (by decide) ?_
    exact go_iret h.1 h.2.2.2.2 (by decide +kernel)

def f_X6_firstFault_j48 (w : Nat) (x2 : Int32) (m : Mem) : Option (Int32 × Mem) :=
  f_X6_firstFault_j49 w (0 : Int32) x2 m
theorem g_X6_firstFault_j48 {X : XT} (h : MX X prog_1_method_46_code P_X6 3 (some .int)) (w : Nat) (x2 : Int32) (m : Mem) (o0 : Option AV) (o1 : Option AV) (o3 : Option AV) : Go X (Em X puI) 48 [o0, o1, some (.inl x2), o3] [] m (f_X6_firstFault_j48 w x2 m) := by
  unfold f_X6_firstFault_j48
  refine go_blk h.1 (is := [.iconst 0]) (pc' := 49) (ls' := [o0, o1, some (.inl x2), o3]) (st' := [.inl (0 : Int32)]) (m' := m) (by decide +kernel) rfl ?_
  exact g_X6_firstFault_j49 h w (0 : Int32) x2 m (o0) (o1) (o3)

def f_X6_firstFault (w : Nat) (x1 : Int32) (x2 : Int32) (m : Mem) : Option (Int32 × Mem) :=
  lpk (f_X6_firstFault_b2 w x1 x2) fuelN ((0 : Int32), m) (fun t2 =>
    if x2 < (8 : Int32) then
      f_X6_firstFault_j48 w x2 t2
    else
      if ¬ (6 : Int32) = 0 then
        if ((x2 - (2 : Int32)) - (x2 - (2 : Int32)) / (6 : Int32) * (6 : Int32)) = 0 then
          f_X6_firstFault_j49 w (1 : Int32) x2 t2
        else
          f_X6_firstFault_j48 w x2 t2
      else none)
theorem g_X6_firstFault {X : XT} (h : MX X prog_1_method_46_code P_X6 3 (some .int)) (w : Nat) (x1 : Int32) (x2 : Int32) (m : Mem) : Go X (Em X puI) 0 [some (.inr (.inr (2, w))), some (.inl x1), some (.inl x2), none] [] m (f_X6_firstFault w x1 x2 m) := by
  unfold f_X6_firstFault
  refine go_blk h.1 (is := [.iconst 0, .istore_n 3]) (pc' := 2) (ls' := [some (.inr (.inr (2, w))), some (.inl x1), some (.inl x2), some (.inl (0 : Int32))]) (st' := []) (m' := m) (by decide +kernel) rfl ?_
  refine go_loop (hd := fun (s2 : Int32 × Mem) o => Go X (Em X puI) 2 [some (.inr (.inr (2, w))), some (.inl x1), some (.inl x2), some (.inl s2.1)] [] s2.2 o) (fun s => go_none) (fun s2 nx_ hn_ => g_X6_firstFault_b2 h w x1 x2 nx_ _ hn_ ?_ s2) fuelN ((0 : Int32), m)
  intro t2 o0_2 o1_2 o3_2
  refine go_blk h.1 (is := [.iload_n 2, .bipush 8]) (pc' := 32) (ls' := [o0_2, o1_2, some (.inl x2), o3_2]) (st' := [.inl (8 : Int32), .inl x2]) (m' := t2) (by decide +kernel) rfl ?_
  refine go_icmplt h.1 (off := 16) 48 (by decide +kernel) (by decide) (fun c32 => ?_) (fun c32 => ?_)
  · exact g_X6_firstFault_j48 h w x2 t2 (o0_2) (o1_2) (o3_2)
  · refine go_blk h.1 (is := [.iload_n 2, .iconst 2, .isub, .bipush 6]) (pc' := 40) (ls' := [o0_2, o1_2, some (.inl x2), o3_2]) (st' := [.inl (6 : Int32), .inl (x2 - (2 : Int32))]) (m' := t2) (by decide +kernel) rfl ?_
    refine go_irem h.1 (by decide +kernel) (fun z40 => ?_)
    refine go_ifne h.1 (off := 7) 48 (by decide +kernel) (by decide) (fun c41 => ?_) (fun c41 => ?_)
    · exact g_X6_firstFault_j48 h w x2 t2 (o0_2) (o1_2) (o3_2)
    · refine go_blk h.1 (is := [.iconst 1]) (pc' := 45) (ls' := [o0_2, o1_2, some (.inl x2), o3_2]) (st' := [.inl (1 : Int32)]) (m' := t2) (by decide +kernel) rfl ?_
      refine go_goto h.1 (off := 4) 49 (by decide +kernel) (by decide) ?_
      exact g_X6_firstFault_j49 h w (1 : Int32) x2 t2 (o0_2) (o1_2) (o3_2)
theorem ctr_X6_firstFault (l : Launch) (A : AR → Nat) (dC : Nat → ClassId) (dI : Nat → Nat → Nat) (cs : Nat → ClassId) (w : Nat) (x1 : Int32) (x2 : Int32) (m : Mem) : Ctr l A dC dI cs yX6_firstFault prog_1_method_46_code 4 (some .int) 3 puI [.inr (.inr (2, w)), .inl x1, .inl x2] m (f_X6_firstFault w x1 x2 m) :=
  ctr_of (P := P_X6) (by decide +kernel) rfl pt_X6 rfl rfl (fun X hC _ _ _ _ _ hR h0 h1 hr => g_X6_firstFault ⟨hC, hR, h0, h1, hr⟩ w x1 x2 m)

def f_X6_kindOf (x0 : Int32) (m : Mem) : Option (Int32 × Mem) :=
  if x0 = (112 : Int32) then
    some ((2 : Int32), m)
  else
    if x0 = (101 : Int32) then
      some ((1 : Int32), m)
    else
      some ((0 : Int32), m)
theorem g_X6_kindOf {X : XT} (h : MX X prog_1_method_49_code P_X6 0 (some .int)) (x0 : Int32) (m : Mem) : Go X (Em X puI) 0 [some (.inl x0)] [] m (f_X6_kindOf x0 m) := by
  unfold f_X6_kindOf
  refine go_blk h.1 (is := [.iload_n 0, .bipush 112]) (pc' := 3) (ls' := [some (.inl x0)]) (st' := [.inl (112 : Int32), .inl x0]) (m' := m) (by decide +kernel) rfl ?_
  refine go_icmpne h.1 (off := 5) 8 (by decide +kernel) (by decide) (fun c3 => ?_) (fun c3 => ?_)
  · refine go_blk h.1 (is := [.iload_n 0, .bipush 101]) (pc' := 11) (ls' := [some (.inl x0)]) (st' := [.inl (101 : Int32), .inl x0]) (m' := m) (by decide +kernel) rfl ?_
    refine go_icmpne h.1 (off := 7) 18 (by decide +kernel) (by decide) (fun c11 => ?_) (fun c11 => ?_)
    · refine go_blk h.1 (is := [.iconst 0]) (pc' := 19) (ls' := [some (.inl x0)]) (st' := [.inl (0 : Int32)]) (m' := m) (by decide +kernel) rfl ?_
      exact go_iret h.1 h.2.2.2.2 (by decide +kernel)
    · refine go_blk h.1 (is := [.iconst 1]) (pc' := 15) (ls' := [some (.inl x0)]) (st' := [.inl (1 : Int32)]) (m' := m) (by decide +kernel) rfl ?_
      refine go_goto h.1 (off := 4) 19 (by decide +kernel) (by decide) ?_
      exact go_iret h.1 h.2.2.2.2 (by decide +kernel)
  · refine go_blk h.1 (is := [.iconst 2]) (pc' := 7) (ls' := [some (.inl x0)]) (st' := [.inl (2 : Int32)]) (m' := m) (by decide +kernel) rfl ?_
    exact go_iret h.1 h.2.2.2.2 (by decide +kernel)
theorem ctr_X6_kindOf (l : Launch) (A : AR → Nat) (dC : Nat → ClassId) (dI : Nat → Nat → Nat) (cs : Nat → ClassId) (x0 : Int32) (m : Mem) : Ctr l A dC dI cs yX6_kindOf prog_1_method_49_code 1 (some .int) 0 puI [.inl x0] m (f_X6_kindOf x0 m) :=
  ctr_of (P := P_X6) (by decide +kernel) rfl pt_X6 rfl rfl (fun X hC _ _ _ _ _ hR h0 h1 hr => g_X6_kindOf ⟨hC, hR, h0, h1, hr⟩ x0 m)

def f_X1_take (w : Nat) (a1 : Nat) (x2 : Int32) (m : Mem) : Option (Unit × Mem) :=
  bnd (f_X4_at a1 (x2 + (1 : Int32)) m) (fun r5 m5 =>
    bnd (f_X6_kindOf r5 m5) (fun r8 m8 =>
      bnd (f_X4_at a1 (x2 + (2 : Int32)) (mset m8 6 w 0 r8)) (fun r19 m19 =>
        bnd (f_X4_at a1 (x2 + (3 : Int32)) (mset m19 6 w 1 (r19 - (48 : Int32)))) (fun r33 m33 =>
          bnd (f_X4_at a1 (x2 + (4 : Int32)) (mset m33 6 w 2 (r33 - (48 : Int32)))) (fun r47 m47 =>
            bnd (f_X4_at a1 (x2 + (5 : Int32)) (mset m47 6 w 3 (r47 - (48 : Int32)))) (fun r61 m61 =>
              some ((), (mset m61 6 w 4 (r61 - (48 : Int32))))))))))
theorem g_X1_take {X : XT} (h : MX X prog_3_method_2_code P_X1 2 none) (w : Nat) (a1 : Nat) (x2 : Int32) (m : Mem) : Go X (Em X puV) 0 [some (.inr (.inr (6, w))), some (.inr (.inr (2, a1))), some (.inl x2)] [] m (f_X1_take w a1 x2 m) := by
  unfold f_X1_take
  refine go_blk h.1 (is := [.aload_n 0, .aload_n 1, .iload_n 2, .iconst 1, .iadd]) (pc' := 5) (ls' := [some (.inr (.inr (6, w))), some (.inr (.inr (2, a1))), some (.inl x2)]) (st' := [.inl (x2 + (1 : Int32)), .inr (.inr (2, a1)), .inr (.inr (6, w))]) (m' := m) (by decide +kernel) rfl ?_
  refine go_callV h.1 (index := 7) (n := 1) (t := 2) (i := a1) (ci := 4) (nf := 4) (cz := (RX4, TX4, 4)) (as := [.inl (x2 + (1 : Int32))]) (rest := [.inr (.inr (6, w))]) (ctr_X4_at (xl X) (xA X) (xC X) (xI X) (xk X) a1 (x2 + (1 : Int32)) m) (by decide +kernel) rfl rfl wd_v_X1_7 rfl (h.room (by first | decide | omega) (by decide)) h.cl (Nat.le_of_ble_eq_true rfl) puI_ok rfl (fun r5 m5 _ => ?_)
  show Go X (Em X puV) 8 [some (.inr (.inr (6, w))), some (.inr (.inr (2, a1))), some (.inl x2)] [.inl r5, .inr (.inr (6, w))] m5 _
  refine go_callN h.1 (index := 13) (n := 1) (as := [.inl r5]) (rest := [.inr (.inr (6, w))]) (ctr_X6_kindOf (xl X) (xA X) (xC X) (xI X) (xk X) r5 m5) (by decide +kernel) wd_n_X1_13 rfl (h.room (by first | decide | omega) (by decide)) h.cl (Nat.le_of_ble_eq_true rfl) puI_ok rfl (fun r8 m8 _ => ?_)
  show Go X (Em X puV) 11 [some (.inr (.inr (6, w))), some (.inr (.inr (2, a1))), some (.inl x2)] [.inl r8, .inr (.inr (6, w))] m8 _
  refine go_blk h.1 (is := [.putfield 18, .aload_n 0, .aload_n 1, .iload_n 2, .iconst 2, .iadd]) (pc' := 19) (ls' := [some (.inr (.inr (6, w))), some (.inr (.inr (2, a1))), some (.inl x2)]) (st' := [.inl (x2 + (2 : Int32)), .inr (.inr (2, a1)), .inr (.inr (6, w))]) (m' := (mset m8 6 w 0 r8)) (by decide +kernel) rfl ?_
  refine go_callV h.1 (index := 7) (n := 1) (t := 2) (i := a1) (ci := 4) (nf := 4) (cz := (RX4, TX4, 4)) (as := [.inl (x2 + (2 : Int32))]) (rest := [.inr (.inr (6, w))]) (ctr_X4_at (xl X) (xA X) (xC X) (xI X) (xk X) a1 (x2 + (2 : Int32)) (mset m8 6 w 0 r8)) (by decide +kernel) rfl rfl wd_v_X1_7 rfl (h.room (by first | decide | omega) (by decide)) h.cl (Nat.le_of_ble_eq_true rfl) puI_ok rfl (fun r19 m19 _ => ?_)
  show Go X (Em X puV) 22 [some (.inr (.inr (6, w))), some (.inr (.inr (2, a1))), some (.inl x2)] [.inl r19, .inr (.inr (6, w))] m19 _
  refine go_blk h.1 (is := [.bipush 48, .isub, .putfield 24, .aload_n 0, .aload_n 1, .iload_n 2, .iconst 3, .iadd]) (pc' := 33) (ls' := [some (.inr (.inr (6, w))), some (.inr (.inr (2, a1))), some (.inl x2)]) (st' := [.inl (x2 + (3 : Int32)), .inr (.inr (2, a1)), .inr (.inr (6, w))]) (m' := (mset m19 6 w 1 (r19 - (48 : Int32)))) (by decide +kernel) rfl ?_
  refine go_callV h.1 (index := 7) (n := 1) (t := 2) (i := a1) (ci := 4) (nf := 4) (cz := (RX4, TX4, 4)) (as := [.inl (x2 + (3 : Int32))]) (rest := [.inr (.inr (6, w))]) (ctr_X4_at (xl X) (xA X) (xC X) (xI X) (xk X) a1 (x2 + (3 : Int32)) (mset m19 6 w 1 (r19 - (48 : Int32)))) (by decide +kernel) rfl rfl wd_v_X1_7 rfl (h.room (by first | decide | omega) (by decide)) h.cl (Nat.le_of_ble_eq_true rfl) puI_ok rfl (fun r33 m33 _ => ?_)
  show Go X (Em X puV) 36 [some (.inr (.inr (6, w))), some (.inr (.inr (2, a1))), some (.inl x2)] [.inl r33, .inr (.inr (6, w))] m33 _
  refine go_blk h.1 (is := [.bipush 48, .isub, .putfield 27, .aload_n 0, .aload_n 1, .iload_n 2, .iconst 4, .iadd]) (pc' := 47) (ls' := [some (.inr (.inr (6, w))), some (.inr (.inr (2, a1))), some (.inl x2)]) (st' := [.inl (x2 + (4 : Int32)), .inr (.inr (2, a1)), .inr (.inr (6, w))]) (m' := (mset m33 6 w 2 (r33 - (48 : Int32)))) (by decide +kernel) rfl ?_
  refine go_callV h.1 (index := 7) (n := 1) (t := 2) (i := a1) (ci := 4) (nf := 4) (cz := (RX4, TX4, 4)) (as := [.inl (x2 + (4 : Int32))]) (rest := [.inr (.inr (6, w))]) (ctr_X4_at (xl X) (xA X) (xC X) (xI X) (xk X) a1 (x2 + (4 : Int32)) (mset m33 6 w 2 (r33 - (48 : Int32)))) (by decide +kernel) rfl rfl wd_v_X1_7 rfl (h.room (by first | decide | omega) (by decide)) h.cl (Nat.le_of_ble_eq_true rfl) puI_ok rfl (fun r47 m47 _ => ?_)
  show Go X (Em X puV) 50 [some (.inr (.inr (6, w))), some (.inr (.inr (2, a1))), some (.inl x2)] [.inl r47, .inr (.inr (6, w))] m47 _
  refine go_blk h.1 (is := [.bipush 48, .isub, .putfield 30, .aload_n 0, .aload_n 1, .iload_n 2, .iconst 5, .iadd]) (pc' := 61) (ls' := [some (.inr (.inr (6, w))), some (.inr (.inr (2, a1))), some (.inl x2)]) (st' := [.inl (x2 + (5 : Int32)), .inr (.inr (2, a1)), .inr (.inr (6, w))]) (m' := (mset m47 6 w 3 (r47 - (48 : Int32)))) (by decide +kernel) rfl ?_
  refine go_callV h.1 (index := 7) (n := 1) (t := 2) (i := a1) (ci := 4) (nf := 4) (cz := (RX4, TX4, 4)) (as := [.inl (x2 + (5 : Int32))]) (rest := [.inr (.inr (6, w))]) (ctr_X4_at (xl X) (xA X) (xC X) (xI X) (xk X) a1 (x2 + (5 : Int32)) (mset m47 6 w 3 (r47 - (48 : Int32)))) (by decide +kernel) rfl rfl wd_v_X1_7 rfl (h.room (by first | decide | omega) (by decide)) h.cl (Nat.le_of_ble_eq_true rfl) puI_ok rfl (fun r61 m61 _ => ?_)
  show Go X (Em X puV) 64 [some (.inr (.inr (6, w))), some (.inr (.inr (2, a1))), some (.inl x2)] [.inl r61, .inr (.inr (6, w))] m61 _
  refine go_blk h.1 (is := [.bipush 48, .isub, .putfield 33]) (pc' := 70) (ls' := [some (.inr (.inr (6, w))), some (.inr (.inr (2, a1))), some (.inl x2)]) (st' := []) (m' := (mset m61 6 w 4 (r61 - (48 : Int32)))) (by decide +kernel) rfl ?_
  exact go_vret h.1 h.2.2.2.2 (by decide +kernel)
theorem ctr_X1_take (l : Launch) (A : AR → Nat) (dC : Nat → ClassId) (dI : Nat → Nat → Nat) (cs : Nat → ClassId) (w : Nat) (a1 : Nat) (x2 : Int32) (m : Mem) : Ctr l A dC dI cs yX1_take prog_3_method_2_code 3 none 2 puV [.inr (.inr (6, w)), .inr (.inr (2, a1)), .inl x2] m (f_X1_take w a1 x2 m) :=
  ctr_of (P := P_X1) (by decide +kernel) rfl pt_X1 rfl rfl (fun X hC _ _ _ _ _ hR h0 h1 hr => g_X1_take ⟨hC, hR, h0, h1, hr⟩ w a1 x2 m)

def f_X5_take_b36 (w : Nat) (x2 : Int32) (next : Int32 × Mem → Option (Unit × Mem)) (exit : Mem → Option (Unit × Mem)) (s : Int32 × Mem) : Option (Unit × Mem) :=
  if (s.2 4 0 1) ≤ s.1 then
    exit (s.2)
  else
    if inB s.1 5 = true then
      bnd (f_X1_take (ix s.1) w ((x2 + (2 : Int32)) + (s.1 * (6 : Int32))) s.2) (fun _ m62 =>
        next ((s.1 + (1 : Int32)), m62))
    else none
theorem g_X5_take_b36 {X : XT} (h : MX X prog_7_method_3_code P_X5 3 none) (w : Nat) (x2 : Int32) (next : Int32 × Mem → Option (Unit × Mem)) (exit : Mem → Option (Unit × Mem)) (hn : ∀ (s : Int32 × Mem) (o3 : Option AV), Go X (Em X puV) 36 [some (.inr (.inr (4, 0))), some (.inr (.inr (2, w))), some (.inl x2), o3, some (.inl s.1)] [] s.2 (next s)) (hx : ∀ (t : Mem) (o0 : Option AV) (o1 : Option AV) (o2 : Option AV) (o3 : Option AV) (o4 : Option AV), Go X (Em X puV) 71 [o0, o1, o2, o3, o4] [] t (exit t)) (s : Int32 × Mem) (o3 : Option AV) : Go X (Em X puV) 36 [some (.inr (.inr (4, 0))), some (.inr (.inr (2, w))), some (.inl x2), o3, some (.inl s.1)] [] s.2 (f_X5_take_b36 w x2 next exit s) := by
  unfold f_X5_take_b36
  refine go_blk h.1 (is := [.iload 4, .aload_n 0, .getfield 18]) (pc' := 42) (ls' := [some (.inr (.inr (4, 0))), some (.inr (.inr (2, w))), some (.inl x2), o3, some (.inl s.1)]) (st' := [.inl (s.2 4 0 1), .inl s.1]) (m' := s.2) (by decide +kernel) rfl ?_
  refine go_icmpge h.1 (off := 29) 71 (by decide +kernel) (by decide) (fun c42 => ?_) (fun c42 => ?_)
  · exact hx (s.2) (some (.inr (.inr (4, 0)))) (some (.inr (.inr (2, w)))) (some (.inl x2)) (o3) (some (.inl s.1))
  · refine go_blk h.1 (is := [.aload_n 0, .getfield 11, .iload 4]) (pc' := 51) (ls' := [some (.inr (.inr (4, 0))), some (.inr (.inr (2, w))), some (.inl x2), o3, some (.inl s.1)]) (st' := [.inl s.1, .inr (.inr (5, 0))]) (m' := s.2) (by decide +kernel) rfl ?_
    refine go_aald h.1 (kd := 1) (z := (6, (ix s.1))) (by decide +kernel) rfl rfl (by decide) rfl (fun b51 => ?_)
    refine go_blk h.1 (is := [.aload_n 1, .iload_n 2, .iconst 2, .iadd, .iload 4, .bipush 6, .imul, .iadd]) (pc' := 62) (ls' := [some (.inr (.inr (4, 0))), some (.inr (.inr (2, w))), some (.inl x2), o3, some (.inl s.1)]) (st' := [.inl ((x2 + (2 : Int32)) + (s.1 * (6 : Int32))), .inr (.inr (2, w)), .inr (.inr (6, (ix s.1)))]) (m' := s.2) (by decide +kernel) rfl ?_
    refine go_callV h.1 (index := 40) (n := 2) (t := 6) (i := (ix s.1)) (ci := 1) (nf := 5) (cz := (RX1, TX1, 5)) (as := [.inr (.inr (2, w)), .inl ((x2 + (2 : Int32)) + (s.1 * (6 : Int32)))]) (rest := []) (ctr_X1_take (xl X) (xA X) (xC X) (xI X) (xk X) (ix s.1) w ((x2 + (2 : Int32)) + (s.1 * (6 : Int32))) s.2) (by decide +kernel) rfl rfl wd_v_X5_40 rfl (h.room (by first | decide | omega) (by decide)) h.cl (Nat.le_of_ble_eq_true rfl) puV_ok rfl (fun r62 m62 _ => ?_)
    show Go X (Em X puV) 65 [some (.inr (.inr (4, 0))), some (.inr (.inr (2, w))), some (.inl x2), o3, some (.inl s.1)] [] m62 _
    refine go_blk h.1 (is := [.iinc 4 1]) (pc' := 68) (ls' := [some (.inr (.inr (4, 0))), some (.inr (.inr (2, w))), some (.inl x2), (clrL o3), some (.inl (s.1 + (1 : Int32)))]) (st' := []) (m' := m62) (by decide +kernel) rfl ?_
    refine go_goto h.1 (off := -32) 36 (by decide +kernel) (by decide) ?_
    exact hn ((s.1 + (1 : Int32)), m62) ((clrL o3))

def f_X5_take (w : Nat) (x2 : Int32) (x3 : Int32) (m : Mem) : Option (Unit × Mem) :=
  bnd (f_X4_at w (x2 + (1 : Int32)) m) (fun r5 m5 =>
    if ¬ (6 : Int32) = 0 then
      lpk (f_X5_take_b36 w x2) fuelN ((0 : Int32), (mset (mset (mset m5 4 0 2 (r5 - (48 : Int32))) 4 0 3 (0 : Int32)) 4 0 1 (if (5 : Int32) < ((x3 - (2 : Int32)) / (6 : Int32)) then (5 : Int32) else ((x3 - (2 : Int32)) / (6 : Int32))))) (fun t36 =>
        some ((), t36))
    else none)
theorem g_X5_take {X : XT} (h : MX X prog_7_method_3_code P_X5 3 none) (w : Nat) (x2 : Int32) (x3 : Int32) (m : Mem) : Go X (Em X puV) 0 [some (.inr (.inr (4, 0))), some (.inr (.inr (2, w))), some (.inl x2), some (.inl x3), none] [] m (f_X5_take w x2 x3 m) := by
  unfold f_X5_take
  refine go_blk h.1 (is := [.aload_n 0, .aload_n 1, .iload_n 2, .iconst 1, .iadd]) (pc' := 5) (ls' := [some (.inr (.inr (4, 0))), some (.inr (.inr (2, w))), some (.inl x2), some (.inl x3), none]) (st' := [.inl (x2 + (1 : Int32)), .inr (.inr (2, w)), .inr (.inr (4, 0))]) (m' := m) (by decide +kernel) rfl ?_
  refine go_callV h.1 (index := 28) (n := 1) (t := 2) (i := w) (ci := 4) (nf := 4) (cz := (RX4, TX4, 4)) (as := [.inl (x2 + (1 : Int32))]) (rest := [.inr (.inr (4, 0))]) (ctr_X4_at (xl X) (xA X) (xC X) (xI X) (xk X) w (x2 + (1 : Int32)) m) (by decide +kernel) rfl rfl wd_v_X5_28 rfl (h.room (by first | decide | omega) (by decide)) h.cl (Nat.le_of_ble_eq_true rfl) puI_ok rfl (fun r5 m5 _ => ?_)
  show Go X (Em X puV) 8 [some (.inr (.inr (4, 0))), some (.inr (.inr (2, w))), some (.inl x2), some (.inl x3), none] [.inl r5, .inr (.inr (4, 0))] m5 _
  refine go_blk h.1 (is := [.bipush 48, .isub, .putfield 22, .aload_n 0, .iconst 0, .putfield 25, .aload_n 0, .iload_n 3, .iconst 2, .isub, .bipush 6]) (pc' := 25) (ls' := [some (.inr (.inr (4, 0))), some (.inr (.inr (2, w))), some (.inl x2), some (.inl x3), none]) (st' := [.inl (6 : Int32), .inl (x3 - (2 : Int32)), .inr (.inr (4, 0))]) (m' := (mset (mset m5 4 0 2 (r5 - (48 : Int32))) 4 0 3 (0 : Int32))) (by decide +kernel) rfl ?_
  refine go_idiv h.1 (by decide +kernel) (fun z25 => ?_)
  refine go_blk h.1 (is := [.iconst 5]) (pc' := 27) (ls' := [some (.inr (.inr (4, 0))), some (.inr (.inr (2, w))), some (.inl x2), some (.inl x3), none]) (st' := [.inl (5 : Int32), .inl ((x3 - (2 : Int32)) / (6 : Int32)), .inr (.inr (4, 0))]) (m' := (mset (mset m5 4 0 2 (r5 - (48 : Int32))) 4 0 3 (0 : Int32))) (by decide +kernel) rfl ?_
  refine go_min h (index := 34) (by first | decide | omega) (by decide +kernel) wd_ml_X5_34 wd_st_min wd_in_Math wd_co_min (Nat.le_of_ble_eq_true rfl) ?_
  show Go X (Em X puV) 30 [some (.inr (.inr (4, 0))), some (.inr (.inr (2, w))), some (.inl x2), some (.inl x3), none] [.inl (if (5 : Int32) < ((x3 - (2 : Int32)) / (6 : Int32)) then (5 : Int32) else ((x3 - (2 : Int32)) / (6 : Int32))), .inr (.inr (4, 0))] (mset (mset m5 4 0 2 (r5 - (48 : Int32))) 4 0 3 (0 : Int32)) _
  refine go_blk h.1 (is := [.putfield 18, .iconst 0, .istore 4]) (pc' := 36) (ls' := [some (.inr (.inr (4, 0))), some (.inr (.inr (2, w))), some (.inl x2), some (.inl x3), some (.inl (0 : Int32))]) (st' := []) (m' := (mset (mset (mset m5 4 0 2 (r5 - (48 : Int32))) 4 0 3 (0 : Int32)) 4 0 1 (if (5 : Int32) < ((x3 - (2 : Int32)) / (6 : Int32)) then (5 : Int32) else ((x3 - (2 : Int32)) / (6 : Int32))))) (by decide +kernel) rfl ?_
  refine go_loop (hd := fun (s36 : Int32 × Mem) o => ∀ (o3 : Option AV), Go X (Em X puV) 36 [some (.inr (.inr (4, 0))), some (.inr (.inr (2, w))), some (.inl x2), o3, some (.inl s36.1)] [] s36.2 o) (fun s _ => go_none) (fun s36 nx_ hn_ => g_X5_take_b36 h w x2 nx_ _ hn_ ?_ s36) fuelN ((0 : Int32), (mset (mset (mset m5 4 0 2 (r5 - (48 : Int32))) 4 0 3 (0 : Int32)) 4 0 1 (if (5 : Int32) < ((x3 - (2 : Int32)) / (6 : Int32)) then (5 : Int32) else ((x3 - (2 : Int32)) / (6 : Int32))))) (some (.inl x3))
  intro t36 o0_36 o1_36 o2_36 o3_36 o4_36
  exact go_vret h.1 h.2.2.2.2 (by decide +kernel)
theorem ctr_X5_take (l : Launch) (A : AR → Nat) (dC : Nat → ClassId) (dI : Nat → Nat → Nat) (cs : Nat → ClassId) (w : Nat) (x2 : Int32) (x3 : Int32) (m : Mem) : Ctr l A dC dI cs yX5_take prog_7_method_3_code 5 none 3 puV [.inr (.inr (4, 0)), .inr (.inr (2, w)), .inl x2, .inl x3] m (f_X5_take w x2 x3 m) :=
  ctr_of (P := P_X5) (by decide +kernel) rfl pt_X5 rfl rfl (fun X hC _ _ _ _ _ hR h0 h1 hr => g_X5_take ⟨hC, hR, h0, h1, hr⟩ w x2 x3 m)

def f_X3_forget (m : Mem) : Option (Unit × Mem) :=
  some ((), (mset m 17 0 3 (0 : Int32)))
theorem g_X3_forget {X : XT} (h : MX X prog_5_method_2_code P_X3 0 none) (m : Mem) : Go X (Em X puV) 0 [some (.inr (.inr (17, 0)))] [] m (f_X3_forget m) := by
  unfold f_X3_forget
  refine go_blk h.1 (is := [.aload_n 0, .iconst 0, .putfield 25]) (pc' := 5) (ls' := [some (.inr (.inr (17, 0)))]) (st' := []) (m' := (mset m 17 0 3 (0 : Int32))) (by decide +kernel) rfl ?_
  exact go_vret h.1 h.2.2.2.2 (by decide +kernel)
theorem ctr_X3_forget (l : Launch) (A : AR → Nat) (dC : Nat → ClassId) (dI : Nat → Nat → Nat) (cs : Nat → ClassId) (m : Mem) : Ctr l A dC dI cs yX3_forget prog_5_method_2_code 1 none 0 puV [.inr (.inr (17, 0))] m (f_X3_forget m) :=
  ctr_of (P := P_X3) (by decide +kernel) rfl pt_X3 rfl rfl (fun X hC _ _ _ _ _ hR h0 h1 hr => g_X3_forget ⟨hC, hR, h0, h1, hr⟩ m)

def f_X6_faulty (x1 : Int32) (m : Mem) : Option (Int32 × Mem) :=
  some (((-10 : Int32) - x1), (mset m 0 0 6 x1))
theorem g_X6_faulty {X : XT} (h : MX X prog_1_method_36_code P_X6 0 (some .int)) (x1 : Int32) (m : Mem) : Go X (Em X puI) 0 [some (.inr (.inr (0, 0))), some (.inl x1)] [] m (f_X6_faulty x1 m) := by
  unfold f_X6_faulty
  refine go_blk h.1 (is := [.aload_n 0, .iload_n 1, .putfield 50, .bipush (-10), .iload_n 1, .isub]) (pc' := 9) (ls' := [some (.inr (.inr (0, 0))), some (.inl x1)]) (st' := [.inl ((-10 : Int32) - x1)]) (m' := (mset m 0 0 6 x1)) (by decide +kernel) rfl ?_
  exact go_iret h.1 h.2.2.2.2 (by decide +kernel)
theorem ctr_X6_faulty (l : Launch) (A : AR → Nat) (dC : Nat → ClassId) (dI : Nat → Nat → Nat) (cs : Nat → ClassId) (x1 : Int32) (m : Mem) : Ctr l A dC dI cs yX6_faulty prog_1_method_36_code 2 (some .int) 0 puI [.inr (.inr (0, 0)), .inl x1] m (f_X6_faulty x1 m) :=
  ctr_of (P := P_X6) (by decide +kernel) rfl pt_X6 rfl rfl (fun X hC _ _ _ _ _ hR h0 h1 hr => g_X6_faulty ⟨hC, hR, h0, h1, hr⟩ x1 m)

def f_X6_ford (x1 : Int32) (x2 : Int32) (x3 : Int32) (x4 : Int32) (m : Mem) : Option (Int32 × Mem) :=
  bnd (f_X6_isSheet x1 (mset m 0 0 6 (0 : Int32))) (fun r6 m6 =>
    if r6 = 0 then
      some ((-1 : Int32), m6)
    else
      bnd (f_X6_isLane x2 m6) (fun r15 m15 =>
        if r15 = 0 then
          some ((-2 : Int32), m15)
        else
          if inB x1 4 = true then
            bnd (f_X4_faultAt (ix x1) x2 x3 x4 m15) (fun r38 m38 =>
              if r38 = 0 then
                bnd (f_X6_firstFault (ix x1) x3 x4 m38) (fun r60 m60 =>
                  if r60 = (-9 : Int32) then
                    bnd (f_X5_take (ix x1) x3 x4 m60) (fun _ m87 =>
                      bnd (f_X3_forget (mset m87 20 0 2 (0 : Int32))) (fun _ m102 =>
                        some ((m102 4 0 1), m102)))
                  else
                    some (((-100 : Int32) - r60), m60))
              else
                bnd (f_X6_faulty r38 m38) (fun r51 m51 =>
                  some (r51, m51)))
          else none))
theorem g_X6_ford {X : XT} (h : MX X prog_1_method_2_code P_X6 4 (some .int)) (x1 : Int32) (x2 : Int32) (x3 : Int32) (x4 : Int32) (m : Mem) : Go X (Em X puI) 0 [some (.inr (.inr (0, 0))), some (.inl x1), some (.inl x2), some (.inl x3), some (.inl x4), none, none, none] [] m (f_X6_ford x1 x2 x3 x4 m) := by
  unfold f_X6_ford
  refine go_blk h.1 (is := [.aload_n 0, .iconst 0, .putfield 50, .iload_n 1]) (pc' := 6) (ls' := [some (.inr (.inr (0, 0))), some (.inl x1), some (.inl x2), some (.inl x3), some (.inl x4), none, none, none]) (st' := [.inl x1]) (m' := (mset m 0 0 6 (0 : Int32))) (by decide +kernel) rfl ?_
  refine go_callS h.1 (index := 53) (n := 1) (as := [.inl x1]) (rest := []) (ctr_X6_isSheet (xl X) (xA X) (xC X) (xI X) (xk X) x1 (mset m 0 0 6 (0 : Int32))) (by decide +kernel) wd_s_X6_53 rfl (h.room (by first | decide | omega) (by decide)) h.cl (Nat.le_of_ble_eq_true rfl) puI_ok rfl (fun r6 m6 _ => ?_)
  show Go X (Em X puI) 9 [some (.inr (.inr (0, 0))), some (.inl x1), some (.inl x2), some (.inl x3), some (.inl x4), none, none, none] [.inl r6] m6 _
  refine go_ifne h.1 (off := 5) 14 (by decide +kernel) (by decide) (fun c9 => ?_) (fun c9 => ?_)
  · refine go_blk h.1 (is := [.iload_n 2]) (pc' := 15) (ls' := [some (.inr (.inr (0, 0))), some (.inl x1), some (.inl x2), some (.inl x3), some (.inl x4), none, none, none]) (st' := [.inl x2]) (m' := m6) (by decide +kernel) rfl ?_
    refine go_callS h.1 (index := 57) (n := 1) (as := [.inl x2]) (rest := []) (ctr_X6_isLane (xl X) (xA X) (xC X) (xI X) (xk X) x2 m6) (by decide +kernel) wd_s_X6_57 rfl (h.room (by first | decide | omega) (by decide)) h.cl (Nat.le_of_ble_eq_true rfl) puI_ok rfl (fun r15 m15 _ => ?_)
    show Go X (Em X puI) 18 [some (.inr (.inr (0, 0))), some (.inl x1), some (.inl x2), some (.inl x3), some (.inl x4), none, none, none] [.inl r15] m15 _
    refine go_ifne h.1 (off := 6) 24 (by decide +kernel) (by decide) (fun c18 => ?_) (fun c18 => ?_)
    · refine go_blk h.1 (is := [.aload_n 0, .getfield 13, .iload_n 1]) (pc' := 29) (ls' := [some (.inr (.inr (0, 0))), some (.inl x1), some (.inl x2), some (.inl x3), some (.inl x4), none, none, none]) (st' := [.inl x1, .inr (.inr (1, 0))]) (m' := m15) (by decide +kernel) rfl ?_
      refine go_aald h.1 (kd := 0) (z := (2, (ix x1))) (by decide +kernel) rfl rfl (by decide) rfl (fun b29 => ?_)
      refine go_blk h.1 (is := [.astore 5, .aload 5, .iload_n 2, .iload_n 3, .iload 4]) (pc' := 38) (ls' := [some (.inr (.inr (0, 0))), some (.inl x1), some (.inl x2), some (.inl x3), some (.inl x4), some (.inr (.inr (2, (ix x1)))), none, none]) (st' := [.inl x4, .inl x3, .inl x2, .inr (.inr (2, (ix x1)))]) (m' := m15) (by decide +kernel) rfl ?_
      refine go_callV h.1 (index := 60) (n := 3) (t := 2) (i := (ix x1)) (ci := 4) (nf := 4) (cz := (RX4, TX4, 4)) (as := [.inl x2, .inl x3, .inl x4]) (rest := []) (ctr_X4_faultAt (xl X) (xA X) (xC X) (xI X) (xk X) (ix x1) x2 x3 x4 m15) (by decide +kernel) rfl rfl wd_v_X6_60 rfl (h.room (by first | decide | omega) (by decide)) h.cl (Nat.le_of_ble_eq_true rfl) puI_ok rfl (fun r38 m38 _ => ?_)
      show Go X (Em X puI) 41 [some (.inr (.inr (0, 0))), some (.inl x1), some (.inl x2), some (.inl x3), some (.inl x4), some (.inr (.inr (2, (ix x1)))), none, none] [.inl r38] m38 _
      refine go_blk h.1 (is := [.istore 6, .iload 6]) (pc' := 45) (ls' := [some (.inr (.inr (0, 0))), some (.inl x1), some (.inl x2), some (.inl x3), some (.inl x4), some (.inr (.inr (2, (ix x1)))), some (.inl r38), none]) (st' := [.inl r38]) (m' := m38) (by decide +kernel) rfl ?_
      refine go_ifeq h.1 (off := 10) 55 (by decide +kernel) (by decide) (fun c45 => ?_) (fun c45 => ?_)
      · refine go_blk h.1 (is := [.aload 5, .iload_n 3, .iload 4]) (pc' := 60) (ls' := [some (.inr (.inr (0, 0))), some (.inl x1), some (.inl x2), some (.inl x3), some (.inl x4), some (.inr (.inr (2, (ix x1)))), some (.inl r38), none]) (st' := [.inl x4, .inl x3, .inr (.inr (2, (ix x1)))]) (m' := m38) (by decide +kernel) rfl ?_
        refine go_callS h.1 (index := 68) (n := 3) (as := [.inr (.inr (2, (ix x1))), .inl x3, .inl x4]) (rest := []) (ctr_X6_firstFault (xl X) (xA X) (xC X) (xI X) (xk X) (ix x1) x3 x4 m38) (by decide +kernel) wd_s_X6_68 rfl (h.room (by first | decide | omega) (by decide)) h.cl (Nat.le_of_ble_eq_true rfl) puI_ok rfl (fun r60 m60 _ => ?_)
        show Go X (Em X puI) 63 [some (.inr (.inr (0, 0))), some (.inl x1), some (.inl x2), some (.inl x3), some (.inl x4), some (.inr (.inr (2, (ix x1)))), some (.inl r38), none] [.inl r60] m60 _
        refine go_blk h.1 (is := [.istore 7, .iload 7, .bipush (-9)]) (pc' := 69) (ls' := [some (.inr (.inr (0, 0))), some (.inl x1), some (.inl x2), some (.inl x3), some (.inl x4), some (.inr (.inr (2, (ix x1)))), some (.inl r38), some (.inl r60)]) (st' := [.inl (-9 : Int32), .inl r60]) (m' := m60) (by decide +kernel) rfl ?_
        refine go_icmpeq h.1 (off := 9) 78 (by decide +kernel) (by decide) (fun c69 => ?_) (fun c69 => ?_)
        · refine go_blk h.1 (is := [.aload_n 0, .getfield 21, .aload 5, .iload_n 3, .iload 4]) (pc' := 87) (ls' := [some (.inr (.inr (0, 0))), some (.inl x1), some (.inl x2), some (.inl x3), some (.inl x4), some (.inr (.inr (2, (ix x1)))), some (.inl r38), some (.inl r60)]) (st' := [.inl x4, .inl x3, .inr (.inr (2, (ix x1))), .inr (.inr (4, 0))]) (m' := m60) (by decide +kernel) rfl ?_
          refine go_callV h.1 (index := 72) (n := 3) (t := 4) (i := 0) (ci := 5) (nf := 4) (cz := (RX5, TX5, 4)) (as := [.inr (.inr (2, (ix x1))), .inl x3, .inl x4]) (rest := []) (ctr_X5_take (xl X) (xA X) (xC X) (xI X) (xk X) (ix x1) x3 x4 m60) (by decide +kernel) rfl rfl wd_v_X6_72 rfl (h.room (by first | decide | omega) (by decide)) h.cl (Nat.le_of_ble_eq_true rfl) puV_ok rfl (fun r87 m87 _ => ?_)
          show Go X (Em X puI) 90 [some (.inr (.inr (0, 0))), some (.inl x1), some (.inl x2), some (.inl x3), some (.inl x4), some (.inr (.inr (2, (ix x1)))), some (.inl r38), some (.inl r60)] [] m87 _
          refine go_blk h.1 (is := [.aload_n 0, .getfield 42, .iconst 0, .putfield 76, .aload_n 0, .getfield 35]) (pc' := 102) (ls' := [some (.inr (.inr (0, 0))), some (.inl x1), some (.inl x2), some (.inl x3), some (.inl x4), some (.inr (.inr (2, (ix x1)))), some (.inl r38), some (.inl r60)]) (st' := [.inr (.inr (17, 0))]) (m' := (mset m87 20 0 2 (0 : Int32))) (by decide +kernel) rfl ?_
          refine go_callV h.1 (index := 79) (n := 0) (t := 17) (i := 0) (ci := 3) (nf := 5) (cz := (RX3, TX3, 5)) (as := []) (rest := []) (ctr_X3_forget (xl X) (xA X) (xC X) (xI X) (xk X) (mset m87 20 0 2 (0 : Int32))) (by decide +kernel) rfl rfl wd_v_X6_79 rfl (h.room (by first | decide | omega) (by decide)) h.cl (Nat.le_of_ble_eq_true rfl) puV_ok rfl (fun r102 m102 _ => ?_)
          show Go X (Em X puI) 105 [some (.inr (.inr (0, 0))), some (.inl x1), some (.inl x2), some (.inl x3), some (.inl x4), some (.inr (.inr (2, (ix x1)))), some (.inl r38), some (.inl r60)] [] m102 _
          refine go_blk h.1 (is := [.aload_n 0, .getfield 21, .getfield 82]) (pc' := 112) (ls' := [some (.inr (.inr (0, 0))), some (.inl x1), some (.inl x2), some (.inl x3), some (.inl x4), some (.inr (.inr (2, (ix x1)))), some (.inl r38), some (.inl r60)]) (st' := [.inl (m102 4 0 1)]) (m' := m102) (by decide +kernel) rfl ?_
          exact go_iret h.1 h.2.2.2.2 (by decide +kernel)
        · refine go_blk h.1 (is := [.bipush (-100), .iload 7, .isub]) (pc' := 77) (ls' := [some (.inr (.inr (0, 0))), some (.inl x1), some (.inl x2), some (.inl x3), some (.inl x4), some (.inr (.inr (2, (ix x1)))), some (.inl r38), some (.inl r60)]) (st' := [.inl ((-100 : Int32) - r60)]) (m' := m60) (by decide +kernel) rfl ?_
          exact go_iret h.1 h.2.2.2.2 (by decide +kernel)
      · refine go_blk h.1 (is := [.aload_n 0, .iload 6]) (pc' := 51) (ls' := [some (.inr (.inr (0, 0))), some (.inl x1), some (.inl x2), some (.inl x3), some (.inl x4), some (.inr (.inr (2, (ix x1)))), some (.inl r38), none]) (st' := [.inl r38, .inr (.inr (0, 0))]) (m' := m38) (by decide +kernel) rfl ?_
        refine go_callV h.1 (index := 64) (n := 1) (t := 0) (i := 0) (ci := 6) (nf := 7) (cz := (RX6, TX6, 7)) (as := [.inl r38]) (rest := []) (ctr_X6_faulty (xl X) (xA X) (xC X) (xI X) (xk X) r38 m38) (by decide +kernel) rfl rfl wd_v_X6_64 rfl (h.room (by first | decide | omega) (by decide)) h.cl (Nat.le_of_ble_eq_true rfl) puI_ok rfl (fun r51 m51 _ => ?_)
        show Go X (Em X puI) 54 [some (.inr (.inr (0, 0))), some (.inl x1), some (.inl x2), some (.inl x3), some (.inl x4), some (.inr (.inr (2, (ix x1)))), some (.inl r38), none] [.inl r51] m51 _
        exact go_iret h.1 h.2.2.2.2 (by decide +kernel)
    · refine go_blk h.1 (is := [.bipush (-2)]) (pc' := 23) (ls' := [some (.inr (.inr (0, 0))), some (.inl x1), some (.inl x2), some (.inl x3), some (.inl x4), none, none, none]) (st' := [.inl (-2 : Int32)]) (m' := m15) (by decide +kernel) rfl ?_
      exact go_iret h.1 h.2.2.2.2 (by decide +kernel)
  · refine go_blk h.1 (is := [.iconst (-1)]) (pc' := 13) (ls' := [some (.inr (.inr (0, 0))), some (.inl x1), some (.inl x2), some (.inl x3), some (.inl x4), none, none, none]) (st' := [.inl (-1 : Int32)]) (m' := m6) (by decide +kernel) rfl ?_
    exact go_iret h.1 h.2.2.2.2 (by decide +kernel)
theorem ctr_X6_ford (l : Launch) (A : AR → Nat) (dC : Nat → ClassId) (dI : Nat → Nat → Nat) (cs : Nat → ClassId) (x1 : Int32) (x2 : Int32) (x3 : Int32) (x4 : Int32) (m : Mem) : Ctr l A dC dI cs yX6_ford prog_1_method_2_code 8 (some .int) 4 puI [.inr (.inr (0, 0)), .inl x1, .inl x2, .inl x3, .inl x4] m (f_X6_ford x1 x2 x3 x4 m) :=
  ctr_of (P := P_X6) (by decide +kernel) rfl pt_X6 rfl rfl (fun X hC _ _ _ _ _ hR h0 h1 hr => g_X6_ford ⟨hC, hR, h0, h1, hr⟩ x1 x2 x3 x4 m)

def f_X5_has (x1 : Int32) (m : Mem) : Option (Int32 × Mem) :=
  if x1 < 0 then
    some ((0 : Int32), m)
  else
    if (m 4 0 1) ≤ x1 then
      some ((0 : Int32), m)
    else
      some ((1 : Int32), m)
theorem g_X5_has {X : XT} (h : MX X prog_7_method_2_code P_X5 0 (some .boolean)) (x1 : Int32) (m : Mem) : Go X (Em X puI) 0 [some (.inr (.inr (4, 0))), some (.inl x1)] [] m (f_X5_has x1 m) := by
  unfold f_X5_has
  refine go_blk h.1 (is := [.iload_n 1]) (pc' := 1) (ls' := [some (.inr (.inr (4, 0))), some (.inl x1)]) (st' := [.inl x1]) (m' := m) (by decide +kernel) rfl ?_
  refine go_iflt h.1 (off := 15) 16 (by decide +kernel) (by decide) (fun c1 => ?_) (fun c1 => ?_)
  · refine go_blk h.1 (is := [.iconst 0]) (pc' := 17) (ls' := [some (.inr (.inr (4, 0))), some (.inl x1)]) (st' := [.inl (0 : Int32)]) (m' := m) (by decide +kernel) rfl ?_
    exact go_zret h.1 h.2.2.2.2 (Or.inl rfl) (by decide +kernel)
  · refine go_blk h.1 (is := [.iload_n 1, .aload_n 0, .getfield 18]) (pc' := 9) (ls' := [some (.inr (.inr (4, 0))), some (.inl x1)]) (st' := [.inl (m 4 0 1), .inl x1]) (m' := m) (by decide +kernel) rfl ?_
    refine go_icmpge h.1 (off := 7) 16 (by decide +kernel) (by decide) (fun c9 => ?_) (fun c9 => ?_)
    · refine go_blk h.1 (is := [.iconst 0]) (pc' := 17) (ls' := [some (.inr (.inr (4, 0))), some (.inl x1)]) (st' := [.inl (0 : Int32)]) (m' := m) (by decide +kernel) rfl ?_
      exact go_zret h.1 h.2.2.2.2 (Or.inl rfl) (by decide +kernel)
    · refine go_blk h.1 (is := [.iconst 1]) (pc' := 13) (ls' := [some (.inr (.inr (4, 0))), some (.inl x1)]) (st' := [.inl (1 : Int32)]) (m' := m) (by decide +kernel) rfl ?_
      refine go_goto h.1 (off := 4) 17 (by decide +kernel) (by decide) ?_
      exact go_zret h.1 h.2.2.2.2 (Or.inr rfl) (by decide +kernel)
theorem ctr_X5_has (l : Launch) (A : AR → Nat) (dC : Nat → ClassId) (dI : Nat → Nat → Nat) (cs : Nat → ClassId) (x1 : Int32) (m : Mem) : Ctr l A dC dI cs yX5_has prog_7_method_2_code 2 (some .boolean) 0 puI [.inr (.inr (4, 0)), .inl x1] m (f_X5_has x1 m) :=
  ctr_of (P := P_X5) (by decide +kernel) rfl pt_X5 rfl rfl (fun X hC _ _ _ _ _ hR h0 h1 hr => g_X5_has ⟨hC, hR, h0, h1, hr⟩ x1 m)

def f_X6_shareOf (x0 : Int32) (x1 : Int32) (m : Mem) : Option (Int32 × Mem) :=
  if x0 = (1 : Int32) then
    some ((x1 - (1 : Int32)), m)
  else
    if x0 = (2 : Int32) then
      if ¬ (2 : Int32) = 0 then
        some (((x1 - (1 : Int32)) / (2 : Int32)), m)
      else none
    else
      some (x1, m)
theorem g_X6_shareOf {X : XT} (h : MX X prog_1_method_35_code P_X6 0 (some .int)) (x0 : Int32) (x1 : Int32) (m : Mem) : Go X (Em X puI) 0 [some (.inl x0), some (.inl x1)] [] m (f_X6_shareOf x0 x1 m) := by
  unfold f_X6_shareOf
  refine go_blk h.1 (is := [.iload_n 0]) (pc' := 1) (ls' := [some (.inl x0), some (.inl x1)]) (st' := [.inl x0]) (m' := m) (by decide +kernel) rfl ?_
  refine go_ite (fun w1_0 => ?_) (fun w1_0 => ?_)
  · refine go_lsIn h.1 (dflt := 37) (ps := #[(1, 33), (2, 27)]) (len := 27) (off := 33) (1 : Int32) 34 w1_0 (by decide +kernel) (by decide) rfl (by decide) ?_
    refine go_blk h.1 (is := [.iload_n 1, .iconst 1, .isub]) (pc' := 37) (ls' := [some (.inl x0), some (.inl x1)]) (st' := [.inl (x1 - (1 : Int32))]) (m' := m) (by decide +kernel) rfl ?_
    exact go_iret h.1 h.2.2.2.2 (by decide +kernel)
  · refine go_ite (fun w1_1 => ?_) (fun w1_1 => ?_)
    · refine go_lsIn h.1 (dflt := 37) (ps := #[(1, 33), (2, 27)]) (len := 27) (off := 27) (2 : Int32) 28 w1_1 (by decide +kernel) (by decide) rfl (by decide) ?_
      refine go_blk h.1 (is := [.iload_n 1, .iconst 1, .isub, .iconst 2]) (pc' := 32) (ls' := [some (.inl x0), some (.inl x1)]) (st' := [.inl (2 : Int32), .inl (x1 - (1 : Int32))]) (m' := m) (by decide +kernel) rfl ?_
      refine go_idiv h.1 (by decide +kernel) (fun z32 => ?_)
      exact go_iret h.1 h.2.2.2.2 (by decide +kernel)
    · refine go_ls h.1 (dflt := 37) (ps := #[(1, 33), (2, 27)]) (len := 27) 38 (off := 37) (by decide +kernel) (by decide) (by simp only [Op.lookupswitch.offset]; rw [if_neg (fun q => toInt_ne w1_0 q.symm)]; rw [if_neg (fun q => toInt_ne w1_1 q.symm)]) (by decide) ?_
      refine go_blk h.1 (is := [.iload_n 1]) (pc' := 39) (ls' := [some (.inl x0), some (.inl x1)]) (st' := [.inl x1]) (m' := m) (by decide +kernel) rfl ?_
      exact go_iret h.1 h.2.2.2.2 (by decide +kernel)
theorem ctr_X6_shareOf (l : Launch) (A : AR → Nat) (dC : Nat → ClassId) (dI : Nat → Nat → Nat) (cs : Nat → ClassId) (x0 : Int32) (x1 : Int32) (m : Mem) : Ctr l A dC dI cs yX6_shareOf prog_1_method_35_code 2 (some .int) 0 puI [.inl x0, .inl x1] m (f_X6_shareOf x0 x1 m) :=
  ctr_of (P := P_X6) (by decide +kernel) rfl pt_X6 rfl rfl (fun X hC _ _ _ _ _ hR h0 h1 hr => g_X6_shareOf ⟨hC, hR, h0, h1, hr⟩ x0 x1 m)

def f_X6_ofFish (x1 : Int32) (x2 : Int32) (m : Mem) : Option (Int32 × Mem) :=
  bnd (f_X5_has x1 m) (fun r5 m5 =>
    if r5 = 0 then
      some ((-1 : Int32), m5)
    else
      if inB x1 5 = true then
        if x2 = (0 : Int32) then
          some ((m5 6 (ix x1) 0), m5)
        else
          if x2 = (1 : Int32) then
            some ((m5 6 (ix x1) 1), m5)
          else
            if x2 = (2 : Int32) then
              some ((m5 6 (ix x1) 2), m5)
            else
              if x2 = (3 : Int32) then
                some ((m5 6 (ix x1) 3), m5)
              else
                if x2 = (4 : Int32) then
                  some ((m5 6 (ix x1) 4), m5)
                else
                  if x2 = (5 : Int32) then
                    bnd (f_X6_shareOf (m5 6 (ix x1) 0) (m5 6 (ix x1) 1) m5) (fun r97 m97 =>
                      some (r97, m97))
                  else
                    some ((-2 : Int32), m5)
      else none)
theorem g_X6_ofFish {X : XT} (h : MX X prog_1_method_3_code P_X6 1 (some .int)) (x1 : Int32) (x2 : Int32) (m : Mem) : Go X (Em X puI) 0 [some (.inr (.inr (0, 0))), some (.inl x1), some (.inl x2), none] [] m (f_X6_ofFish x1 x2 m) := by
  unfold f_X6_ofFish
  refine go_blk h.1 (is := [.aload_n 0, .getfield 21, .iload_n 1]) (pc' := 5) (ls' := [some (.inr (.inr (0, 0))), some (.inl x1), some (.inl x2), none]) (st' := [.inl x1, .inr (.inr (4, 0))]) (m' := m) (by decide +kernel) rfl ?_
  refine go_callV h.1 (index := 83) (n := 1) (t := 4) (i := 0) (ci := 5) (nf := 4) (cz := (RX5, TX5, 4)) (as := [.inl x1]) (rest := []) (ctr_X5_has (xl X) (xA X) (xC X) (xI X) (xk X) x1 m) (by decide +kernel) rfl rfl wd_v_X6_83 rfl (h.room (by first | decide | omega) (by decide)) h.cl (Nat.le_of_ble_eq_true rfl) puI_ok rfl (fun r5 m5 _ => ?_)
  show Go X (Em X puI) 8 [some (.inr (.inr (0, 0))), some (.inl x1), some (.inl x2), none] [.inl r5] m5 _
  refine go_ifne h.1 (off := 5) 13 (by decide +kernel) (by decide) (fun c8 => ?_) (fun c8 => ?_)
  · refine go_blk h.1 (is := [.aload_n 0, .getfield 21, .getfield 86, .iload_n 1]) (pc' := 21) (ls' := [some (.inr (.inr (0, 0))), some (.inl x1), some (.inl x2), none]) (st' := [.inl x1, .inr (.inr (5, 0))]) (m' := m5) (by decide +kernel) rfl ?_
    refine go_aald h.1 (kd := 1) (z := (6, (ix x1))) (by decide +kernel) rfl rfl (by decide) rfl (fun b21 => ?_)
    refine go_blk h.1 (is := [.astore_n 3, .iload_n 2]) (pc' := 24) (ls' := [some (.inr (.inr (0, 0))), some (.inl x1), some (.inl x2), some (.inr (.inr (6, (ix x1))))]) (st' := [.inl x2]) (m' := m5) (by decide +kernel) rfl ?_
    refine go_ite (fun w24_0 => ?_) (fun w24_0 => ?_)
    · refine go_tsIn h.1 (dflt := 77) (lo := 0) (hi := 5) (offs := #[40, 45, 50, 55, 60, 65]) (len := 40) (off := 40) (0 : Int32) 64 w24_0 (by decide +kernel) (by decide) rfl (by decide) ?_
      refine go_blk h.1 (is := [.aload_n 3, .getfield 90]) (pc' := 68) (ls' := [some (.inr (.inr (0, 0))), some (.inl x1), some (.inl x2), some (.inr (.inr (6, (ix x1))))]) (st' := [.inl (m5 6 (ix x1) 0)]) (m' := m5) (by decide +kernel) rfl ?_
      exact go_iret h.1 h.2.2.2.2 (by decide +kernel)
    · refine go_ite (fun w24_1 => ?_) (fun w24_1 => ?_)
      · refine go_tsIn h.1 (dflt := 77) (lo := 0) (hi := 5) (offs := #[40, 45, 50, 55, 60, 65]) (len := 40) (off := 45) (1 : Int32) 69 w24_1 (by decide +kernel) (by decide) rfl (by decide) ?_
        refine go_blk h.1 (is := [.aload_n 3, .getfield 95]) (pc' := 73) (ls' := [some (.inr (.inr (0, 0))), some (.inl x1), some (.inl x2), some (.inr (.inr (6, (ix x1))))]) (st' := [.inl (m5 6 (ix x1) 1)]) (m' := m5) (by decide +kernel) rfl ?_
        exact go_iret h.1 h.2.2.2.2 (by decide +kernel)
      · refine go_ite (fun w24_2 => ?_) (fun w24_2 => ?_)
        · refine go_tsIn h.1 (dflt := 77) (lo := 0) (hi := 5) (offs := #[40, 45, 50, 55, 60, 65]) (len := 40) (off := 50) (2 : Int32) 74 w24_2 (by decide +kernel) (by decide) rfl (by decide) ?_
          refine go_blk h.1 (is := [.aload_n 3, .getfield 98]) (pc' := 78) (ls' := [some (.inr (.inr (0, 0))), some (.inl x1), some (.inl x2), some (.inr (.inr (6, (ix x1))))]) (st' := [.inl (m5 6 (ix x1) 2)]) (m' := m5) (by decide +kernel) rfl ?_
          exact go_iret h.1 h.2.2.2.2 (by decide +kernel)
        · refine go_ite (fun w24_3 => ?_) (fun w24_3 => ?_)
          · refine go_tsIn h.1 (dflt := 77) (lo := 0) (hi := 5) (offs := #[40, 45, 50, 55, 60, 65]) (len := 40) (off := 55) (3 : Int32) 79 w24_3 (by decide +kernel) (by decide) rfl (by decide) ?_
            refine go_blk h.1 (is := [.aload_n 3, .getfield 101]) (pc' := 83) (ls' := [some (.inr (.inr (0, 0))), some (.inl x1), some (.inl x2), some (.inr (.inr (6, (ix x1))))]) (st' := [.inl (m5 6 (ix x1) 3)]) (m' := m5) (by decide +kernel) rfl ?_
            exact go_iret h.1 h.2.2.2.2 (by decide +kernel)
          · refine go_ite (fun w24_4 => ?_) (fun w24_4 => ?_)
            · refine go_tsIn h.1 (dflt := 77) (lo := 0) (hi := 5) (offs := #[40, 45, 50, 55, 60, 65]) (len := 40) (off := 60) (4 : Int32) 84 w24_4 (by decide +kernel) (by decide) rfl (by decide) ?_
              refine go_blk h.1 (is := [.aload_n 3, .getfield 104]) (pc' := 88) (ls' := [some (.inr (.inr (0, 0))), some (.inl x1), some (.inl x2), some (.inr (.inr (6, (ix x1))))]) (st' := [.inl (m5 6 (ix x1) 4)]) (m' := m5) (by decide +kernel) rfl ?_
              exact go_iret h.1 h.2.2.2.2 (by decide +kernel)
            · refine go_ite (fun w24_5 => ?_) (fun w24_5 => ?_)
              · refine go_tsIn h.1 (dflt := 77) (lo := 0) (hi := 5) (offs := #[40, 45, 50, 55, 60, 65]) (len := 40) (off := 65) (5 : Int32) 89 w24_5 (by decide +kernel) (by decide) rfl (by decide) ?_
                refine go_blk h.1 (is := [.aload_n 3, .getfield 90, .aload_n 3, .getfield 95]) (pc' := 97) (ls' := [some (.inr (.inr (0, 0))), some (.inl x1), some (.inl x2), some (.inr (.inr (6, (ix x1))))]) (st' := [.inl (m5 6 (ix x1) 1), .inl (m5 6 (ix x1) 0)]) (m' := m5) (by decide +kernel) rfl ?_
                refine go_callS h.1 (index := 107) (n := 2) (as := [.inl (m5 6 (ix x1) 0), .inl (m5 6 (ix x1) 1)]) (rest := []) (ctr_X6_shareOf (xl X) (xA X) (xC X) (xI X) (xk X) (m5 6 (ix x1) 0) (m5 6 (ix x1) 1) m5) (by decide +kernel) wd_s_X6_107 rfl (h.room (by first | decide | omega) (by decide)) h.cl (Nat.le_of_ble_eq_true rfl) puI_ok rfl (fun r97 m97 _ => ?_)
                show Go X (Em X puI) 100 [some (.inr (.inr (0, 0))), some (.inl x1), some (.inl x2), some (.inr (.inr (6, (ix x1))))] [.inl r97] m97 _
                exact go_iret h.1 h.2.2.2.2 (by decide +kernel)
              · refine go_tsOut h.1 (dflt := 77) (lo := 0) (hi := 5) (offs := #[40, 45, 50, 55, 60, 65]) (len := 40) 101 (by decide +kernel) (sw_out (n := 6) (by decide) ((lt_s (lt_s (lt_s (lt_s (lt_s (lt_s lt_0 w24_0) w24_1) w24_2) w24_3) w24_4) w24_5) : ∀ j : Nat, j < 6 → ¬ x2 = Int32.ofInt (0 + (j : Int)))) (by decide) ?_
                refine go_blk h.1 (is := [.bipush (-2)]) (pc' := 103) (ls' := [some (.inr (.inr (0, 0))), some (.inl x1), some (.inl x2), some (.inr (.inr (6, (ix x1))))]) (st' := [.inl (-2 : Int32)]) (m' := m5) (by decide +kernel) rfl ?_
                exact go_iret h.1 h.2.2.2.2 (by decide +kernel)
  · refine go_blk h.1 (is := [.iconst (-1)]) (pc' := 12) (ls' := [some (.inr (.inr (0, 0))), some (.inl x1), some (.inl x2), none]) (st' := [.inl (-1 : Int32)]) (m' := m5) (by decide +kernel) rfl ?_
    exact go_iret h.1 h.2.2.2.2 (by decide +kernel)
theorem ctr_X6_ofFish (l : Launch) (A : AR → Nat) (dC : Nat → ClassId) (dI : Nat → Nat → Nat) (cs : Nat → ClassId) (x1 : Int32) (x2 : Int32) (m : Mem) : Ctr l A dC dI cs yX6_ofFish prog_1_method_3_code 4 (some .int) 1 puI [.inr (.inr (0, 0)), .inl x1, .inl x2] m (f_X6_ofFish x1 x2 m) :=
  ctr_of (P := P_X6) (by decide +kernel) rfl pt_X6 rfl rfl (fun X hC _ _ _ _ _ hR h0 h1 hr => g_X6_ofFish ⟨hC, hR, h0, h1, hr⟩ x1 x2 m)

def f_X6_dear (x1 : Int32) (m : Mem) : Option (Int32 × Mem) :=
  bnd (f_X6_isWithin x1 (0 : Int32) (9 : Int32) m) (fun r4 m4 =>
    if r4 = 0 then
      some ((-2 : Int32), m4)
    else
      if (m4 4 0 1) = 0 then
        some ((-3 : Int32), m4)
      else
        bnd (f_X3_forget (mset m4 4 0 2 x1)) (fun _ m46 =>
          some ((m4 4 0 2), m46)))
theorem g_X6_dear {X : XT} (h : MX X prog_1_method_4_code P_X6 1 (some .int)) (x1 : Int32) (m : Mem) : Go X (Em X puI) 0 [some (.inr (.inr (0, 0))), some (.inl x1), none] [] m (f_X6_dear x1 m) := by
  unfold f_X6_dear
  refine go_blk h.1 (is := [.iload_n 1, .iconst 0, .bipush 9]) (pc' := 4) (ls' := [some (.inr (.inr (0, 0))), some (.inl x1), none]) (st' := [.inl (9 : Int32), .inl (0 : Int32), .inl x1]) (m' := m) (by decide +kernel) rfl ?_
  refine go_callS h.1 (index := 111) (n := 3) (as := [.inl x1, .inl (0 : Int32), .inl (9 : Int32)]) (rest := []) (ctr_X6_isWithin (xl X) (xA X) (xC X) (xI X) (xk X) x1 (0 : Int32) (9 : Int32) m) (by decide +kernel) wd_s_X6_111 rfl (h.room (by first | decide | omega) (by decide)) h.cl (Nat.le_of_ble_eq_true rfl) puI_ok rfl (fun r4 m4 _ => ?_)
  show Go X (Em X puI) 7 [some (.inr (.inr (0, 0))), some (.inl x1), none] [.inl r4] m4 _
  refine go_ifne h.1 (off := 6) 13 (by decide +kernel) (by decide) (fun c7 => ?_) (fun c7 => ?_)
  · refine go_blk h.1 (is := [.aload_n 0, .getfield 21, .getfield 82]) (pc' := 20) (ls' := [some (.inr (.inr (0, 0))), some (.inl x1), none]) (st' := [.inl (m4 4 0 1)]) (m' := m4) (by decide +kernel) rfl ?_
    refine go_ifne h.1 (off := 6) 26 (by decide +kernel) (by decide) (fun c20 => ?_) (fun c20 => ?_)
    · refine go_blk h.1 (is := [.aload_n 0, .getfield 21, .getfield 115, .istore_n 2, .aload_n 0, .getfield 21, .iload_n 1, .putfield 115, .aload_n 0, .getfield 35]) (pc' := 46) (ls' := [some (.inr (.inr (0, 0))), some (.inl x1), some (.inl (m4 4 0 2))]) (st' := [.inr (.inr (17, 0))]) (m' := (mset m4 4 0 2 x1)) (by decide +kernel) rfl ?_
      refine go_callV h.1 (index := 79) (n := 0) (t := 17) (i := 0) (ci := 3) (nf := 5) (cz := (RX3, TX3, 5)) (as := []) (rest := []) (ctr_X3_forget (xl X) (xA X) (xC X) (xI X) (xk X) (mset m4 4 0 2 x1)) (by decide +kernel) rfl rfl wd_v_X6_79 rfl (h.room (by first | decide | omega) (by decide)) h.cl (Nat.le_of_ble_eq_true rfl) puV_ok rfl (fun r46 m46 _ => ?_)
      show Go X (Em X puI) 49 [some (.inr (.inr (0, 0))), some (.inl x1), some (.inl (m4 4 0 2))] [] m46 _
      refine go_blk h.1 (is := [.iload_n 2]) (pc' := 50) (ls' := [some (.inr (.inr (0, 0))), some (.inl x1), some (.inl (m4 4 0 2))]) (st' := [.inl (m4 4 0 2)]) (m' := m46) (by decide +kernel) rfl ?_
      exact go_iret h.1 h.2.2.2.2 (by decide +kernel)
    · refine go_blk h.1 (is := [.bipush (-3)]) (pc' := 25) (ls' := [some (.inr (.inr (0, 0))), some (.inl x1), none]) (st' := [.inl (-3 : Int32)]) (m' := m4) (by decide +kernel) rfl ?_
      exact go_iret h.1 h.2.2.2.2 (by decide +kernel)
  · refine go_blk h.1 (is := [.bipush (-2)]) (pc' := 12) (ls' := [some (.inr (.inr (0, 0))), some (.inl x1), none]) (st' := [.inl (-2 : Int32)]) (m' := m4) (by decide +kernel) rfl ?_
    exact go_iret h.1 h.2.2.2.2 (by decide +kernel)
theorem ctr_X6_dear (l : Launch) (A : AR → Nat) (dC : Nat → ClassId) (dI : Nat → Nat → Nat) (cs : Nat → ClassId) (x1 : Int32) (m : Mem) : Ctr l A dC dI cs yX6_dear prog_1_method_4_code 3 (some .int) 1 puI [.inr (.inr (0, 0)), .inl x1] m (f_X6_dear x1 m) :=
  ctr_of (P := P_X6) (by decide +kernel) rfl pt_X6 rfl rfl (fun X hC _ _ _ _ _ hR h0 h1 hr => g_X6_dear ⟨hC, hR, h0, h1, hr⟩ x1 m)

def f_X6_scales (x1 : Int32) (x2 : Int32) (m : Mem) : Option (Int32 × Mem) :=
  bnd (f_X5_has x1 m) (fun r5 m5 =>
    if r5 = 0 then
      some ((-1 : Int32), m5)
    else
      bnd (f_X6_isWithin x2 (0 : Int32) (99 : Int32) m5) (fun r17 m17 =>
        if r17 = 0 then
          some ((-2 : Int32), m17)
        else
          if inB x1 5 = true then
            if inB x1 5 = true then
              bnd (f_X3_forget (mset m17 6 (ix x1) 2 x2)) (fun _ m56 =>
                some ((m17 6 (ix x1) 2), m56))
            else none
          else none))
theorem g_X6_scales {X : XT} (h : MX X prog_1_method_5_code P_X6 1 (some .int)) (x1 : Int32) (x2 : Int32) (m : Mem) : Go X (Em X puI) 0 [some (.inr (.inr (0, 0))), some (.inl x1), some (.inl x2), none] [] m (f_X6_scales x1 x2 m) := by
  unfold f_X6_scales
  refine go_blk h.1 (is := [.aload_n 0, .getfield 21, .iload_n 1]) (pc' := 5) (ls' := [some (.inr (.inr (0, 0))), some (.inl x1), some (.inl x2), none]) (st' := [.inl x1, .inr (.inr (4, 0))]) (m' := m) (by decide +kernel) rfl ?_
  refine go_callV h.1 (index := 83) (n := 1) (t := 4) (i := 0) (ci := 5) (nf := 4) (cz := (RX5, TX5, 4)) (as := [.inl x1]) (rest := []) (ctr_X5_has (xl X) (xA X) (xC X) (xI X) (xk X) x1 m) (by decide +kernel) rfl rfl wd_v_X6_83 rfl (h.room (by first | decide | omega) (by decide)) h.cl (Nat.le_of_ble_eq_true rfl) puI_ok rfl (fun r5 m5 _ => ?_)
  show Go X (Em X puI) 8 [some (.inr (.inr (0, 0))), some (.inl x1), some (.inl x2), none] [.inl r5] m5 _
  refine go_ifne h.1 (off := 5) 13 (by decide +kernel) (by decide) (fun c8 => ?_) (fun c8 => ?_)
  · refine go_blk h.1 (is := [.iload_n 2, .iconst 0, .bipush 99]) (pc' := 17) (ls' := [some (.inr (.inr (0, 0))), some (.inl x1), some (.inl x2), none]) (st' := [.inl (99 : Int32), .inl (0 : Int32), .inl x2]) (m' := m5) (by decide +kernel) rfl ?_
    refine go_callS h.1 (index := 111) (n := 3) (as := [.inl x2, .inl (0 : Int32), .inl (99 : Int32)]) (rest := []) (ctr_X6_isWithin (xl X) (xA X) (xC X) (xI X) (xk X) x2 (0 : Int32) (99 : Int32) m5) (by decide +kernel) wd_s_X6_111 rfl (h.room (by first | decide | omega) (by decide)) h.cl (Nat.le_of_ble_eq_true rfl) puI_ok rfl (fun r17 m17 _ => ?_)
    show Go X (Em X puI) 20 [some (.inr (.inr (0, 0))), some (.inl x1), some (.inl x2), none] [.inl r17] m17 _
    refine go_ifne h.1 (off := 6) 26 (by decide +kernel) (by decide) (fun c20 => ?_) (fun c20 => ?_)
    · refine go_blk h.1 (is := [.aload_n 0, .getfield 21, .getfield 86, .iload_n 1]) (pc' := 34) (ls' := [some (.inr (.inr (0, 0))), some (.inl x1), some (.inl x2), none]) (st' := [.inl x1, .inr (.inr (5, 0))]) (m' := m17) (by decide +kernel) rfl ?_
      refine go_aald h.1 (kd := 1) (z := (6, (ix x1))) (by decide +kernel) rfl rfl (by decide) rfl (fun b34 => ?_)
      refine go_blk h.1 (is := [.getfield 98, .istore_n 3, .aload_n 0, .getfield 21, .getfield 86, .iload_n 1]) (pc' := 47) (ls' := [some (.inr (.inr (0, 0))), some (.inl x1), some (.inl x2), some (.inl (m17 6 (ix x1) 2))]) (st' := [.inl x1, .inr (.inr (5, 0))]) (m' := m17) (by decide +kernel) rfl ?_
      refine go_aald h.1 (kd := 1) (z := (6, (ix x1))) (by decide +kernel) rfl rfl (by decide) rfl (fun b47 => ?_)
      refine go_blk h.1 (is := [.iload_n 2, .putfield 98, .aload_n 0, .getfield 35]) (pc' := 56) (ls' := [some (.inr (.inr (0, 0))), some (.inl x1), some (.inl x2), some (.inl (m17 6 (ix x1) 2))]) (st' := [.inr (.inr (17, 0))]) (m' := (mset m17 6 (ix x1) 2 x2)) (by decide +kernel) rfl ?_
      refine go_callV h.1 (index := 79) (n := 0) (t := 17) (i := 0) (ci := 3) (nf := 5) (cz := (RX3, TX3, 5)) (as := []) (rest := []) (ctr_X3_forget (xl X) (xA X) (xC X) (xI X) (xk X) (mset m17 6 (ix x1) 2 x2)) (by decide +kernel) rfl rfl wd_v_X6_79 rfl (h.room (by first | decide | omega) (by decide)) h.cl (Nat.le_of_ble_eq_true rfl) puV_ok rfl (fun r56 m56 _ => ?_)
      show Go X (Em X puI) 59 [some (.inr (.inr (0, 0))), some (.inl x1), some (.inl x2), some (.inl (m17 6 (ix x1) 2))] [] m56 _
      refine go_blk h.1 (is := [.iload_n 3]) (pc' := 60) (ls' := [some (.inr (.inr (0, 0))), some (.inl x1), some (.inl x2), some (.inl (m17 6 (ix x1) 2))]) (st' := [.inl (m17 6 (ix x1) 2)]) (m' := m56) (by decide +kernel) rfl ?_
      exact go_iret h.1 h.2.2.2.2 (by decide +kernel)
    · refine go_blk h.1 (is := [.bipush (-2)]) (pc' := 25) (ls' := [some (.inr (.inr (0, 0))), some (.inl x1), some (.inl x2), none]) (st' := [.inl (-2 : Int32)]) (m' := m17) (by decide +kernel) rfl ?_
      exact go_iret h.1 h.2.2.2.2 (by decide +kernel)
  · refine go_blk h.1 (is := [.iconst (-1)]) (pc' := 12) (ls' := [some (.inr (.inr (0, 0))), some (.inl x1), some (.inl x2), none]) (st' := [.inl (-1 : Int32)]) (m' := m5) (by decide +kernel) rfl ?_
    exact go_iret h.1 h.2.2.2.2 (by decide +kernel)
theorem ctr_X6_scales (l : Launch) (A : AR → Nat) (dC : Nat → ClassId) (dI : Nat → Nat → Nat) (cs : Nat → ClassId) (x1 : Int32) (x2 : Int32) (m : Mem) : Ctr l A dC dI cs yX6_scales prog_1_method_5_code 4 (some .int) 1 puI [.inr (.inr (0, 0)), .inl x1, .inl x2] m (f_X6_scales x1 x2 m) :=
  ctr_of (P := P_X6) (by decide +kernel) rfl pt_X6 rfl rfl (fun X hC _ _ _ _ _ hR h0 h1 hr => g_X6_scales ⟨hC, hR, h0, h1, hr⟩ x1 x2 m)
end
section
/-! ===== printed by wip/whole/tr.py out of the listing ===== -/
def f_X6_hear (x1 : Int32) (m : Mem) : Option (Int32 × Mem) :=
  bnd (f_X6_isWithin x1 (0 : Int32) (63 : Int32) m) (fun r4 m4 =>
    if r4 = 0 then
      some ((-2 : Int32), m4)
    else
      if (m4 4 0 1) = 0 then
        some ((-3 : Int32), m4)
      else
        bnd (f_X3_forget (mset m4 4 0 3 x1)) (fun _ m46 =>
          some ((m4 4 0 3), m46)))
theorem g_X6_hear {X : XT} (h : MX X prog_1_method_6_code P_X6 1 (some .int)) (x1 : Int32) (m : Mem) : Go X (Em X puI) 0 [some (.inr (.inr (0, 0))), some (.inl x1), none] [] m (f_X6_hear x1 m) := by
  unfold f_X6_hear
  refine go_blk h.1 (is := [.iload_n 1, .iconst 0, .bipush 63]) (pc' := 4) (ls' := [some (.inr (.inr (0, 0))), some (.inl x1), none]) (st' := [.inl (63 : Int32), .inl (0 : Int32), .inl x1]) (m' := m) (by decide +kernel) rfl ?_
  refine go_callS h.1 (index := 111) (n := 3) (as := [.inl x1, .inl (0 : Int32), .inl (63 : Int32)]) (rest := []) (ctr_X6_isWithin (xl X) (xA X) (xC X) (xI X) (xk X) x1 (0 : Int32) (63 : Int32) m) (by decide +kernel) wd_s_X6_111 rfl (h.room (by first | decide | omega) (by decide)) h.cl (Nat.le_of_ble_eq_true rfl) puI_ok rfl (fun r4 m4 _ => ?_)
  show Go X (Em X puI) 7 [some (.inr (.inr (0, 0))), some (.inl x1), none] [.inl r4] m4 _
  refine go_ifne h.1 (off := 6) 13 (by decide +kernel) (by decide) (fun c7 => ?_) (fun c7 => ?_)
  · refine go_blk h.1 (is := [.aload_n 0, .getfield 21, .getfield 82]) (pc' := 20) (ls' := [some (.inr (.inr (0, 0))), some (.inl x1), none]) (st' := [.inl (m4 4 0 1)]) (m' := m4) (by decide +kernel) rfl ?_
    refine go_ifne h.1 (off := 6) 26 (by decide +kernel) (by decide) (fun c20 => ?_) (fun c20 => ?_)
    · refine go_blk h.1 (is := [.aload_n 0, .getfield 21, .getfield 118, .istore_n 2, .aload_n 0, .getfield 21, .iload_n 1, .putfield 118, .aload_n 0, .getfield 35]) (pc' := 46) (ls' := [some (.inr (.inr (0, 0))), some (.inl x1), some (.inl (m4 4 0 3))]) (st' := [.inr (.inr (17, 0))]) (m' := (mset m4 4 0 3 x1)) (by decide +kernel) rfl ?_
      refine go_callV h.1 (index := 79) (n := 0) (t := 17) (i := 0) (ci := 3) (nf := 5) (cz := (RX3, TX3, 5)) (as := []) (rest := []) (ctr_X3_forget (xl X) (xA X) (xC X) (xI X) (xk X) (mset m4 4 0 3 x1)) (by decide +kernel) rfl rfl wd_v_X6_79 rfl (h.room (by first | decide | omega) (by decide)) h.cl (Nat.le_of_ble_eq_true rfl) puV_ok rfl (fun r46 m46 _ => ?_)
      show Go X (Em X puI) 49 [some (.inr (.inr (0, 0))), some (.inl x1), some (.inl (m4 4 0 3))] [] m46 _
      refine go_blk h.1 (is := [.iload_n 2]) (pc' := 50) (ls' := [some (.inr (.inr (0, 0))), some (.inl x1), some (.inl (m4 4 0 3))]) (st' := [.inl (m4 4 0 3)]) (m' := m46) (by decide +kernel) rfl ?_
      exact go_iret h.1 h.2.2.2.2 (by decide +kernel)
    · refine go_blk h.1 (is := [.bipush (-3)]) (pc' := 25) (ls' := [some (.inr (.inr (0, 0))), some (.inl x1), none]) (st' := [.inl (-3 : Int32)]) (m' := m4) (by decide +kernel) rfl ?_
      exact go_iret h.1 h.2.2.2.2 (by decide +kernel)
  · refine go_blk h.1 (is := [.bipush (-2)]) (pc' := 12) (ls' := [some (.inr (.inr (0, 0))), some (.inl x1), none]) (st' := [.inl (-2 : Int32)]) (m' := m4) (by decide +kernel) rfl ?_
    exact go_iret h.1 h.2.2.2.2 (by decide +kernel)
theorem ctr_X6_hear (l : Launch) (A : AR → Nat) (dC : Nat → ClassId) (dI : Nat → Nat → Nat) (cs : Nat → ClassId) (x1 : Int32) (m : Mem) : Ctr l A dC dI cs yX6_hear prog_1_method_6_code 3 (some .int) 1 puI [.inr (.inr (0, 0)), .inl x1] m (f_X6_hear x1 m) :=
  ctr_of (P := P_X6) (by decide +kernel) rfl pt_X6 rfl rfl (fun X hC _ _ _ _ _ hR h0 h1 hr => g_X6_hear ⟨hC, hR, h0, h1, hr⟩ x1 m)

def f_X6_refusalOf_b85 (x1 : Int32) (x3 : Int32) (x4 : Int32) (next : Int32 × Mem → Option (Int32 × Mem)) (exit : Mem → Option (Int32 × Mem)) (s : Int32 × Mem) : Option (Int32 × Mem) :=
  if x4 ≤ s.1 then
    exit (s.2)
  else
    if inB x1 4 = true then
      bnd (f_X4_at (ix x1) (x3 + ((2 : Int32) * s.1)) s.2) (fun r108 m108 =>
        bnd (f_X5_has r108 m108) (fun r111 m111 =>
          if r111 = 0 then
            some ((-1 : Int32), m111)
          else
            if inB x1 4 = true then
              bnd (f_X4_at (ix x1) ((x3 + ((2 : Int32) * s.1)) + (1 : Int32)) m111) (fun r133 m133 =>
                bnd (f_X6_isWithin r133 (0 : Int32) (3 : Int32) m133) (fun r138 m138 =>
                  if r138 = 0 then
                    some ((-2 : Int32), m138)
                  else
                    next ((s.1 + (1 : Int32)), m138)))
            else none))
    else none
theorem g_X6_refusalOf_b85 {X : XT} (h : MX X prog_1_method_39_code P_X6 2 (some .int)) (x1 : Int32) (x3 : Int32) (x4 : Int32) (next : Int32 × Mem → Option (Int32 × Mem)) (exit : Mem → Option (Int32 × Mem)) (hn : ∀ (s : Int32 × Mem) (o2 : Option AV) (o5 : Option AV) (o6 : Option AV), Go X (Em X puI) 85 [some (.inr (.inr (0, 0))), some (.inl x1), o2, some (.inl x3), some (.inl x4), o5, o6, some (.inl s.1)] [] s.2 (next s)) (hx : ∀ (t : Mem) (o0 : Option AV) (o1 : Option AV) (o2 : Option AV) (o3 : Option AV) (o4 : Option AV) (o5 : Option AV) (o6 : Option AV) (o7 : Option AV), Go X (Em X puI) 153 [o0, o1, o2, o3, o4, o5, o6, o7] [] t (exit t)) (s : Int32 × Mem) (o2 : Option AV) (o5 : Option AV) (o6 : Option AV) : Go X (Em X puI) 85 [some (.inr (.inr (0, 0))), some (.inl x1), o2, some (.inl x3), some (.inl x4), o5, o6, some (.inl s.1)] [] s.2 (f_X6_refusalOf_b85 x1 x3 x4 next exit s) := by
  unfold f_X6_refusalOf_b85
  refine go_blk h.1 (is := [.iload 7, .iload 4]) (pc' := 89) (ls' := [some (.inr (.inr (0, 0))), some (.inl x1), o2, some (.inl x3), some (.inl x4), o5, o6, some (.inl s.1)]) (st' := [.inl x4, .inl s.1]) (m' := s.2) (by decide +kernel) rfl ?_
  refine go_icmpge h.1 (off := 64) 153 (by decide +kernel) (by decide) (fun c89 => ?_) (fun c89 => ?_)
  · exact hx (s.2) (some (.inr (.inr (0, 0)))) (some (.inl x1)) (o2) (some (.inl x3)) (some (.inl x4)) (o5) (o6) (some (.inl s.1))
  · refine go_blk h.1 (is := [.aload_n 0, .getfield 21, .aload_n 0, .getfield 13, .iload_n 1]) (pc' := 101) (ls' := [some (.inr (.inr (0, 0))), some (.inl x1), o2, some (.inl x3), some (.inl x4), o5, o6, some (.inl s.1)]) (st' := [.inl x1, .inr (.inr (1, 0)), .inr (.inr (4, 0))]) (m' := s.2) (by decide +kernel) rfl ?_
    refine go_aald h.1 (kd := 0) (z := (2, (ix x1))) (by decide +kernel) rfl rfl (by decide) rfl (fun b101 => ?_)
    refine go_blk h.1 (is := [.iload_n 3, .iconst 2, .iload 7, .imul, .iadd]) (pc' := 108) (ls' := [some (.inr (.inr (0, 0))), some (.inl x1), o2, some (.inl x3), some (.inl x4), o5, o6, some (.inl s.1)]) (st' := [.inl (x3 + ((2 : Int32) * s.1)), .inr (.inr (2, (ix x1))), .inr (.inr (4, 0))]) (m' := s.2) (by decide +kernel) rfl ?_
    refine go_callV h.1 (index := 207) (n := 1) (t := 2) (i := (ix x1)) (ci := 4) (nf := 4) (cz := (RX4, TX4, 4)) (as := [.inl (x3 + ((2 : Int32) * s.1))]) (rest := [.inr (.inr (4, 0))]) (ctr_X4_at (xl X) (xA X) (xC X) (xI X) (xk X) (ix x1) (x3 + ((2 : Int32) * s.1)) s.2) (by decide +kernel) rfl rfl wd_v_X6_207 rfl (h.room (by first | decide | omega) (by decide)) h.cl (Nat.le_of_ble_eq_true rfl) puI_ok rfl (fun r108 m108 _ => ?_)
    show Go X (Em X puI) 111 [some (.inr (.inr (0, 0))), some (.inl x1), o2, some (.inl x3), some (.inl x4), o5, o6, some (.inl s.1)] [.inl r108, .inr (.inr (4, 0))] m108 _
    refine go_callV h.1 (index := 83) (n := 1) (t := 4) (i := 0) (ci := 5) (nf := 4) (cz := (RX5, TX5, 4)) (as := [.inl r108]) (rest := []) (ctr_X5_has (xl X) (xA X) (xC X) (xI X) (xk X) r108 m108) (by decide +kernel) rfl rfl wd_v_X6_83 rfl (h.room (by first | decide | omega) (by decide)) h.cl (Nat.le_of_ble_eq_true rfl) puI_ok rfl (fun r111 m111 _ => ?_)
    show Go X (Em X puI) 114 [some (.inr (.inr (0, 0))), some (.inl x1), o2, some (.inl x3), some (.inl x4), o5, o6, some (.inl s.1)] [.inl r111] m111 _
    refine go_ifne h.1 (off := 5) 119 (by decide +kernel) (by decide) (fun c114 => ?_) (fun c114 => ?_)
    · refine go_blk h.1 (is := [.aload_n 0, .getfield 13, .iload_n 1]) (pc' := 124) (ls' := [some (.inr (.inr (0, 0))), some (.inl x1), o2, some (.inl x3), some (.inl x4), o5, o6, some (.inl s.1)]) (st' := [.inl x1, .inr (.inr (1, 0))]) (m' := m111) (by decide +kernel) rfl ?_
      refine go_aald h.1 (kd := 0) (z := (2, (ix x1))) (by decide +kernel) rfl rfl (by decide) rfl (fun b124 => ?_)
      refine go_blk h.1 (is := [.iload_n 3, .iconst 2, .iload 7, .imul, .iadd, .iconst 1, .iadd]) (pc' := 133) (ls' := [some (.inr (.inr (0, 0))), some (.inl x1), o2, some (.inl x3), some (.inl x4), o5, o6, some (.inl s.1)]) (st' := [.inl ((x3 + ((2 : Int32) * s.1)) + (1 : Int32)), .inr (.inr (2, (ix x1)))]) (m' := m111) (by decide +kernel) rfl ?_
      refine go_callV h.1 (index := 207) (n := 1) (t := 2) (i := (ix x1)) (ci := 4) (nf := 4) (cz := (RX4, TX4, 4)) (as := [.inl ((x3 + ((2 : Int32) * s.1)) + (1 : Int32))]) (rest := []) (ctr_X4_at (xl X) (xA X) (xC X) (xI X) (xk X) (ix x1) ((x3 + ((2 : Int32) * s.1)) + (1 : Int32)) m111) (by decide +kernel) rfl rfl wd_v_X6_207 rfl (h.room (by first | decide | omega) (by decide)) h.cl (Nat.le_of_ble_eq_true rfl) puI_ok rfl (fun r133 m133 _ => ?_)
      show Go X (Em X puI) 136 [some (.inr (.inr (0, 0))), some (.inl x1), o2, some (.inl x3), some (.inl x4), o5, o6, some (.inl s.1)] [.inl r133] m133 _
      refine go_blk h.1 (is := [.iconst 0, .iconst 3]) (pc' := 138) (ls' := [some (.inr (.inr (0, 0))), some (.inl x1), o2, some (.inl x3), some (.inl x4), o5, o6, some (.inl s.1)]) (st' := [.inl (3 : Int32), .inl (0 : Int32), .inl r133]) (m' := m133) (by decide +kernel) rfl ?_
      refine go_callS h.1 (index := 111) (n := 3) (as := [.inl r133, .inl (0 : Int32), .inl (3 : Int32)]) (rest := []) (ctr_X6_isWithin (xl X) (xA X) (xC X) (xI X) (xk X) r133 (0 : Int32) (3 : Int32) m133) (by decide +kernel) wd_s_X6_111 rfl (h.room (by first | decide | omega) (by decide)) h.cl (Nat.le_of_ble_eq_true rfl) puI_ok rfl (fun r138 m138 _ => ?_)
      show Go X (Em X puI) 141 [some (.inr (.inr (0, 0))), some (.inl x1), o2, some (.inl x3), some (.inl x4), o5, o6, some (.inl s.1)] [.inl r138] m138 _
      refine go_ifne h.1 (off := 6) 147 (by decide +kernel) (by decide) (fun c141 => ?_) (fun c141 => ?_)
      · refine go_blk h.1 (is := [.iinc 7 1]) (pc' := 150) (ls' := [some (.inr (.inr (0, 0))), some (.inl x1), o2, some (.inl x3), some (.inl x4), o5, (clrL o6), some (.inl (s.1 + (1 : Int32)))]) (st' := []) (m' := m138) (by decide +kernel) rfl ?_
        refine go_goto h.1 (off := -65) 85 (by decide +kernel) (by decide) ?_
        exact hn ((s.1 + (1 : Int32)), m138) (o2) (o5) ((clrL o6))
      · refine go_blk h.1 (is := [.bipush (-2)]) (pc' := 146) (ls' := [some (.inr (.inr (0, 0))), some (.inl x1), o2, some (.inl x3), some (.inl x4), o5, o6, some (.inl s.1)]) (st' := [.inl (-2 : Int32)]) (m' := m138) (by decide +kernel) rfl ?_
        exact go_iret h.1 h.2.2.2.2 (by decide +kernel)
    · refine go_blk h.1 (is := [.iconst (-1)]) (pc' := 118) (ls' := [some (.inr (.inr (0, 0))), some (.inl x1), o2, some (.inl x3), some (.inl x4), o5, o6, some (.inl s.1)]) (st' := [.inl (-1 : Int32)]) (m' := m111) (by decide +kernel) rfl ?_
      exact go_iret h.1 h.2.2.2.2 (by decide +kernel)

def f_X6_refusalOf (x1 : Int32) (x2 : Int32) (x3 : Int32) (x4 : Int32) (x5 : Int32) (m : Mem) : Option (Int32 × Mem) :=
  bnd (f_X6_isSheet x1 (mset m 0 0 6 (0 : Int32))) (fun r6 m6 =>
    if r6 = 0 then
      some ((-1 : Int32), m6)
    else
      bnd (f_X6_isLane x2 m6) (fun r15 m15 =>
        if r15 = 0 then
          some ((-2 : Int32), m15)
        else
          bnd (f_X6_isWithin x4 (0 : Int32) (20 : Int32) m15) (fun r26 m26 =>
            if r26 = 0 then
              some ((-2 : Int32), m26)
            else
              if x5 = 0 then
                some ((-2 : Int32), m26)
              else
                if inB x1 4 = true then
                  bnd (f_X4_faultAt (ix x1) x2 x3 ((2 : Int32) * x4) m26) (fun r52 m52 =>
                    if r52 = 0 then
                      if (m52 4 0 1) = 0 then
                        some ((-3 : Int32), m52)
                      else
                        lpk (f_X6_refusalOf_b85 x1 x3 x4) fuelN ((0 : Int32), m52) (fun t85 =>
                          some ((0 : Int32), t85))
                    else
                      bnd (f_X6_faulty r52 m52) (fun r65 m65 =>
                        some (r65, m65)))
                else none)))
theorem g_X6_refusalOf {X : XT} (h : MX X prog_1_method_39_code P_X6 2 (some .int)) (x1 : Int32) (x2 : Int32) (x3 : Int32) (x4 : Int32) (x5 : Int32) (m : Mem) : Go X (Em X puI) 0 [some (.inr (.inr (0, 0))), some (.inl x1), some (.inl x2), some (.inl x3), some (.inl x4), some (.inl x5), none, none] [] m (f_X6_refusalOf x1 x2 x3 x4 x5 m) := by
  unfold f_X6_refusalOf
  refine go_blk h.1 (is := [.aload_n 0, .iconst 0, .putfield 50, .iload_n 1]) (pc' := 6) (ls' := [some (.inr (.inr (0, 0))), some (.inl x1), some (.inl x2), some (.inl x3), some (.inl x4), some (.inl x5), none, none]) (st' := [.inl x1]) (m' := (mset m 0 0 6 (0 : Int32))) (by decide +kernel) rfl ?_
  refine go_callS h.1 (index := 53) (n := 1) (as := [.inl x1]) (rest := []) (ctr_X6_isSheet (xl X) (xA X) (xC X) (xI X) (xk X) x1 (mset m 0 0 6 (0 : Int32))) (by decide +kernel) wd_s_X6_53 rfl (h.room (by first | decide | omega) (by decide)) h.cl (Nat.le_of_ble_eq_true rfl) puI_ok rfl (fun r6 m6 _ => ?_)
  show Go X (Em X puI) 9 [some (.inr (.inr (0, 0))), some (.inl x1), some (.inl x2), some (.inl x3), some (.inl x4), some (.inl x5), none, none] [.inl r6] m6 _
  refine go_ifne h.1 (off := 5) 14 (by decide +kernel) (by decide) (fun c9 => ?_) (fun c9 => ?_)
  · refine go_blk h.1 (is := [.iload_n 2]) (pc' := 15) (ls' := [some (.inr (.inr (0, 0))), some (.inl x1), some (.inl x2), some (.inl x3), some (.inl x4), some (.inl x5), none, none]) (st' := [.inl x2]) (m' := m6) (by decide +kernel) rfl ?_
    refine go_callS h.1 (index := 57) (n := 1) (as := [.inl x2]) (rest := []) (ctr_X6_isLane (xl X) (xA X) (xC X) (xI X) (xk X) x2 m6) (by decide +kernel) wd_s_X6_57 rfl (h.room (by first | decide | omega) (by decide)) h.cl (Nat.le_of_ble_eq_true rfl) puI_ok rfl (fun r15 m15 _ => ?_)
    show Go X (Em X puI) 18 [some (.inr (.inr (0, 0))), some (.inl x1), some (.inl x2), some (.inl x3), some (.inl x4), some (.inl x5), none, none] [.inl r15] m15 _
    refine go_ifeq h.1 (off := 19) 37 (by decide +kernel) (by decide) (fun c18 => ?_) (fun c18 => ?_)
    · refine go_blk h.1 (is := [.bipush (-2)]) (pc' := 39) (ls' := [some (.inr (.inr (0, 0))), some (.inl x1), some (.inl x2), some (.inl x3), some (.inl x4), some (.inl x5), none, none]) (st' := [.inl (-2 : Int32)]) (m' := m15) (by decide +kernel) rfl ?_
      exact go_iret h.1 h.2.2.2.2 (by decide +kernel)
    · refine go_blk h.1 (is := [.iload 4, .iconst 0, .bipush 20]) (pc' := 26) (ls' := [some (.inr (.inr (0, 0))), some (.inl x1), some (.inl x2), some (.inl x3), some (.inl x4), some (.inl x5), none, none]) (st' := [.inl (20 : Int32), .inl (0 : Int32), .inl x4]) (m' := m15) (by decide +kernel) rfl ?_
      refine go_callS h.1 (index := 111) (n := 3) (as := [.inl x4, .inl (0 : Int32), .inl (20 : Int32)]) (rest := []) (ctr_X6_isWithin (xl X) (xA X) (xC X) (xI X) (xk X) x4 (0 : Int32) (20 : Int32) m15) (by decide +kernel) wd_s_X6_111 rfl (h.room (by first | decide | omega) (by decide)) h.cl (Nat.le_of_ble_eq_true rfl) puI_ok rfl (fun r26 m26 _ => ?_)
      show Go X (Em X puI) 29 [some (.inr (.inr (0, 0))), some (.inl x1), some (.inl x2), some (.inl x3), some (.inl x4), some (.inl x5), none, none] [.inl r26] m26 _
      refine go_ifeq h.1 (off := 8) 37 (by decide +kernel) (by decide) (fun c29 => ?_) (fun c29 => ?_)
      · refine go_blk h.1 (is := [.bipush (-2)]) (pc' := 39) (ls' := [some (.inr (.inr (0, 0))), some (.inl x1), some (.inl x2), some (.inl x3), some (.inl x4), some (.inl x5), none, none]) (st' := [.inl (-2 : Int32)]) (m' := m26) (by decide +kernel) rfl ?_
        exact go_iret h.1 h.2.2.2.2 (by decide +kernel)
      · refine go_blk h.1 (is := [.iload 5]) (pc' := 34) (ls' := [some (.inr (.inr (0, 0))), some (.inl x1), some (.inl x2), some (.inl x3), some (.inl x4), some (.inl x5), none, none]) (st' := [.inl x5]) (m' := m26) (by decide +kernel) rfl ?_
        refine go_ifne h.1 (off := 6) 40 (by decide +kernel) (by decide) (fun c34 => ?_) (fun c34 => ?_)
        · refine go_blk h.1 (is := [.aload_n 0, .getfield 13, .iload_n 1]) (pc' := 45) (ls' := [some (.inr (.inr (0, 0))), some (.inl x1), some (.inl x2), some (.inl x3), some (.inl x4), some (.inl x5), none, none]) (st' := [.inl x1, .inr (.inr (1, 0))]) (m' := m26) (by decide +kernel) rfl ?_
          refine go_aald h.1 (kd := 0) (z := (2, (ix x1))) (by decide +kernel) rfl rfl (by decide) rfl (fun b45 => ?_)
          refine go_blk h.1 (is := [.iload_n 2, .iload_n 3, .iconst 2, .iload 4, .imul]) (pc' := 52) (ls' := [some (.inr (.inr (0, 0))), some (.inl x1), some (.inl x2), some (.inl x3), some (.inl x4), some (.inl x5), none, none]) (st' := [.inl ((2 : Int32) * x4), .inl x3, .inl x2, .inr (.inr (2, (ix x1)))]) (m' := m26) (by decide +kernel) rfl ?_
          refine go_callV h.1 (index := 60) (n := 3) (t := 2) (i := (ix x1)) (ci := 4) (nf := 4) (cz := (RX4, TX4, 4)) (as := [.inl x2, .inl x3, .inl ((2 : Int32) * x4)]) (rest := []) (ctr_X4_faultAt (xl X) (xA X) (xC X) (xI X) (xk X) (ix x1) x2 x3 ((2 : Int32) * x4) m26) (by decide +kernel) rfl rfl wd_v_X6_60 rfl (h.room (by first | decide | omega) (by decide)) h.cl (Nat.le_of_ble_eq_true rfl) puI_ok rfl (fun r52 m52 _ => ?_)
          show Go X (Em X puI) 55 [some (.inr (.inr (0, 0))), some (.inl x1), some (.inl x2), some (.inl x3), some (.inl x4), some (.inl x5), none, none] [.inl r52] m52 _
          refine go_blk h.1 (is := [.istore 6, .iload 6]) (pc' := 59) (ls' := [some (.inr (.inr (0, 0))), some (.inl x1), some (.inl x2), some (.inl x3), some (.inl x4), some (.inl x5), some (.inl r52), none]) (st' := [.inl r52]) (m' := m52) (by decide +kernel) rfl ?_
          refine go_ifeq h.1 (off := 10) 69 (by decide +kernel) (by decide) (fun c59 => ?_) (fun c59 => ?_)
          · refine go_blk h.1 (is := [.aload_n 0, .getfield 21, .getfield 82]) (pc' := 76) (ls' := [some (.inr (.inr (0, 0))), some (.inl x1), some (.inl x2), some (.inl x3), some (.inl x4), some (.inl x5), some (.inl r52), none]) (st' := [.inl (m52 4 0 1)]) (m' := m52) (by decide +kernel) rfl ?_
            refine go_ifne h.1 (off := 6) 82 (by decide +kernel) (by decide) (fun c76 => ?_) (fun c76 => ?_)
            · refine go_blk h.1 (is := [.iconst 0, .istore 7]) (pc' := 85) (ls' := [some (.inr (.inr (0, 0))), some (.inl x1), some (.inl x2), some (.inl x3), some (.inl x4), some (.inl x5), some (.inl r52), some (.inl (0 : Int32))]) (st' := []) (m' := m52) (by decide +kernel) rfl ?_
              refine go_loop (hd := fun (s85 : Int32 × Mem) o => ∀ (o2 : Option AV) (o5 : Option AV) (o6 : Option AV), Go X (Em X puI) 85 [some (.inr (.inr (0, 0))), some (.inl x1), o2, some (.inl x3), some (.inl x4), o5, o6, some (.inl s85.1)] [] s85.2 o) (fun s _ _ _ => go_none) (fun s85 nx_ hn_ => g_X6_refusalOf_b85 h x1 x3 x4 nx_ _ hn_ ?_ s85) fuelN ((0 : Int32), m52) (some (.inl x2)) (some (.inl x5)) (some (.inl r52))
              intro t85 o0_85 o1_85 o2_85 o3_85 o4_85 o5_85 o6_85 o7_85
              refine go_blk h.1 (is := [.iconst 0]) (pc' := 154) (ls' := [o0_85, o1_85, o2_85, o3_85, o4_85, o5_85, o6_85, o7_85]) (st' := [.inl (0 : Int32)]) (m' := t85) (by decide +kernel) rfl ?_
              exact go_iret h.1 h.2.2.2.2 (by decide +kernel)
            · refine go_blk h.1 (is := [.bipush (-3)]) (pc' := 81) (ls' := [some (.inr (.inr (0, 0))), some (.inl x1), some (.inl x2), some (.inl x3), some (.inl x4), some (.inl x5), some (.inl r52), none]) (st' := [.inl (-3 : Int32)]) (m' := m52) (by decide +kernel) rfl ?_
              exact go_iret h.1 h.2.2.2.2 (by decide +kernel)
          · refine go_blk h.1 (is := [.aload_n 0, .iload 6]) (pc' := 65) (ls' := [some (.inr (.inr (0, 0))), some (.inl x1), some (.inl x2), some (.inl x3), some (.inl x4), some (.inl x5), some (.inl r52), none]) (st' := [.inl r52, .inr (.inr (0, 0))]) (m' := m52) (by decide +kernel) rfl ?_
            refine go_callV h.1 (index := 64) (n := 1) (t := 0) (i := 0) (ci := 6) (nf := 7) (cz := (RX6, TX6, 7)) (as := [.inl r52]) (rest := []) (ctr_X6_faulty (xl X) (xA X) (xC X) (xI X) (xk X) r52 m52) (by decide +kernel) rfl rfl wd_v_X6_64 rfl (h.room (by first | decide | omega) (by decide)) h.cl (Nat.le_of_ble_eq_true rfl) puI_ok rfl (fun r65 m65 _ => ?_)
            show Go X (Em X puI) 68 [some (.inr (.inr (0, 0))), some (.inl x1), some (.inl x2), some (.inl x3), some (.inl x4), some (.inl x5), some (.inl r52), none] [.inl r65] m65 _
            exact go_iret h.1 h.2.2.2.2 (by decide +kernel)
        · refine go_blk h.1 (is := [.bipush (-2)]) (pc' := 39) (ls' := [some (.inr (.inr (0, 0))), some (.inl x1), some (.inl x2), some (.inl x3), some (.inl x4), some (.inl x5), none, none]) (st' := [.inl (-2 : Int32)]) (m' := m26) (by decide +kernel) rfl ?_
          exact go_iret h.1 h.2.2.2.2 (by decide +kernel)
  · refine go_blk h.1 (is := [.iconst (-1)]) (pc' := 13) (ls' := [some (.inr (.inr (0, 0))), some (.inl x1), some (.inl x2), some (.inl x3), some (.inl x4), some (.inl x5), none, none]) (st' := [.inl (-1 : Int32)]) (m' := m6) (by decide +kernel) rfl ?_
    exact go_iret h.1 h.2.2.2.2 (by decide +kernel)
theorem ctr_X6_refusalOf (l : Launch) (A : AR → Nat) (dC : Nat → ClassId) (dI : Nat → Nat → Nat) (cs : Nat → ClassId) (x1 : Int32) (x2 : Int32) (x3 : Int32) (x4 : Int32) (x5 : Int32) (m : Mem) : Ctr l A dC dI cs yX6_refusalOf prog_1_method_39_code 8 (some .int) 2 puI [.inr (.inr (0, 0)), .inl x1, .inl x2, .inl x3, .inl x4, .inl x5] m (f_X6_refusalOf x1 x2 x3 x4 x5 m) :=
  ctr_of (P := P_X6) (by decide +kernel) rfl pt_X6 rfl rfl (fun X hC _ _ _ _ _ hR h0 h1 hr => g_X6_refusalOf ⟨hC, hR, h0, h1, hr⟩ x1 x2 x3 x4 x5 m)

def f_J7_fill_53178_t14_b5 (w : Nat) (x1 : Int32) (x3 : Int32) (next : Int32 × Mem → Option (Unit × Mem)) (exit : Mem → Option (Unit × Mem)) (s : Int32 × Mem) : Option (Unit × Mem) :=
  if x3 ≤ s.1 then
    exit (s.2)
  else
    if inB s.1 5 = true then
      next ((s.1 + (1 : Int32)), (mset s.2 14 w (ix s.1) x1))
    else none
theorem g_J7_fill_53178_t14_b5 {X : XT} (h : MX X prog_12_method_103_code P_J7 0 none) (w : Nat) (x1 : Int32) (x3 : Int32) (next : Int32 × Mem → Option (Unit × Mem)) (exit : Mem → Option (Unit × Mem)) (hn : ∀ (s : Int32 × Mem), Go X (Em X puV) 5 [some (.inr (.inr (14, w))), some (.inl x1), some (.inl s.1), some (.inl x3)] [] s.2 (next s)) (hx : ∀ (t : Mem) (o0 : Option AV) (o1 : Option AV) (o2 : Option AV) (o3 : Option AV), Go X (Em X puV) 20 [o0, o1, o2, o3] [] t (exit t)) (s : Int32 × Mem) : Go X (Em X puV) 5 [some (.inr (.inr (14, w))), some (.inl x1), some (.inl s.1), some (.inl x3)] [] s.2 (f_J7_fill_53178_t14_b5 w x1 x3 next exit s) := by
  unfold f_J7_fill_53178_t14_b5
  refine go_blk h.1 (is := [.iload_n 2, .iload_n 3]) (pc' := 7) (ls' := [some (.inr (.inr (14, w))), some (.inl x1), some (.inl s.1), some (.inl x3)]) (st' := [.inl x3, .inl s.1]) (m' := s.2) (by decide +kernel) rfl ?_
  refine go_icmpge h.1 (off := 13) 20 (by decide +kernel) (by decide) (fun c7 => ?_) (fun c7 => ?_)
  · exact hx (s.2) (some (.inr (.inr (14, w)))) (some (.inl x1)) (some (.inl s.1)) (some (.inl x3))
  · refine go_blk h.1 (is := [.aload_n 0, .iload_n 2, .iload_n 1]) (pc' := 13) (ls' := [some (.inr (.inr (14, w))), some (.inl x1), some (.inl s.1), some (.inl x3)]) (st' := [.inl x1, .inl s.1, .inr (.inr (14, w))]) (m' := s.2) (by decide +kernel) rfl ?_
    refine go_iast h.1 (by decide +kernel) rfl rfl (fun b13 => ?_)
    refine go_blk h.1 (is := [.iinc 2 1]) (pc' := 17) (ls' := [some (.inr (.inr (14, w))), some (.inl x1), some (.inl (s.1 + (1 : Int32))), some (.inl x3)]) (st' := []) (m' := (mset s.2 14 w (ix s.1) x1)) (by decide +kernel) rfl ?_
    refine go_goto h.1 (off := -12) 5 (by decide +kernel) (by decide) ?_
    exact hn ((s.1 + (1 : Int32)), (mset s.2 14 w (ix s.1) x1))

def f_J7_fill_53178_t14 (w : Nat) (x1 : Int32) (m : Mem) : Option (Unit × Mem) :=
  lpk (f_J7_fill_53178_t14_b5 w x1 (5 : Int32)) fuelN ((0 : Int32), m) (fun t5 =>
    some ((), t5))
theorem g_J7_fill_53178_t14 {X : XT} (h : MX X prog_12_method_103_code P_J7 0 none) (w : Nat) (x1 : Int32) (m : Mem) : Go X (Em X puV) 0 [some (.inr (.inr (14, w))), some (.inl x1), none, none] [] m (f_J7_fill_53178_t14 w x1 m) := by
  unfold f_J7_fill_53178_t14
  refine go_blk h.1 (is := [.iconst 0, .istore_n 2, .aload_n 0]) (pc' := 3) (ls' := [some (.inr (.inr (14, w))), some (.inl x1), some (.inl (0 : Int32)), none]) (st' := [.inr (.inr (14, w))]) (m' := m) (by decide +kernel) rfl ?_
  refine go_alen h.1 (by decide +kernel) rfl rfl ?_
  show Go X (Em X puV) 4 [some (.inr (.inr (14, w))), some (.inl x1), some (.inl (0 : Int32)), none] [.inl (5 : Int32)] m _
  refine go_blk h.1 (is := [.istore_n 3]) (pc' := 5) (ls' := [some (.inr (.inr (14, w))), some (.inl x1), some (.inl (0 : Int32)), some (.inl (5 : Int32))]) (st' := []) (m' := m) (by decide +kernel) rfl ?_
  refine go_loop (hd := fun (s5 : Int32 × Mem) o => Go X (Em X puV) 5 [some (.inr (.inr (14, w))), some (.inl x1), some (.inl s5.1), some (.inl (5 : Int32))] [] s5.2 o) (fun s => go_none) (fun s5 nx_ hn_ => g_J7_fill_53178_t14_b5 h w x1 (5 : Int32) nx_ _ hn_ ?_ s5) fuelN ((0 : Int32), m)
  intro t5 o0_5 o1_5 o2_5 o3_5
  exact go_vret h.1 h.2.2.2.2 (by decide +kernel)
theorem ctr_J7_fill_53178_t14 (l : Launch) (A : AR → Nat) (dC : Nat → ClassId) (dI : Nat → Nat → Nat) (cs : Nat → ClassId) (w : Nat) (x1 : Int32) (m : Mem) : Ctr l A dC dI cs yJ7_fill_53178 prog_12_method_103_code 4 none 0 puV [.inr (.inr (14, w)), .inl x1] m (f_J7_fill_53178_t14 w x1 m) :=
  ctr_of (P := P_J7) (by decide +kernel) rfl pt_J7 rfl rfl (fun X hC _ _ _ _ _ hR h0 h1 hr => g_J7_fill_53178_t14 ⟨hC, hR, h0, h1, hr⟩ w x1 m)

def f_X0_start_b41 (w : Nat) (next : Int32 × Mem → Option (Unit × Mem)) (exit : Mem → Option (Unit × Mem)) (s : Int32 × Mem) : Option (Unit × Mem) :=
  if (s.2 7 w 8) ≤ s.1 then
    exit (s.2)
  else
    if inB s.1 5 = true then
      if inB s.1 5 = true then
        if inB s.1 5 = true then
          if inB s.1 5 = true then
            if inB s.1 5 = true then
              if inB s.1 5 = true then
                if inB s.1 5 = true then
                  bnd (f_J7_fill_53178_t14 (5 * w + (ix s.1)) (0 : Int32) (mset (mset (mset (mset (mset s.2 8 w (ix s.1) (s.2 6 (ix s.1) 0)) 9 w (ix s.1) (s.2 6 (ix s.1) 1)) 10 w (ix s.1) (s.2 6 (ix s.1) 2)) 11 w (ix s.1) (s.2 6 (ix s.1) 3)) 12 w (ix s.1) (s.2 6 (ix s.1) 4))) (fun _ m113 =>
                    next ((s.1 + (1 : Int32)), m113))
                else none
              else none
            else none
          else none
        else none
      else none
    else none
theorem g_X0_start_b41 {X : XT} (h : MX X prog_2_method_2_code P_X0 1 none) (w : Nat) (next : Int32 × Mem → Option (Unit × Mem)) (exit : Mem → Option (Unit × Mem)) (hn : ∀ (s : Int32 × Mem) (o3 : Option AV), Go X (Em X puV) 41 [some (.inr (.inr (7, w))), some (.inr (.inr (4, 0))), some (.inl s.1), o3] [] s.2 (next s)) (hx : ∀ (t : Mem) (o0 : Option AV) (o1 : Option AV) (o2 : Option AV) (o3 : Option AV), Go X (Em X puV) 122 [o0, o1, o2, o3] [] t (exit t)) (s : Int32 × Mem) (o3 : Option AV) : Go X (Em X puV) 41 [some (.inr (.inr (7, w))), some (.inr (.inr (4, 0))), some (.inl s.1), o3] [] s.2 (f_X0_start_b41 w next exit s) := by
  unfold f_X0_start_b41
  refine go_blk h.1 (is := [.iload_n 2, .aload_n 0, .getfield 44]) (pc' := 46) (ls' := [some (.inr (.inr (7, w))), some (.inr (.inr (4, 0))), some (.inl s.1), o3]) (st' := [.inl (s.2 7 w 8), .inl s.1]) (m' := s.2) (by decide +kernel) rfl ?_
  refine go_icmpge h.1 (off := 76) 122 (by decide +kernel) (by decide) (fun c46 => ?_) (fun c46 => ?_)
  · exact hx (s.2) (some (.inr (.inr (7, w)))) (some (.inr (.inr (4, 0)))) (some (.inl s.1)) (o3)
  · refine go_blk h.1 (is := [.aload_n 1, .getfield 62, .iload_n 2]) (pc' := 54) (ls' := [some (.inr (.inr (7, w))), some (.inr (.inr (4, 0))), some (.inl s.1), o3]) (st' := [.inl s.1, .inr (.inr (5, 0))]) (m' := s.2) (by decide +kernel) rfl ?_
    refine go_aald h.1 (kd := 1) (z := (6, (ix s.1))) (by decide +kernel) rfl rfl (by decide) rfl (fun b54 => ?_)
    refine go_blk h.1 (is := [.astore_n 3, .aload_n 0, .getfield 9, .iload_n 2, .aload_n 3, .getfield 66]) (pc' := 65) (ls' := [some (.inr (.inr (7, w))), some (.inr (.inr (4, 0))), some (.inl s.1), some (.inr (.inr (6, (ix s.1))))]) (st' := [.inl (s.2 6 (ix s.1) 0), .inl s.1, .inr (.inr (8, w))]) (m' := s.2) (by decide +kernel) rfl ?_
    refine go_iast h.1 (by decide +kernel) rfl rfl (fun b65 => ?_)
    refine go_blk h.1 (is := [.aload_n 0, .getfield 15, .iload_n 2, .aload_n 3, .getfield 70]) (pc' := 75) (ls' := [some (.inr (.inr (7, w))), some (.inr (.inr (4, 0))), some (.inl s.1), some (.inr (.inr (6, (ix s.1))))]) (st' := [.inl (s.2 6 (ix s.1) 1), .inl s.1, .inr (.inr (9, w))]) (m' := (mset s.2 8 w (ix s.1) (s.2 6 (ix s.1) 0))) (by decide +kernel) rfl ?_
    refine go_iast h.1 (by decide +kernel) rfl rfl (fun b75 => ?_)
    refine go_blk h.1 (is := [.aload_n 0, .getfield 18, .iload_n 2, .aload_n 3, .getfield 72]) (pc' := 85) (ls' := [some (.inr (.inr (7, w))), some (.inr (.inr (4, 0))), some (.inl s.1), some (.inr (.inr (6, (ix s.1))))]) (st' := [.inl (s.2 6 (ix s.1) 2), .inl s.1, .inr (.inr (10, w))]) (m' := (mset (mset s.2 8 w (ix s.1) (s.2 6 (ix s.1) 0)) 9 w (ix s.1) (s.2 6 (ix s.1) 1))) (by decide +kernel) rfl ?_
    refine go_iast h.1 (by decide +kernel) rfl rfl (fun b85 => ?_)
    refine go_blk h.1 (is := [.aload_n 0, .getfield 21, .iload_n 2, .aload_n 3, .getfield 74]) (pc' := 95) (ls' := [some (.inr (.inr (7, w))), some (.inr (.inr (4, 0))), some (.inl s.1), some (.inr (.inr (6, (ix s.1))))]) (st' := [.inl (s.2 6 (ix s.1) 3), .inl s.1, .inr (.inr (11, w))]) (m' := (mset (mset (mset s.2 8 w (ix s.1) (s.2 6 (ix s.1) 0)) 9 w (ix s.1) (s.2 6 (ix s.1) 1)) 10 w (ix s.1) (s.2 6 (ix s.1) 2))) (by decide +kernel) rfl ?_
    refine go_iast h.1 (by decide +kernel) rfl rfl (fun b95 => ?_)
    refine go_blk h.1 (is := [.aload_n 0, .getfield 24, .iload_n 2, .aload_n 3, .getfield 76]) (pc' := 105) (ls' := [some (.inr (.inr (7, w))), some (.inr (.inr (4, 0))), some (.inl s.1), some (.inr (.inr (6, (ix s.1))))]) (st' := [.inl (s.2 6 (ix s.1) 4), .inl s.1, .inr (.inr (12, w))]) (m' := (mset (mset (mset (mset s.2 8 w (ix s.1) (s.2 6 (ix s.1) 0)) 9 w (ix s.1) (s.2 6 (ix s.1) 1)) 10 w (ix s.1) (s.2 6 (ix s.1) 2)) 11 w (ix s.1) (s.2 6 (ix s.1) 3))) (by decide +kernel) rfl ?_
    refine go_iast h.1 (by decide +kernel) rfl rfl (fun b105 => ?_)
    refine go_blk h.1 (is := [.aload_n 0, .getfield 29, .iload_n 2]) (pc' := 111) (ls' := [some (.inr (.inr (7, w))), some (.inr (.inr (4, 0))), some (.inl s.1), some (.inr (.inr (6, (ix s.1))))]) (st' := [.inl s.1, .inr (.inr (13, w))]) (m' := (mset (mset (mset (mset (mset s.2 8 w (ix s.1) (s.2 6 (ix s.1) 0)) 9 w (ix s.1) (s.2 6 (ix s.1) 1)) 10 w (ix s.1) (s.2 6 (ix s.1) 2)) 11 w (ix s.1) (s.2 6 (ix s.1) 3)) 12 w (ix s.1) (s.2 6 (ix s.1) 4))) (by decide +kernel) rfl ?_
    refine go_aald h.1 (kd := 2) (z := (14, (5 * w + (ix s.1)))) (by decide +kernel) rfl rfl (by decide) rfl (fun b111 => ?_)
    refine go_blk h.1 (is := [.iconst 0]) (pc' := 113) (ls' := [some (.inr (.inr (7, w))), some (.inr (.inr (4, 0))), some (.inl s.1), some (.inr (.inr (6, (ix s.1))))]) (st' := [.inl (0 : Int32), .inr (.inr (14, (5 * w + (ix s.1))))]) (m' := (mset (mset (mset (mset (mset s.2 8 w (ix s.1) (s.2 6 (ix s.1) 0)) 9 w (ix s.1) (s.2 6 (ix s.1) 1)) 10 w (ix s.1) (s.2 6 (ix s.1) 2)) 11 w (ix s.1) (s.2 6 (ix s.1) 3)) 12 w (ix s.1) (s.2 6 (ix s.1) 4))) (by decide +kernel) rfl ?_
    refine go_callS h.1 (index := 78) (n := 2) (as := [.inr (.inr (14, (5 * w + (ix s.1)))), .inl (0 : Int32)]) (rest := []) (ctr_J7_fill_53178_t14 (xl X) (xA X) (xC X) (xI X) (xk X) (5 * w + (ix s.1)) (0 : Int32) (mset (mset (mset (mset (mset s.2 8 w (ix s.1) (s.2 6 (ix s.1) 0)) 9 w (ix s.1) (s.2 6 (ix s.1) 1)) 10 w (ix s.1) (s.2 6 (ix s.1) 2)) 11 w (ix s.1) (s.2 6 (ix s.1) 3)) 12 w (ix s.1) (s.2 6 (ix s.1) 4))) (by decide +kernel) wd_s_X0_78 rfl (h.room (by first | decide | omega) (by decide)) h.cl (Nat.le_of_ble_eq_true rfl) puV_ok rfl (fun r113 m113 _ => ?_)
    show Go X (Em X puV) 116 [some (.inr (.inr (7, w))), some (.inr (.inr (4, 0))), some (.inl s.1), some (.inr (.inr (6, (ix s.1))))] [] m113 _
    refine go_blk h.1 (is := [.iinc 2 1]) (pc' := 119) (ls' := [some (.inr (.inr (7, w))), some (.inr (.inr (4, 0))), some (.inl (s.1 + (1 : Int32))), some (.inr (.inr (6, (ix s.1))))]) (st' := []) (m' := m113) (by decide +kernel) rfl ?_
    refine go_goto h.1 (off := -78) 41 (by decide +kernel) (by decide) ?_
    exact hn ((s.1 + (1 : Int32)), m113) (some (.inr (.inr (6, (ix s.1)))))

def f_X0_start (w : Nat) (m : Mem) : Option (Unit × Mem) :=
  lpk (f_X0_start_b41 w) fuelN ((0 : Int32), (mset (mset (mset (mset (mset (mset m 7 w 8 (m 4 0 1)) 7 w 9 (m 4 0 2)) 7 w 10 (m 4 0 3)) 7 w 11 (0 : Int32)) 7 w 12 (0 : Int32)) 7 w 13 (0 : Int32))) (fun t41 =>
    some ((), t41))
theorem g_X0_start {X : XT} (h : MX X prog_2_method_2_code P_X0 1 none) (w : Nat) (m : Mem) : Go X (Em X puV) 0 [some (.inr (.inr (7, w))), some (.inr (.inr (4, 0))), none, none] [] m (f_X0_start w m) := by
  unfold f_X0_start
  refine go_blk h.1 (is := [.aload_n 0, .aload_n 1, .getfield 38, .putfield 44, .aload_n 0, .aload_n 1, .getfield 45, .putfield 48, .aload_n 0, .aload_n 1, .getfield 49, .putfield 52, .aload_n 0, .iconst 0, .putfield 53, .aload_n 0, .iconst 0, .putfield 56, .aload_n 0, .iconst 0, .putfield 59, .iconst 0, .istore_n 2]) (pc' := 41) (ls' := [some (.inr (.inr (7, w))), some (.inr (.inr (4, 0))), some (.inl (0 : Int32)), none]) (st' := []) (m' := (mset (mset (mset (mset (mset (mset m 7 w 8 (m 4 0 1)) 7 w 9 (m 4 0 2)) 7 w 10 (m 4 0 3)) 7 w 11 (0 : Int32)) 7 w 12 (0 : Int32)) 7 w 13 (0 : Int32))) (by decide +kernel) rfl ?_
  refine go_loop (hd := fun (s41 : Int32 × Mem) o => ∀ (o3 : Option AV), Go X (Em X puV) 41 [some (.inr (.inr (7, w))), some (.inr (.inr (4, 0))), some (.inl s41.1), o3] [] s41.2 o) (fun s _ => go_none) (fun s41 nx_ hn_ => g_X0_start_b41 h w nx_ _ hn_ ?_ s41) fuelN ((0 : Int32), (mset (mset (mset (mset (mset (mset m 7 w 8 (m 4 0 1)) 7 w 9 (m 4 0 2)) 7 w 10 (m 4 0 3)) 7 w 11 (0 : Int32)) 7 w 12 (0 : Int32)) 7 w 13 (0 : Int32))) (none)
  intro t41 o0_41 o1_41 o2_41 o3_41
  exact go_vret h.1 h.2.2.2.2 (by decide +kernel)
theorem ctr_X0_start (l : Launch) (A : AR → Nat) (dC : Nat → ClassId) (dI : Nat → Nat → Nat) (cs : Nat → ClassId) (w : Nat) (m : Mem) : Ctr l A dC dI cs yX0_start prog_2_method_2_code 4 none 1 puV [.inr (.inr (7, w)), .inr (.inr (4, 0))] m (f_X0_start w m) :=
  ctr_of (P := P_X0) (by decide +kernel) rfl pt_X0 rfl rfl (fun X hC _ _ _ _ _ hR h0 h1 hr => g_X0_start ⟨hC, hR, h0, h1, hr⟩ w m)

def f_X0_isBelow (w : Nat) (x1 : Int32) (m : Mem) : Option (Int32 × Mem) :=
  if (((m 7 w 12) >>> (x1 &&& 31)) &&& (1 : Int32)) = 0 then
    some ((1 : Int32), m)
  else
    some ((0 : Int32), m)
theorem g_X0_isBelow {X : XT} (h : MX X prog_2_method_13_code P_X0 0 (some .boolean)) (w : Nat) (x1 : Int32) (m : Mem) : Go X (Em X puI) 0 [some (.inr (.inr (7, w))), some (.inl x1)] [] m (f_X0_isBelow w x1 m) := by
  unfold f_X0_isBelow
  refine go_blk h.1 (is := [.aload_n 0, .getfield 56, .iload_n 1, .ishr, .iconst 1, .iand]) (pc' := 8) (ls' := [some (.inr (.inr (7, w))), some (.inl x1)]) (st' := [.inl (((m 7 w 12) >>> (x1 &&& 31)) &&& (1 : Int32))]) (m' := m) (by decide +kernel) rfl ?_
  refine go_ifne h.1 (off := 7) 15 (by decide +kernel) (by decide) (fun c8 => ?_) (fun c8 => ?_)
  · refine go_blk h.1 (is := [.iconst 0]) (pc' := 16) (ls' := [some (.inr (.inr (7, w))), some (.inl x1)]) (st' := [.inl (0 : Int32)]) (m' := m) (by decide +kernel) rfl ?_
    exact go_zret h.1 h.2.2.2.2 (Or.inl rfl) (by decide +kernel)
  · refine go_blk h.1 (is := [.iconst 1]) (pc' := 12) (ls' := [some (.inr (.inr (7, w))), some (.inl x1)]) (st' := [.inl (1 : Int32)]) (m' := m) (by decide +kernel) rfl ?_
    refine go_goto h.1 (off := 4) 16 (by decide +kernel) (by decide) ?_
    exact go_zret h.1 h.2.2.2.2 (Or.inr rfl) (by decide +kernel)
theorem ctr_X0_isBelow (l : Launch) (A : AR → Nat) (dC : Nat → ClassId) (dI : Nat → Nat → Nat) (cs : Nat → ClassId) (w : Nat) (x1 : Int32) (m : Mem) : Ctr l A dC dI cs yX0_isBelow prog_2_method_13_code 2 (some .boolean) 0 puI [.inr (.inr (7, w)), .inl x1] m (f_X0_isBelow w x1 m) :=
  ctr_of (P := P_X0) (by decide +kernel) rfl pt_X0 rfl rfl (fun X hC _ _ _ _ _ hR h0 h1 hr => g_X0_isBelow ⟨hC, hR, h0, h1, hr⟩ w x1 m)

def f_X0_tollOf_j31 (w : Nat) (s0 : Int32) (s1 : Int32) (x1 : Int32) (m : Mem) : Option (Int32 × Mem) :=
  if (((m 7 w 11) >>> (x1 &&& 31)) &&& (1 : Int32)) = (1 : Int32) then
    some (((2 : Int32) * (s1 + s0)), m)
  else
    some ((s1 + s0), m)
theorem g_X0_tollOf_j31 {X : XT} (h : MX X prog_2_method_12_code P_X0 1 (some .int)) (w : Nat) (s0 : Int32) (s1 : Int32) (x1 : Int32) (m : Mem) (o2 : Option AV) : Go X (Em X puI) 31 [some (.inr (.inr (7, w))), some (.inl x1), o2] [.inl s0, .inl s1] m (f_X0_tollOf_j31 w s0 s1 x1 m) := by
  unfold f_X0_tollOf_j31
  refine go_blk h.1 (is := [.iadd, .istore_n 2, .aload_n 0, .getfield 53, .iload_n 1, .ishr, .iconst 1, .iand, .iconst 1]) (pc' := 42) (ls' := [some (.inr (.inr (7, w))), some (.inl x1), some (.inl (s1 + s0))]) (st' := [.inl (1 : Int32), .inl (((m 7 w 11) >>> (x1 &&& 31)) &&& (1 : Int32))]) (m' := m) (by decide +kernel) rfl ?_
  refine go_icmpne h.1 (off := 9) 51 (by decide +kernel) (by decide) (fun c42 => ?_) (fun c42 => ?_)
  · refine go_blk h.1 (is := [.iload_n 2]) (pc' := 52) (ls' := [some (.inr (.inr (7, w))), some (.inl x1), some (.inl (s1 + s0))]) (st' := [.inl (s1 + s0)]) (m' := m) (by decide +kernel) rfl ?_
    exact go_iret h.1 h.2.2.2.2 (by decide +kernel)
  · refine go_blk h.1 (is := [.iconst 2, .iload_n 2, .imul]) (pc' := 48) (ls' := [some (.inr (.inr (7, w))), some (.inl x1), some (.inl (s1 + s0))]) (st' := [.inl ((2 : Int32) * (s1 + s0))]) (m' := m) (by decide +kernel) rfl ?_
    refine go_goto h.1 (off := 4) 52 (by decide +kernel) (by decide) ?_
    exact go_iret h.1 h.2.2.2.2 (by decide +kernel)

def f_X0_tollOf (w : Nat) (x1 : Int32) (m : Mem) : Option (Int32 × Mem) :=
  if inB x1 5 = true then
    if inB x1 5 = true then
      bnd (f_X6_shareOf (m 8 w (ix x1)) (m 9 w (ix x1)) m) (fun r12 m12 =>
        bnd (f_X0_isBelow w x1 m12) (fun r17 m17 =>
          if r17 = 0 then
            f_X0_tollOf_j31 w (0 : Int32) r12 x1 m17
          else
            f_X0_tollOf_j31 w (m17 7 w 9) r12 x1 m17))
    else none
  else none
theorem g_X0_tollOf {X : XT} (h : MX X prog_2_method_12_code P_X0 1 (some .int)) (w : Nat) (x1 : Int32) (m : Mem) : Go X (Em X puI) 0 [some (.inr (.inr (7, w))), some (.inl x1), none] [] m (f_X0_tollOf w x1 m) := by
  unfold f_X0_tollOf
  refine go_blk h.1 (is := [.aload_n 0, .getfield 9, .iload_n 1]) (pc' := 5) (ls' := [some (.inr (.inr (7, w))), some (.inl x1), none]) (st' := [.inl x1, .inr (.inr (8, w))]) (m' := m) (by decide +kernel) rfl ?_
  refine go_iald h.1 (by decide +kernel) rfl rfl (fun b5 => ?_)
  show Go X (Em X puI) 6 [some (.inr (.inr (7, w))), some (.inl x1), none] [.inl (m 8 w (ix x1))] m _
  refine go_blk h.1 (is := [.aload_n 0, .getfield 15, .iload_n 1]) (pc' := 11) (ls' := [some (.inr (.inr (7, w))), some (.inl x1), none]) (st' := [.inl x1, .inr (.inr (9, w)), .inl (m 8 w (ix x1))]) (m' := m) (by decide +kernel) rfl ?_
  refine go_iald h.1 (by decide +kernel) rfl rfl (fun b11 => ?_)
  show Go X (Em X puI) 12 [some (.inr (.inr (7, w))), some (.inl x1), none] [.inl (m 9 w (ix x1)), .inl (m 8 w (ix x1))] m _
  refine go_callN h.1 (index := 118) (n := 2) (as := [.inl (m 8 w (ix x1)), .inl (m 9 w (ix x1))]) (rest := []) (ctr_X6_shareOf (xl X) (xA X) (xC X) (xI X) (xk X) (m 8 w (ix x1)) (m 9 w (ix x1)) m) (by decide +kernel) wd_n_X0_118 rfl (h.room (by first | decide | omega) (by decide)) h.cl (Nat.le_of_ble_eq_true rfl) puI_ok rfl (fun r12 m12 _ => ?_)
  show Go X (Em X puI) 15 [some (.inr (.inr (7, w))), some (.inl x1), none] [.inl r12] m12 _
  refine go_blk h.1 (is := [.aload_n 0, .iload_n 1]) (pc' := 17) (ls' := [some (.inr (.inr (7, w))), some (.inl x1), none]) (st' := [.inl x1, .inr (.inr (7, w)), .inl r12]) (m' := m12) (by decide +kernel) rfl ?_
  refine go_callV h.1 (index := 121) (n := 1) (t := 7) (i := w) (ci := 0) (nf := 14) (cz := (RX0, TX0, 14)) (as := [.inl x1]) (rest := [.inl r12]) (ctr_X0_isBelow (xl X) (xA X) (xC X) (xI X) (xk X) w x1 m12) (by decide +kernel) rfl rfl wd_v_X0_121 rfl (h.room (by first | decide | omega) (by decide)) h.cl (Nat.le_of_ble_eq_true rfl) puI_ok rfl (fun r17 m17 _ => ?_)
  show Go X (Em X puI) 20 [some (.inr (.inr (7, w))), some (.inl x1), none] [.inl r17, .inl r12] m17 _
  refine go_ifeq h.1 (off := 10) 30 (by decide +kernel) (by decide) (fun c20 => ?_) (fun c20 => ?_)
  · refine go_blk h.1 (is := [.iconst 0]) (pc' := 31) (ls' := [some (.inr (.inr (7, w))), some (.inl x1), none]) (st' := [.inl (0 : Int32), .inl r12]) (m' := m17) (by decide +kernel) rfl ?_
    exact g_X0_tollOf_j31 h w (0 : Int32) r12 x1 m17 (none)
  · refine go_blk h.1 (is := [.aload_n 0, .getfield 48]) (pc' := 27) (ls' := [some (.inr (.inr (7, w))), some (.inl x1), none]) (st' := [.inl (m17 7 w 9), .inl r12]) (m' := m17) (by decide +kernel) rfl ?_
    refine go_goto h.1 (off := 4) 31 (by decide +kernel) (by decide) ?_
    exact g_X0_tollOf_j31 h w (m17 7 w 9) r12 x1 m17 (none)
theorem ctr_X0_tollOf (l : Launch) (A : AR → Nat) (dC : Nat → ClassId) (dI : Nat → Nat → Nat) (cs : Nat → ClassId) (w : Nat) (x1 : Int32) (m : Mem) : Ctr l A dC dI cs yX0_tollOf prog_2_method_12_code 3 (some .int) 1 puI [.inr (.inr (7, w)), .inl x1] m (f_X0_tollOf w x1 m) :=
  ctr_of (P := P_X0) (by decide +kernel) rfl pt_X0 rfl rfl (fun X hC _ _ _ _ _ hR h0 h1 hr => g_X0_tollOf ⟨hC, hR, h0, h1, hr⟩ w x1 m)

def f_X0_hasNewSong (w : Nat) (x1 : Int32) (m : Mem) : Option (Int32 × Mem) :=
  if inB x1 5 = true then
    if (6 : Int32) ≤ (m 11 w (ix x1)) then
      some ((0 : Int32), m)
    else
      if inB x1 5 = true then
        if (((m 7 w 10) >>> ((m 11 w (ix x1)) &&& 31)) &&& (1 : Int32)) = 0 then
          some ((1 : Int32), m)
        else
          some ((0 : Int32), m)
      else none
  else none
theorem g_X0_hasNewSong {X : XT} (h : MX X prog_2_method_9_code P_X0 0 (some .boolean)) (w : Nat) (x1 : Int32) (m : Mem) : Go X (Em X puI) 0 [some (.inr (.inr (7, w))), some (.inl x1)] [] m (f_X0_hasNewSong w x1 m) := by
  unfold f_X0_hasNewSong
  refine go_blk h.1 (is := [.aload_n 0, .getfield 21, .iload_n 1]) (pc' := 5) (ls' := [some (.inr (.inr (7, w))), some (.inl x1)]) (st' := [.inl x1, .inr (.inr (11, w))]) (m' := m) (by decide +kernel) rfl ?_
  refine go_iald h.1 (by decide +kernel) rfl rfl (fun b5 => ?_)
  show Go X (Em X puI) 6 [some (.inr (.inr (7, w))), some (.inl x1)] [.inl (m 11 w (ix x1))] m _
  refine go_blk h.1 (is := [.bipush 6]) (pc' := 8) (ls' := [some (.inr (.inr (7, w))), some (.inl x1)]) (st' := [.inl (6 : Int32), .inl (m 11 w (ix x1))]) (m' := m) (by decide +kernel) rfl ?_
  refine go_icmpge h.1 (off := 23) 31 (by decide +kernel) (by decide) (fun c8 => ?_) (fun c8 => ?_)
  · refine go_blk h.1 (is := [.iconst 0]) (pc' := 32) (ls' := [some (.inr (.inr (7, w))), some (.inl x1)]) (st' := [.inl (0 : Int32)]) (m' := m) (by decide +kernel) rfl ?_
    exact go_zret h.1 h.2.2.2.2 (Or.inl rfl) (by decide +kernel)
  · refine go_blk h.1 (is := [.aload_n 0, .getfield 52, .aload_n 0, .getfield 21, .iload_n 1]) (pc' := 20) (ls' := [some (.inr (.inr (7, w))), some (.inl x1)]) (st' := [.inl x1, .inr (.inr (11, w)), .inl (m 7 w 10)]) (m' := m) (by decide +kernel) rfl ?_
    refine go_iald h.1 (by decide +kernel) rfl rfl (fun b20 => ?_)
    show Go X (Em X puI) 21 [some (.inr (.inr (7, w))), some (.inl x1)] [.inl (m 11 w (ix x1)), .inl (m 7 w 10)] m _
    refine go_blk h.1 (is := [.ishr, .iconst 1, .iand]) (pc' := 24) (ls' := [some (.inr (.inr (7, w))), some (.inl x1)]) (st' := [.inl (((m 7 w 10) >>> ((m 11 w (ix x1)) &&& 31)) &&& (1 : Int32))]) (m' := m) (by decide +kernel) rfl ?_
    refine go_ifne h.1 (off := 7) 31 (by decide +kernel) (by decide) (fun c24 => ?_) (fun c24 => ?_)
    · refine go_blk h.1 (is := [.iconst 0]) (pc' := 32) (ls' := [some (.inr (.inr (7, w))), some (.inl x1)]) (st' := [.inl (0 : Int32)]) (m' := m) (by decide +kernel) rfl ?_
      exact go_zret h.1 h.2.2.2.2 (Or.inl rfl) (by decide +kernel)
    · refine go_blk h.1 (is := [.iconst 1]) (pc' := 28) (ls' := [some (.inr (.inr (7, w))), some (.inl x1)]) (st' := [.inl (1 : Int32)]) (m' := m) (by decide +kernel) rfl ?_
      refine go_goto h.1 (off := 4) 32 (by decide +kernel) (by decide) ?_
      exact go_zret h.1 h.2.2.2.2 (Or.inr rfl) (by decide +kernel)
theorem ctr_X0_hasNewSong (l : Launch) (A : AR → Nat) (dC : Nat → ClassId) (dI : Nat → Nat → Nat) (cs : Nat → ClassId) (w : Nat) (x1 : Int32) (m : Mem) : Ctr l A dC dI cs yX0_hasNewSong prog_2_method_9_code 2 (some .boolean) 0 puI [.inr (.inr (7, w)), .inl x1] m (f_X0_hasNewSong w x1 m) :=
  ctr_of (P := P_X0) (by decide +kernel) rfl pt_X0 rfl rfl (fun X hC _ _ _ _ _ hR h0 h1 hr => g_X0_hasNewSong ⟨hC, hR, h0, h1, hr⟩ w x1 m)

def f_X0_hasSecret (w : Nat) (x1 : Int32) (m : Mem) : Option (Int32 × Mem) :=
  if inB x1 5 = true then
    if (m 12 w (ix x1)) = x1 then
      some ((0 : Int32), m)
    else
      if inB x1 5 = true then
        if (m 7 w 8) ≤ (m 12 w (ix x1)) then
          some ((0 : Int32), m)
        else
          if inB x1 5 = true then
            if (((m 7 w 11) >>> ((m 12 w (ix x1)) &&& 31)) &&& (1 : Int32)) = 0 then
              some ((1 : Int32), m)
            else
              some ((0 : Int32), m)
          else none
      else none
  else none
theorem g_X0_hasSecret {X : XT} (h : MX X prog_2_method_10_code P_X0 0 (some .boolean)) (w : Nat) (x1 : Int32) (m : Mem) : Go X (Em X puI) 0 [some (.inr (.inr (7, w))), some (.inl x1)] [] m (f_X0_hasSecret w x1 m) := by
  unfold f_X0_hasSecret
  refine go_blk h.1 (is := [.aload_n 0, .getfield 24, .iload_n 1]) (pc' := 5) (ls' := [some (.inr (.inr (7, w))), some (.inl x1)]) (st' := [.inl x1, .inr (.inr (12, w))]) (m' := m) (by decide +kernel) rfl ?_
  refine go_iald h.1 (by decide +kernel) rfl rfl (fun b5 => ?_)
  show Go X (Em X puI) 6 [some (.inr (.inr (7, w))), some (.inl x1)] [.inl (m 12 w (ix x1))] m _
  refine go_blk h.1 (is := [.iload_n 1]) (pc' := 7) (ls' := [some (.inr (.inr (7, w))), some (.inl x1)]) (st' := [.inl x1, .inl (m 12 w (ix x1))]) (m' := m) (by decide +kernel) rfl ?_
  refine go_icmpeq h.1 (off := 36) 43 (by decide +kernel) (by decide) (fun c7 => ?_) (fun c7 => ?_)
  · refine go_blk h.1 (is := [.iconst 0]) (pc' := 44) (ls' := [some (.inr (.inr (7, w))), some (.inl x1)]) (st' := [.inl (0 : Int32)]) (m' := m) (by decide +kernel) rfl ?_
    exact go_zret h.1 h.2.2.2.2 (Or.inl rfl) (by decide +kernel)
  · refine go_blk h.1 (is := [.aload_n 0, .getfield 24, .iload_n 1]) (pc' := 15) (ls' := [some (.inr (.inr (7, w))), some (.inl x1)]) (st' := [.inl x1, .inr (.inr (12, w))]) (m' := m) (by decide +kernel) rfl ?_
    refine go_iald h.1 (by decide +kernel) rfl rfl (fun b15 => ?_)
    show Go X (Em X puI) 16 [some (.inr (.inr (7, w))), some (.inl x1)] [.inl (m 12 w (ix x1))] m _
    refine go_blk h.1 (is := [.aload_n 0, .getfield 44]) (pc' := 20) (ls' := [some (.inr (.inr (7, w))), some (.inl x1)]) (st' := [.inl (m 7 w 8), .inl (m 12 w (ix x1))]) (m' := m) (by decide +kernel) rfl ?_
    refine go_icmpge h.1 (off := 23) 43 (by decide +kernel) (by decide) (fun c20 => ?_) (fun c20 => ?_)
    · refine go_blk h.1 (is := [.iconst 0]) (pc' := 44) (ls' := [some (.inr (.inr (7, w))), some (.inl x1)]) (st' := [.inl (0 : Int32)]) (m' := m) (by decide +kernel) rfl ?_
      exact go_zret h.1 h.2.2.2.2 (Or.inl rfl) (by decide +kernel)
    · refine go_blk h.1 (is := [.aload_n 0, .getfield 53, .aload_n 0, .getfield 24, .iload_n 1]) (pc' := 32) (ls' := [some (.inr (.inr (7, w))), some (.inl x1)]) (st' := [.inl x1, .inr (.inr (12, w)), .inl (m 7 w 11)]) (m' := m) (by decide +kernel) rfl ?_
      refine go_iald h.1 (by decide +kernel) rfl rfl (fun b32 => ?_)
      show Go X (Em X puI) 33 [some (.inr (.inr (7, w))), some (.inl x1)] [.inl (m 12 w (ix x1)), .inl (m 7 w 11)] m _
      refine go_blk h.1 (is := [.ishr, .iconst 1, .iand]) (pc' := 36) (ls' := [some (.inr (.inr (7, w))), some (.inl x1)]) (st' := [.inl (((m 7 w 11) >>> ((m 12 w (ix x1)) &&& 31)) &&& (1 : Int32))]) (m' := m) (by decide +kernel) rfl ?_
      refine go_ifne h.1 (off := 7) 43 (by decide +kernel) (by decide) (fun c36 => ?_) (fun c36 => ?_)
      · refine go_blk h.1 (is := [.iconst 0]) (pc' := 44) (ls' := [some (.inr (.inr (7, w))), some (.inl x1)]) (st' := [.inl (0 : Int32)]) (m' := m) (by decide +kernel) rfl ?_
        exact go_zret h.1 h.2.2.2.2 (Or.inl rfl) (by decide +kernel)
      · refine go_blk h.1 (is := [.iconst 1]) (pc' := 40) (ls' := [some (.inr (.inr (7, w))), some (.inl x1)]) (st' := [.inl (1 : Int32)]) (m' := m) (by decide +kernel) rfl ?_
        refine go_goto h.1 (off := 4) 44 (by decide +kernel) (by decide) ?_
        exact go_zret h.1 h.2.2.2.2 (Or.inr rfl) (by decide +kernel)
theorem ctr_X0_hasSecret (l : Launch) (A : AR → Nat) (dC : Nat → ClassId) (dI : Nat → Nat → Nat) (cs : Nat → ClassId) (w : Nat) (x1 : Int32) (m : Mem) : Ctr l A dC dI cs yX0_hasSecret prog_2_method_10_code 2 (some .boolean) 0 puI [.inr (.inr (7, w)), .inl x1] m (f_X0_hasSecret w x1 m) :=
  ctr_of (P := P_X0) (by decide +kernel) rfl pt_X0 rfl rfl (fun X hC _ _ _ _ _ hR h0 h1 hr => g_X0_hasSecret ⟨hC, hR, h0, h1, hr⟩ w x1 m)

def f_X0_lenderFor_j36 (w : Nat) (next : Int32 × Mem → Option (Int32 × Mem)) (exit : Mem → Option (Int32 × Mem)) (x1 : Int32) (x2 : Int32) (x3 : Int32) (m : Mem) : Option (Int32 × Mem) :=
  next ((x3 + (1 : Int32)), m)
theorem g_X0_lenderFor_j36 {X : XT} (h : MX X prog_2_method_11_code P_X0 0 (some .int)) (w : Nat) (next : Int32 × Mem → Option (Int32 × Mem)) (exit : Mem → Option (Int32 × Mem)) (x1 : Int32) (x2 : Int32) (x3 : Int32) (m : Mem) (hn : ∀ (s : Int32 × Mem), Go X (Em X puI) 2 [some (.inr (.inr (7, w))), some (.inl x1), some (.inl x2), some (.inl s.1)] [] s.2 (next s)) (hx : ∀ (t : Mem) (o0 : Option AV) (o1 : Option AV) (o2 : Option AV) (o3 : Option AV), Go X (Em X puI) 42 [o0, o1, o2, o3] [] t (exit t)) : Go X (Em X puI) 36 [some (.inr (.inr (7, w))), some (.inl x1), some (.inl x2), some (.inl x3)] [] m (f_X0_lenderFor_j36 w next exit x1 x2 x3 m) := by
  unfold f_X0_lenderFor_j36
  refine go_blk h.1 (is := [.iinc 3 1]) (pc' := 39) (ls' := [some (.inr (.inr (7, w))), some (.inl x1), some (.inl x2), some (.inl (x3 + (1 : Int32)))]) (st' := []) (m' := m) (by decide +kernel) rfl ?_
  refine go_goto h.1 (off := -37) 2 (by decide +kernel) (by decide) ?_
  exact hn ((x3 + (1 : Int32)), m)

def f_X0_lenderFor_b2 (w : Nat) (x1 : Int32) (x2 : Int32) (next : Int32 × Mem → Option (Int32 × Mem)) (exit : Mem → Option (Int32 × Mem)) (s : Int32 × Mem) : Option (Int32 × Mem) :=
  if (s.2 7 w 8) ≤ s.1 then
    exit (s.2)
  else
    if s.1 = x1 then
      f_X0_lenderFor_j36 w next exit x1 x2 s.1 s.2
    else
      if inB s.1 5 = true then
        if (s.2 8 w (ix s.1)) = 0 then
          f_X0_lenderFor_j36 w next exit x1 x2 s.1 s.2
        else
          if inB s.1 5 = true then
            if (s.2 10 w (ix s.1)) < x2 then
              f_X0_lenderFor_j36 w next exit x1 x2 s.1 s.2
            else
              some (s.1, s.2)
          else none
      else none
theorem g_X0_lenderFor_b2 {X : XT} (h : MX X prog_2_method_11_code P_X0 0 (some .int)) (w : Nat) (x1 : Int32) (x2 : Int32) (next : Int32 × Mem → Option (Int32 × Mem)) (exit : Mem → Option (Int32 × Mem)) (hn : ∀ (s : Int32 × Mem), Go X (Em X puI) 2 [some (.inr (.inr (7, w))), some (.inl x1), some (.inl x2), some (.inl s.1)] [] s.2 (next s)) (hx : ∀ (t : Mem) (o0 : Option AV) (o1 : Option AV) (o2 : Option AV) (o3 : Option AV), Go X (Em X puI) 42 [o0, o1, o2, o3] [] t (exit t)) (s : Int32 × Mem) : Go X (Em X puI) 2 [some (.inr (.inr (7, w))), some (.inl x1), some (.inl x2), some (.inl s.1)] [] s.2 (f_X0_lenderFor_b2 w x1 x2 next exit s) := by
  unfold f_X0_lenderFor_b2
  refine go_blk h.1 (is := [.iload_n 3, .aload_n 0, .getfield 44]) (pc' := 7) (ls' := [some (.inr (.inr (7, w))), some (.inl x1), some (.inl x2), some (.inl s.1)]) (st' := [.inl (s.2 7 w 8), .inl s.1]) (m' := s.2) (by decide +kernel) rfl ?_
  refine go_icmpge h.1 (off := 35) 42 (by decide +kernel) (by decide) (fun c7 => ?_) (fun c7 => ?_)
  · exact hx (s.2) (some (.inr (.inr (7, w)))) (some (.inl x1)) (some (.inl x2)) (some (.inl s.1))
  · refine go_blk h.1 (is := [.iload_n 3, .iload_n 1]) (pc' := 12) (ls' := [some (.inr (.inr (7, w))), some (.inl x1), some (.inl x2), some (.inl s.1)]) (st' := [.inl x1, .inl s.1]) (m' := s.2) (by decide +kernel) rfl ?_
    refine go_icmpeq h.1 (off := 24) 36 (by decide +kernel) (by decide) (fun c12 => ?_) (fun c12 => ?_)
    · exact g_X0_lenderFor_j36 h w next exit x1 x2 s.1 s.2 hn hx
    · refine go_blk h.1 (is := [.aload_n 0, .getfield 9, .iload_n 3]) (pc' := 20) (ls' := [some (.inr (.inr (7, w))), some (.inl x1), some (.inl x2), some (.inl s.1)]) (st' := [.inl s.1, .inr (.inr (8, w))]) (m' := s.2) (by decide +kernel) rfl ?_
      refine go_iald h.1 (by decide +kernel) rfl rfl (fun b20 => ?_)
      show Go X (Em X puI) 21 [some (.inr (.inr (7, w))), some (.inl x1), some (.inl x2), some (.inl s.1)] [.inl (s.2 8 w (ix s.1))] s.2 _
      refine go_ifeq h.1 (off := 15) 36 (by decide +kernel) (by decide) (fun c21 => ?_) (fun c21 => ?_)
      · exact g_X0_lenderFor_j36 h w next exit x1 x2 s.1 s.2 hn hx
      · refine go_blk h.1 (is := [.aload_n 0, .getfield 18, .iload_n 3]) (pc' := 29) (ls' := [some (.inr (.inr (7, w))), some (.inl x1), some (.inl x2), some (.inl s.1)]) (st' := [.inl s.1, .inr (.inr (10, w))]) (m' := s.2) (by decide +kernel) rfl ?_
        refine go_iald h.1 (by decide +kernel) rfl rfl (fun b29 => ?_)
        show Go X (Em X puI) 30 [some (.inr (.inr (7, w))), some (.inl x1), some (.inl x2), some (.inl s.1)] [.inl (s.2 10 w (ix s.1))] s.2 _
        refine go_blk h.1 (is := [.iload_n 2]) (pc' := 31) (ls' := [some (.inr (.inr (7, w))), some (.inl x1), some (.inl x2), some (.inl s.1)]) (st' := [.inl x2, .inl (s.2 10 w (ix s.1))]) (m' := s.2) (by decide +kernel) rfl ?_
        refine go_icmplt h.1 (off := 5) 36 (by decide +kernel) (by decide) (fun c31 => ?_) (fun c31 => ?_)
        · exact g_X0_lenderFor_j36 h w next exit x1 x2 s.1 s.2 hn hx
        · refine go_blk h.1 (is := [.iload_n 3]) (pc' := 35) (ls' := [some (.inr (.inr (7, w))), some (.inl x1), some (.inl x2), some (.inl s.1)]) (st' := [.inl s.1]) (m' := s.2) (by decide +kernel) rfl ?_
          exact go_iret h.1 h.2.2.2.2 (by decide +kernel)

def f_X0_lenderFor (w : Nat) (x1 : Int32) (x2 : Int32) (m : Mem) : Option (Int32 × Mem) :=
  lpk (f_X0_lenderFor_b2 w x1 x2) fuelN ((0 : Int32), m) (fun t2 =>
    some ((-2 : Int32), t2))
theorem g_X0_lenderFor {X : XT} (h : MX X prog_2_method_11_code P_X0 0 (some .int)) (w : Nat) (x1 : Int32) (x2 : Int32) (m : Mem) : Go X (Em X puI) 0 [some (.inr (.inr (7, w))), some (.inl x1), some (.inl x2), none] [] m (f_X0_lenderFor w x1 x2 m) := by
  unfold f_X0_lenderFor
  refine go_blk h.1 (is := [.iconst 0, .istore_n 3]) (pc' := 2) (ls' := [some (.inr (.inr (7, w))), some (.inl x1), some (.inl x2), some (.inl (0 : Int32))]) (st' := []) (m' := m) (by decide +kernel) rfl ?_
  refine go_loop (hd := fun (s2 : Int32 × Mem) o => Go X (Em X puI) 2 [some (.inr (.inr (7, w))), some (.inl x1), some (.inl x2), some (.inl s2.1)] [] s2.2 o) (fun s => go_none) (fun s2 nx_ hn_ => g_X0_lenderFor_b2 h w x1 x2 nx_ _ hn_ ?_ s2) fuelN ((0 : Int32), m)
  intro t2 o0_2 o1_2 o2_2 o3_2
  refine go_blk h.1 (is := [.bipush (-2)]) (pc' := 44) (ls' := [o0_2, o1_2, o2_2, o3_2]) (st' := [.inl (-2 : Int32)]) (m' := t2) (by decide +kernel) rfl ?_
  exact go_iret h.1 h.2.2.2.2 (by decide +kernel)
theorem ctr_X0_lenderFor (l : Launch) (A : AR → Nat) (dC : Nat → ClassId) (dI : Nat → Nat → Nat) (cs : Nat → ClassId) (w : Nat) (x1 : Int32) (x2 : Int32) (m : Mem) : Ctr l A dC dI cs yX0_lenderFor prog_2_method_11_code 4 (some .int) 0 puI [.inr (.inr (7, w)), .inl x1, .inl x2] m (f_X0_lenderFor w x1 x2 m) :=
  ctr_of (P := P_X0) (by decide +kernel) rfl pt_X0 rfl rfl (fun X hC _ _ _ _ _ hR h0 h1 hr => g_X0_lenderFor ⟨hC, hR, h0, h1, hr⟩ w x1 x2 m)

def f_X0_payerOf (w : Nat) (x1 : Int32) (x2 : Int32) (m : Mem) : Option (Int32 × Mem) :=
  if x1 < 0 then
    some ((-2 : Int32), m)
  else
    if x1 < (m 7 w 8) then
      bnd (f_X0_tollOf w x1 m) (fun r17 m17 =>
        if x2 = (0 : Int32) then
          if inB x1 5 = true then
            if (m17 10 w (ix x1)) < r17 then
              some ((-2 : Int32), m17)
            else
              some (x1, m17)
          else none
        else
          if x2 = (1 : Int32) then
            bnd (f_X0_hasNewSong w x1 m17) (fun r71 m71 =>
              if r71 = 0 then
                some ((-2 : Int32), m71)
              else
                some ((-1 : Int32), m71))
          else
            if x2 = (2 : Int32) then
              bnd (f_X0_hasSecret w x1 m17) (fun r86 m86 =>
                if r86 = 0 then
                  some ((-2 : Int32), m86)
                else
                  some ((-1 : Int32), m86))
            else
              if x2 = (3 : Int32) then
                bnd (f_X0_lenderFor w x1 r17 m17) (fun r102 m102 =>
                  some (r102, m102))
              else
                some ((-2 : Int32), m17))
    else
      some ((-2 : Int32), m)
theorem g_X0_payerOf {X : XT} (h : MX X prog_2_method_6_code P_X0 2 (some .int)) (w : Nat) (x1 : Int32) (x2 : Int32) (m : Mem) : Go X (Em X puI) 0 [some (.inr (.inr (7, w))), some (.inl x1), some (.inl x2), none] [] m (f_X0_payerOf w x1 x2 m) := by
  unfold f_X0_payerOf
  refine go_blk h.1 (is := [.iload_n 1]) (pc' := 1) (ls' := [some (.inr (.inr (7, w))), some (.inl x1), some (.inl x2), none]) (st' := [.inl x1]) (m' := m) (by decide +kernel) rfl ?_
  refine go_iflt h.1 (off := 11) 12 (by decide +kernel) (by decide) (fun c1 => ?_) (fun c1 => ?_)
  · refine go_blk h.1 (is := [.bipush (-2)]) (pc' := 14) (ls' := [some (.inr (.inr (7, w))), some (.inl x1), some (.inl x2), none]) (st' := [.inl (-2 : Int32)]) (m' := m) (by decide +kernel) rfl ?_
    exact go_iret h.1 h.2.2.2.2 (by decide +kernel)
  · refine go_blk h.1 (is := [.iload_n 1, .aload_n 0, .getfield 44]) (pc' := 9) (ls' := [some (.inr (.inr (7, w))), some (.inl x1), some (.inl x2), none]) (st' := [.inl (m 7 w 8), .inl x1]) (m' := m) (by decide +kernel) rfl ?_
    refine go_icmplt h.1 (off := 6) 15 (by decide +kernel) (by decide) (fun c9 => ?_) (fun c9 => ?_)
    · refine go_blk h.1 (is := [.aload_n 0, .iload_n 1]) (pc' := 17) (ls' := [some (.inr (.inr (7, w))), some (.inl x1), some (.inl x2), none]) (st' := [.inl x1, .inr (.inr (7, w))]) (m' := m) (by decide +kernel) rfl ?_
      refine go_callV h.1 (index := 97) (n := 1) (t := 7) (i := w) (ci := 0) (nf := 14) (cz := (RX0, TX0, 14)) (as := [.inl x1]) (rest := []) (ctr_X0_tollOf (xl X) (xA X) (xC X) (xI X) (xk X) w x1 m) (by decide +kernel) rfl rfl wd_v_X0_97 rfl (h.room (by first | decide | omega) (by decide)) h.cl (Nat.le_of_ble_eq_true rfl) puI_ok rfl (fun r17 m17 _ => ?_)
      show Go X (Em X puI) 20 [some (.inr (.inr (7, w))), some (.inl x1), some (.inl x2), none] [.inl r17] m17 _
      refine go_blk h.1 (is := [.istore_n 3, .iload_n 2]) (pc' := 22) (ls' := [some (.inr (.inr (7, w))), some (.inl x1), some (.inl x2), some (.inl r17)]) (st' := [.inl x2]) (m' := m17) (by decide +kernel) rfl ?_
      refine go_ite (fun w22_0 => ?_) (fun w22_0 => ?_)
      · refine go_tsIn h.1 (dflt := 84) (lo := 0) (hi := 3) (offs := #[30, 47, 62, 77]) (len := 30) (off := 30) (0 : Int32) 52 w22_0 (by decide +kernel) (by decide) rfl (by decide) ?_
        refine go_blk h.1 (is := [.aload_n 0, .getfield 18, .iload_n 1]) (pc' := 57) (ls' := [some (.inr (.inr (7, w))), some (.inl x1), some (.inl x2), some (.inl r17)]) (st' := [.inl x1, .inr (.inr (10, w))]) (m' := m17) (by decide +kernel) rfl ?_
        refine go_iald h.1 (by decide +kernel) rfl rfl (fun b57 => ?_)
        show Go X (Em X puI) 58 [some (.inr (.inr (7, w))), some (.inl x1), some (.inl x2), some (.inl r17)] [.inl (m17 10 w (ix x1))] m17 _
        refine go_blk h.1 (is := [.iload_n 3]) (pc' := 59) (ls' := [some (.inr (.inr (7, w))), some (.inl x1), some (.inl x2), some (.inl r17)]) (st' := [.inl r17, .inl (m17 10 w (ix x1))]) (m' := m17) (by decide +kernel) rfl ?_
        refine go_icmplt h.1 (off := 7) 66 (by decide +kernel) (by decide) (fun c59 => ?_) (fun c59 => ?_)
        · refine go_blk h.1 (is := [.bipush (-2)]) (pc' := 68) (ls' := [some (.inr (.inr (7, w))), some (.inl x1), some (.inl x2), some (.inl r17)]) (st' := [.inl (-2 : Int32)]) (m' := m17) (by decide +kernel) rfl ?_
          exact go_iret h.1 h.2.2.2.2 (by decide +kernel)
        · refine go_blk h.1 (is := [.iload_n 1]) (pc' := 63) (ls' := [some (.inr (.inr (7, w))), some (.inl x1), some (.inl x2), some (.inl r17)]) (st' := [.inl x1]) (m' := m17) (by decide +kernel) rfl ?_
          refine go_goto h.1 (off := 5) 68 (by decide +kernel) (by decide) ?_
          exact go_iret h.1 h.2.2.2.2 (by decide +kernel)
      · refine go_ite (fun w22_1 => ?_) (fun w22_1 => ?_)
        · refine go_tsIn h.1 (dflt := 84) (lo := 0) (hi := 3) (offs := #[30, 47, 62, 77]) (len := 30) (off := 47) (1 : Int32) 69 w22_1 (by decide +kernel) (by decide) rfl (by decide) ?_
          refine go_blk h.1 (is := [.aload_n 0, .iload_n 1]) (pc' := 71) (ls' := [some (.inr (.inr (7, w))), some (.inl x1), some (.inl x2), some (.inl r17)]) (st' := [.inl x1, .inr (.inr (7, w))]) (m' := m17) (by decide +kernel) rfl ?_
          refine go_callV h.1 (index := 108) (n := 1) (t := 7) (i := w) (ci := 0) (nf := 14) (cz := (RX0, TX0, 14)) (as := [.inl x1]) (rest := []) (ctr_X0_hasNewSong (xl X) (xA X) (xC X) (xI X) (xk X) w x1 m17) (by decide +kernel) rfl rfl wd_v_X0_108 rfl (h.room (by first | decide | omega) (by decide)) h.cl (Nat.le_of_ble_eq_true rfl) puI_ok rfl (fun r71 m71 _ => ?_)
          show Go X (Em X puI) 74 [some (.inr (.inr (7, w))), some (.inl x1), some (.inl x2), some (.inl r17)] [.inl r71] m71 _
          refine go_ifeq h.1 (off := 7) 81 (by decide +kernel) (by decide) (fun c74 => ?_) (fun c74 => ?_)
          · refine go_blk h.1 (is := [.bipush (-2)]) (pc' := 83) (ls' := [some (.inr (.inr (7, w))), some (.inl x1), some (.inl x2), some (.inl r17)]) (st' := [.inl (-2 : Int32)]) (m' := m71) (by decide +kernel) rfl ?_
            exact go_iret h.1 h.2.2.2.2 (by decide +kernel)
          · refine go_blk h.1 (is := [.iconst (-1)]) (pc' := 78) (ls' := [some (.inr (.inr (7, w))), some (.inl x1), some (.inl x2), some (.inl r17)]) (st' := [.inl (-1 : Int32)]) (m' := m71) (by decide +kernel) rfl ?_
            refine go_goto h.1 (off := 5) 83 (by decide +kernel) (by decide) ?_
            exact go_iret h.1 h.2.2.2.2 (by decide +kernel)
        · refine go_ite (fun w22_2 => ?_) (fun w22_2 => ?_)
          · refine go_tsIn h.1 (dflt := 84) (lo := 0) (hi := 3) (offs := #[30, 47, 62, 77]) (len := 30) (off := 62) (2 : Int32) 84 w22_2 (by decide +kernel) (by decide) rfl (by decide) ?_
            refine go_blk h.1 (is := [.aload_n 0, .iload_n 1]) (pc' := 86) (ls' := [some (.inr (.inr (7, w))), some (.inl x1), some (.inl x2), some (.inl r17)]) (st' := [.inl x1, .inr (.inr (7, w))]) (m' := m17) (by decide +kernel) rfl ?_
            refine go_callV h.1 (index := 112) (n := 1) (t := 7) (i := w) (ci := 0) (nf := 14) (cz := (RX0, TX0, 14)) (as := [.inl x1]) (rest := []) (ctr_X0_hasSecret (xl X) (xA X) (xC X) (xI X) (xk X) w x1 m17) (by decide +kernel) rfl rfl wd_v_X0_112 rfl (h.room (by first | decide | omega) (by decide)) h.cl (Nat.le_of_ble_eq_true rfl) puI_ok rfl (fun r86 m86 _ => ?_)
            show Go X (Em X puI) 89 [some (.inr (.inr (7, w))), some (.inl x1), some (.inl x2), some (.inl r17)] [.inl r86] m86 _
            refine go_ifeq h.1 (off := 7) 96 (by decide +kernel) (by decide) (fun c89 => ?_) (fun c89 => ?_)
            · refine go_blk h.1 (is := [.bipush (-2)]) (pc' := 98) (ls' := [some (.inr (.inr (7, w))), some (.inl x1), some (.inl x2), some (.inl r17)]) (st' := [.inl (-2 : Int32)]) (m' := m86) (by decide +kernel) rfl ?_
              exact go_iret h.1 h.2.2.2.2 (by decide +kernel)
            · refine go_blk h.1 (is := [.iconst (-1)]) (pc' := 93) (ls' := [some (.inr (.inr (7, w))), some (.inl x1), some (.inl x2), some (.inl r17)]) (st' := [.inl (-1 : Int32)]) (m' := m86) (by decide +kernel) rfl ?_
              refine go_goto h.1 (off := 5) 98 (by decide +kernel) (by decide) ?_
              exact go_iret h.1 h.2.2.2.2 (by decide +kernel)
          · refine go_ite (fun w22_3 => ?_) (fun w22_3 => ?_)
            · refine go_tsIn h.1 (dflt := 84) (lo := 0) (hi := 3) (offs := #[30, 47, 62, 77]) (len := 30) (off := 77) (3 : Int32) 99 w22_3 (by decide +kernel) (by decide) rfl (by decide) ?_
              refine go_blk h.1 (is := [.aload_n 0, .iload_n 1, .iload_n 3]) (pc' := 102) (ls' := [some (.inr (.inr (7, w))), some (.inl x1), some (.inl x2), some (.inl r17)]) (st' := [.inl r17, .inl x1, .inr (.inr (7, w))]) (m' := m17) (by decide +kernel) rfl ?_
              refine go_callV h.1 (index := 115) (n := 2) (t := 7) (i := w) (ci := 0) (nf := 14) (cz := (RX0, TX0, 14)) (as := [.inl x1, .inl r17]) (rest := []) (ctr_X0_lenderFor (xl X) (xA X) (xC X) (xI X) (xk X) w x1 r17 m17) (by decide +kernel) rfl rfl wd_v_X0_115 rfl (h.room (by first | decide | omega) (by decide)) h.cl (Nat.le_of_ble_eq_true rfl) puI_ok rfl (fun r102 m102 _ => ?_)
              show Go X (Em X puI) 105 [some (.inr (.inr (7, w))), some (.inl x1), some (.inl x2), some (.inl r17)] [.inl r102] m102 _
              exact go_iret h.1 h.2.2.2.2 (by decide +kernel)
            · refine go_tsOut h.1 (dflt := 84) (lo := 0) (hi := 3) (offs := #[30, 47, 62, 77]) (len := 30) 106 (by decide +kernel) (sw_out (n := 4) (by decide) ((lt_s (lt_s (lt_s (lt_s lt_0 w22_0) w22_1) w22_2) w22_3) : ∀ j : Nat, j < 4 → ¬ x2 = Int32.ofInt (0 + (j : Int)))) (by decide) ?_
              refine go_blk h.1 (is := [.bipush (-2)]) (pc' := 108) (ls' := [some (.inr (.inr (7, w))), some (.inl x1), some (.inl x2), some (.inl r17)]) (st' := [.inl (-2 : Int32)]) (m' := m17) (by decide +kernel) rfl ?_
              exact go_iret h.1 h.2.2.2.2 (by decide +kernel)
    · refine go_blk h.1 (is := [.bipush (-2)]) (pc' := 14) (ls' := [some (.inr (.inr (7, w))), some (.inl x1), some (.inl x2), none]) (st' := [.inl (-2 : Int32)]) (m' := m) (by decide +kernel) rfl ?_
      exact go_iret h.1 h.2.2.2.2 (by decide +kernel)
theorem ctr_X0_payerOf (l : Launch) (A : AR → Nat) (dC : Nat → ClassId) (dI : Nat → Nat → Nat) (cs : Nat → ClassId) (w : Nat) (x1 : Int32) (x2 : Int32) (m : Mem) : Ctr l A dC dI cs yX0_payerOf prog_2_method_6_code 4 (some .int) 2 puI [.inr (.inr (7, w)), .inl x1, .inl x2] m (f_X0_payerOf w x1 x2 m) :=
  ctr_of (P := P_X0) (by decide +kernel) rfl pt_X0 rfl rfl (fun X hC _ _ _ _ _ hR h0 h1 hr => g_X0_payerOf ⟨hC, hR, h0, h1, hr⟩ w x1 x2 m)

def f_X0_turnWord (w : Nat) (x1 : Int32) (x2 : Int32) (m : Mem) : Option (Unit × Mem) :=
  if x2 = (1 : Int32) then
    if inB x1 5 = true then
      some ((), (mset m 7 w 10 ((m 7 w 10) ^^^ ((1 : Int32) <<< ((m 11 w (ix x1)) &&& 31)))))
    else none
  else
    if inB x1 5 = true then
      some ((), (mset m 7 w 11 ((m 7 w 11) ^^^ ((1 : Int32) <<< ((m 12 w (ix x1)) &&& 31)))))
    else none
theorem g_X0_turnWord {X : XT} (h : MX X prog_2_method_8_code P_X0 0 none) (w : Nat) (x1 : Int32) (x2 : Int32) (m : Mem) : Go X (Em X puV) 0 [some (.inr (.inr (7, w))), some (.inl x1), some (.inl x2)] [] m (f_X0_turnWord w x1 x2 m) := by
  unfold f_X0_turnWord
  refine go_blk h.1 (is := [.iload_n 2, .iconst 1]) (pc' := 2) (ls' := [some (.inr (.inr (7, w))), some (.inl x1), some (.inl x2)]) (st' := [.inl (1 : Int32), .inl x2]) (m' := m) (by decide +kernel) rfl ?_
  refine go_icmpne h.1 (off := 23) 25 (by decide +kernel) (by decide) (fun c2 => ?_) (fun c2 => ?_)
  · refine go_blk h.1 (is := [.aload_n 0, .dup, .getfield 53, .iconst 1, .aload_n 0, .getfield 24, .iload_n 1]) (pc' := 36) (ls' := [some (.inr (.inr (7, w))), some (.inl x1), some (.inl x2)]) (st' := [.inl x1, .inr (.inr (12, w)), .inl (1 : Int32), .inl (m 7 w 11), .inr (.inr (7, w))]) (m' := m) (by decide +kernel) rfl ?_
    refine go_iald h.1 (by decide +kernel) rfl rfl (fun b36 => ?_)
    show Go X (Em X puV) 37 [some (.inr (.inr (7, w))), some (.inl x1), some (.inl x2)] [.inl (m 12 w (ix x1)), .inl (1 : Int32), .inl (m 7 w 11), .inr (.inr (7, w))] m _
    refine go_blk h.1 (is := [.ishl, .ixor, .putfield 53]) (pc' := 42) (ls' := [some (.inr (.inr (7, w))), some (.inl x1), some (.inl x2)]) (st' := []) (m' := (mset m 7 w 11 ((m 7 w 11) ^^^ ((1 : Int32) <<< ((m 12 w (ix x1)) &&& 31))))) (by decide +kernel) rfl ?_
    exact go_vret h.1 h.2.2.2.2 (by decide +kernel)
  · refine go_blk h.1 (is := [.aload_n 0, .dup, .getfield 52, .iconst 1, .aload_n 0, .getfield 21, .iload_n 1]) (pc' := 16) (ls' := [some (.inr (.inr (7, w))), some (.inl x1), some (.inl x2)]) (st' := [.inl x1, .inr (.inr (11, w)), .inl (1 : Int32), .inl (m 7 w 10), .inr (.inr (7, w))]) (m' := m) (by decide +kernel) rfl ?_
    refine go_iald h.1 (by decide +kernel) rfl rfl (fun b16 => ?_)
    show Go X (Em X puV) 17 [some (.inr (.inr (7, w))), some (.inl x1), some (.inl x2)] [.inl (m 11 w (ix x1)), .inl (1 : Int32), .inl (m 7 w 10), .inr (.inr (7, w))] m _
    refine go_blk h.1 (is := [.ishl, .ixor, .putfield 52]) (pc' := 22) (ls' := [some (.inr (.inr (7, w))), some (.inl x1), some (.inl x2)]) (st' := []) (m' := (mset m 7 w 10 ((m 7 w 10) ^^^ ((1 : Int32) <<< ((m 11 w (ix x1)) &&& 31))))) (by decide +kernel) rfl ?_
    refine go_goto h.1 (off := 20) 42 (by decide +kernel) (by decide) ?_
    exact go_vret h.1 h.2.2.2.2 (by decide +kernel)
theorem ctr_X0_turnWord (l : Launch) (A : AR → Nat) (dC : Nat → ClassId) (dI : Nat → Nat → Nat) (cs : Nat → ClassId) (w : Nat) (x1 : Int32) (x2 : Int32) (m : Mem) : Ctr l A dC dI cs yX0_turnWord prog_2_method_8_code 3 none 0 puV [.inr (.inr (7, w)), .inl x1, .inl x2] m (f_X0_turnWord w x1 x2 m) :=
  ctr_of (P := P_X0) (by decide +kernel) rfl pt_X0 rfl rfl (fun X hC _ _ _ _ _ hR h0 h1 hr => g_X0_turnWord ⟨hC, hR, h0, h1, hr⟩ w x1 x2 m)

def f_X0_pay (w : Nat) (x1 : Int32) (x2 : Int32) (x3 : Int32) (m : Mem) : Option (Unit × Mem) :=
  if inB x2 5 = true then
    if inB x2 5 = true then
      if x2 = x1 then
        some ((), (mset (mset m 10 w (ix x2) ((m 10 w (ix x2)) - x3)) 7 w 13 ((m 7 w 13) + x3)))
      else
        if inB x1 5 = true then
          if inB x2 5 = true then
            if inB x2 5 = true then
              some ((), (mset (mset (mset m 10 w (ix x2) ((m 10 w (ix x2)) - x3)) 7 w 13 ((m 7 w 13) + x3)) 14 (5 * w + (ix x1)) (ix x2) ((m 14 (5 * w + (ix x1)) (ix x2)) + x3)))
            else none
          else none
        else none
    else none
  else none
theorem g_X0_pay {X : XT} (h : MX X prog_2_method_7_code P_X0 0 none) (w : Nat) (x1 : Int32) (x2 : Int32) (x3 : Int32) (m : Mem) : Go X (Em X puV) 0 [some (.inr (.inr (7, w))), some (.inl x1), some (.inl x2), some (.inl x3)] [] m (f_X0_pay w x1 x2 x3 m) := by
  unfold f_X0_pay
  refine go_blk h.1 (is := [.aload_n 0, .getfield 18, .iload_n 2, .dup2]) (pc' := 6) (ls' := [some (.inr (.inr (7, w))), some (.inl x1), some (.inl x2), some (.inl x3)]) (st' := [.inl x2, .inr (.inr (10, w)), .inl x2, .inr (.inr (10, w))]) (m' := m) (by decide +kernel) rfl ?_
  refine go_iald h.1 (by decide +kernel) rfl rfl (fun b6 => ?_)
  show Go X (Em X puV) 7 [some (.inr (.inr (7, w))), some (.inl x1), some (.inl x2), some (.inl x3)] [.inl (m 10 w (ix x2)), .inl x2, .inr (.inr (10, w))] m _
  refine go_blk h.1 (is := [.iload_n 3, .isub]) (pc' := 9) (ls' := [some (.inr (.inr (7, w))), some (.inl x1), some (.inl x2), some (.inl x3)]) (st' := [.inl ((m 10 w (ix x2)) - x3), .inl x2, .inr (.inr (10, w))]) (m' := m) (by decide +kernel) rfl ?_
  refine go_iast h.1 (by decide +kernel) rfl rfl (fun b9 => ?_)
  refine go_blk h.1 (is := [.aload_n 0, .dup, .getfield 59, .iload_n 3, .iadd, .putfield 59, .iload_n 2, .iload_n 1]) (pc' := 22) (ls' := [some (.inr (.inr (7, w))), some (.inl x1), some (.inl x2), some (.inl x3)]) (st' := [.inl x1, .inl x2]) (m' := (mset (mset m 10 w (ix x2) ((m 10 w (ix x2)) - x3)) 7 w 13 ((m 7 w 13) + x3))) (by decide +kernel) rfl ?_
  refine go_icmpeq h.1 (off := 15) 37 (by decide +kernel) (by decide) (fun c22 => ?_) (fun c22 => ?_)
  · exact go_vret h.1 h.2.2.2.2 (by decide +kernel)
  · refine go_blk h.1 (is := [.aload_n 0, .getfield 29, .iload_n 1]) (pc' := 30) (ls' := [some (.inr (.inr (7, w))), some (.inl x1), some (.inl x2), some (.inl x3)]) (st' := [.inl x1, .inr (.inr (13, w))]) (m' := (mset (mset m 10 w (ix x2) ((m 10 w (ix x2)) - x3)) 7 w 13 ((m 7 w 13) + x3))) (by decide +kernel) rfl ?_
    refine go_aald h.1 (kd := 2) (z := (14, (5 * w + (ix x1)))) (by decide +kernel) rfl rfl (by decide) rfl (fun b30 => ?_)
    refine go_blk h.1 (is := [.iload_n 2, .dup2]) (pc' := 33) (ls' := [some (.inr (.inr (7, w))), some (.inl x1), some (.inl x2), some (.inl x3)]) (st' := [.inl x2, .inr (.inr (14, (5 * w + (ix x1)))), .inl x2, .inr (.inr (14, (5 * w + (ix x1))))]) (m' := (mset (mset m 10 w (ix x2) ((m 10 w (ix x2)) - x3)) 7 w 13 ((m 7 w 13) + x3))) (by decide +kernel) rfl ?_
    refine go_iald h.1 (by decide +kernel) rfl rfl (fun b33 => ?_)
    show Go X (Em X puV) 34 [some (.inr (.inr (7, w))), some (.inl x1), some (.inl x2), some (.inl x3)] [.inl (m 14 (5 * w + (ix x1)) (ix x2)), .inl x2, .inr (.inr (14, (5 * w + (ix x1))))] (mset (mset m 10 w (ix x2) ((m 10 w (ix x2)) - x3)) 7 w 13 ((m 7 w 13) + x3)) _
    refine go_blk h.1 (is := [.iload_n 3, .iadd]) (pc' := 36) (ls' := [some (.inr (.inr (7, w))), some (.inl x1), some (.inl x2), some (.inl x3)]) (st' := [.inl ((m 14 (5 * w + (ix x1)) (ix x2)) + x3), .inl x2, .inr (.inr (14, (5 * w + (ix x1))))]) (m' := (mset (mset m 10 w (ix x2) ((m 10 w (ix x2)) - x3)) 7 w 13 ((m 7 w 13) + x3))) (by decide +kernel) rfl ?_
    refine go_iast h.1 (by decide +kernel) rfl rfl (fun b36 => ?_)
    exact go_vret h.1 h.2.2.2.2 (by decide +kernel)
theorem ctr_X0_pay (l : Launch) (A : AR → Nat) (dC : Nat → ClassId) (dI : Nat → Nat → Nat) (cs : Nat → ClassId) (w : Nat) (x1 : Int32) (x2 : Int32) (x3 : Int32) (m : Mem) : Ctr l A dC dI cs yX0_pay prog_2_method_7_code 4 none 0 puV [.inr (.inr (7, w)), .inl x1, .inl x2, .inl x3] m (f_X0_pay w x1 x2 x3 m) :=
  ctr_of (P := P_X0) (by decide +kernel) rfl pt_X0 rfl rfl (fun X hC _ _ _ _ _ hR h0 h1 hr => g_X0_pay ⟨hC, hR, h0, h1, hr⟩ w x1 x2 x3 m)

def f_X0_pass_j41 (w : Nat) (x1 : Int32) (x3 : Int32) (m : Mem) : Option (Int32 × Mem) :=
  some (x3, (mset m 7 w 12 ((m 7 w 12) ^^^ ((1 : Int32) <<< (x1 &&& 31)))))
theorem g_X0_pass_j41 {X : XT} (h : MX X prog_2_method_4_code P_X0 3 (some .int)) (w : Nat) (x1 : Int32) (x3 : Int32) (m : Mem) (o2 : Option AV) : Go X (Em X puI) 41 [some (.inr (.inr (7, w))), some (.inl x1), o2, some (.inl x3)] [] m (f_X0_pass_j41 w x1 x3 m) := by
  unfold f_X0_pass_j41
  refine go_blk h.1 (is := [.aload_n 0, .dup, .getfield 56, .iconst 1, .iload_n 1, .ishl, .ixor, .putfield 56, .iload_n 3]) (pc' := 54) (ls' := [some (.inr (.inr (7, w))), some (.inl x1), o2, some (.inl x3)]) (st' := [.inl x3]) (m' := (mset m 7 w 12 ((m 7 w 12) ^^^ ((1 : Int32) <<< (x1 &&& 31))))) (by decide +kernel) rfl ?_
  exact go_iret h.1 h.2.2.2.2 (by decide +kernel)

def f_X0_pass (w : Nat) (x1 : Int32) (x2 : Int32) (m : Mem) : Option (Int32 × Mem) :=
  bnd (f_X0_payerOf w x1 x2 m) (fun r3 m3 =>
    if r3 = (-2 : Int32) then
      some ((-2 : Int32), m3)
    else
      if r3 = (-1 : Int32) then
        bnd (f_X0_turnWord w x1 x2 m3) (fun _ m38 =>
          f_X0_pass_j41 w x1 r3 m38)
      else
        bnd (f_X0_tollOf w x1 m3) (fun r26 m26 =>
          bnd (f_X0_pay w x1 r3 r26 m26) (fun _ m29 =>
            f_X0_pass_j41 w x1 r3 m29)))
theorem g_X0_pass {X : XT} (h : MX X prog_2_method_4_code P_X0 3 (some .int)) (w : Nat) (x1 : Int32) (x2 : Int32) (m : Mem) : Go X (Em X puI) 0 [some (.inr (.inr (7, w))), some (.inl x1), some (.inl x2), none] [] m (f_X0_pass w x1 x2 m) := by
  unfold f_X0_pass
  refine go_blk h.1 (is := [.aload_n 0, .iload_n 1, .iload_n 2]) (pc' := 3) (ls' := [some (.inr (.inr (7, w))), some (.inl x1), some (.inl x2), none]) (st' := [.inl x2, .inl x1, .inr (.inr (7, w))]) (m' := m) (by decide +kernel) rfl ?_
  refine go_callV h.1 (index := 94) (n := 2) (t := 7) (i := w) (ci := 0) (nf := 14) (cz := (RX0, TX0, 14)) (as := [.inl x1, .inl x2]) (rest := []) (ctr_X0_payerOf (xl X) (xA X) (xC X) (xI X) (xk X) w x1 x2 m) (by decide +kernel) rfl rfl wd_v_X0_94 rfl (h.room (by first | decide | omega) (by decide)) h.cl (Nat.le_of_ble_eq_true rfl) puI_ok rfl (fun r3 m3 _ => ?_)
  show Go X (Em X puI) 6 [some (.inr (.inr (7, w))), some (.inl x1), some (.inl x2), none] [.inl r3] m3 _
  refine go_blk h.1 (is := [.istore_n 3, .iload_n 3, .bipush (-2)]) (pc' := 10) (ls' := [some (.inr (.inr (7, w))), some (.inl x1), some (.inl x2), some (.inl r3)]) (st' := [.inl (-2 : Int32), .inl r3]) (m' := m3) (by decide +kernel) rfl ?_
  refine go_icmpne h.1 (off := 6) 16 (by decide +kernel) (by decide) (fun c10 => ?_) (fun c10 => ?_)
  · refine go_blk h.1 (is := [.iload_n 3, .iconst (-1)]) (pc' := 18) (ls' := [some (.inr (.inr (7, w))), some (.inl x1), some (.inl x2), some (.inl r3)]) (st' := [.inl (-1 : Int32), .inl r3]) (m' := m3) (by decide +kernel) rfl ?_
    refine go_icmpeq h.1 (off := 17) 35 (by decide +kernel) (by decide) (fun c18 => ?_) (fun c18 => ?_)
    · refine go_blk h.1 (is := [.aload_n 0, .iload_n 1, .iload_n 2]) (pc' := 38) (ls' := [some (.inr (.inr (7, w))), some (.inl x1), some (.inl x2), some (.inl r3)]) (st' := [.inl x2, .inl x1, .inr (.inr (7, w))]) (m' := m3) (by decide +kernel) rfl ?_
      refine go_callV h.1 (index := 104) (n := 2) (t := 7) (i := w) (ci := 0) (nf := 14) (cz := (RX0, TX0, 14)) (as := [.inl x1, .inl x2]) (rest := []) (ctr_X0_turnWord (xl X) (xA X) (xC X) (xI X) (xk X) w x1 x2 m3) (by decide +kernel) rfl rfl wd_v_X0_104 rfl (h.room (by first | decide | omega) (by decide)) h.cl (Nat.le_of_ble_eq_true rfl) puV_ok rfl (fun r38 m38 _ => ?_)
      show Go X (Em X puI) 41 [some (.inr (.inr (7, w))), some (.inl x1), some (.inl x2), some (.inl r3)] [] m38 _
      exact g_X0_pass_j41 h w x1 r3 m38 (some (.inl x2))
    · refine go_blk h.1 (is := [.aload_n 0, .iload_n 1, .iload_n 3, .aload_n 0, .iload_n 1]) (pc' := 26) (ls' := [some (.inr (.inr (7, w))), some (.inl x1), some (.inl x2), some (.inl r3)]) (st' := [.inl x1, .inr (.inr (7, w)), .inl r3, .inl x1, .inr (.inr (7, w))]) (m' := m3) (by decide +kernel) rfl ?_
      refine go_callV h.1 (index := 97) (n := 1) (t := 7) (i := w) (ci := 0) (nf := 14) (cz := (RX0, TX0, 14)) (as := [.inl x1]) (rest := [.inl r3, .inl x1, .inr (.inr (7, w))]) (ctr_X0_tollOf (xl X) (xA X) (xC X) (xI X) (xk X) w x1 m3) (by decide +kernel) rfl rfl wd_v_X0_97 rfl (h.room (by first | decide | omega) (by decide)) h.cl (Nat.le_of_ble_eq_true rfl) puI_ok rfl (fun r26 m26 _ => ?_)
      show Go X (Em X puI) 29 [some (.inr (.inr (7, w))), some (.inl x1), some (.inl x2), some (.inl r3)] [.inl r26, .inl r3, .inl x1, .inr (.inr (7, w))] m26 _
      refine go_callV h.1 (index := 100) (n := 3) (t := 7) (i := w) (ci := 0) (nf := 14) (cz := (RX0, TX0, 14)) (as := [.inl x1, .inl r3, .inl r26]) (rest := []) (ctr_X0_pay (xl X) (xA X) (xC X) (xI X) (xk X) w x1 r3 r26 m26) (by decide +kernel) rfl rfl wd_v_X0_100 rfl (h.room (by first | decide | omega) (by decide)) h.cl (Nat.le_of_ble_eq_true rfl) puV_ok rfl (fun r29 m29 _ => ?_)
      show Go X (Em X puI) 32 [some (.inr (.inr (7, w))), some (.inl x1), some (.inl x2), some (.inl r3)] [] m29 _
      refine go_goto h.1 (off := 9) 41 (by decide +kernel) (by decide) ?_
      exact g_X0_pass_j41 h w x1 r3 m29 (some (.inl x2))
  · refine go_blk h.1 (is := [.bipush (-2)]) (pc' := 15) (ls' := [some (.inr (.inr (7, w))), some (.inl x1), some (.inl x2), some (.inl r3)]) (st' := [.inl (-2 : Int32)]) (m' := m3) (by decide +kernel) rfl ?_
    exact go_iret h.1 h.2.2.2.2 (by decide +kernel)
theorem ctr_X0_pass (l : Launch) (A : AR → Nat) (dC : Nat → ClassId) (dI : Nat → Nat → Nat) (cs : Nat → ClassId) (w : Nat) (x1 : Int32) (x2 : Int32) (m : Mem) : Ctr l A dC dI cs yX0_pass prog_2_method_4_code 4 (some .int) 3 puI [.inr (.inr (7, w)), .inl x1, .inl x2] m (f_X0_pass w x1 x2 m) :=
  ctr_of (P := P_X0) (by decide +kernel) rfl pt_X0 rfl rfl (fun X hC _ _ _ _ _ hR h0 h1 hr => g_X0_pass ⟨hC, hR, h0, h1, hr⟩ w x1 x2 m)

def f_X0_walk_b3 (w : Nat) (a1 : Nat) (x2 : Int32) (x3 : Int32) (next : Int32 × Mem → Option (Int32 × Mem)) (exit : Mem → Option (Int32 × Mem)) (s : Int32 × Mem) : Option (Int32 × Mem) :=
  if x3 ≤ s.1 then
    exit (s.2)
  else
    bnd (f_X4_at a1 (x2 + ((2 : Int32) * s.1)) s.2) (fun r17 m17 =>
      bnd (f_X4_at a1 ((x2 + ((2 : Int32) * s.1)) + (1 : Int32)) m17) (fun r29 m29 =>
        bnd (f_X0_pass w r17 r29 m29) (fun r32 m32 =>
          if r32 = (-2 : Int32) then
            some (s.1, m32)
          else
            next ((s.1 + (1 : Int32)), m32))))
theorem g_X0_walk_b3 {X : XT} (h : MX X prog_2_method_3_code P_X0 4 (some .int)) (w : Nat) (a1 : Nat) (x2 : Int32) (x3 : Int32) (next : Int32 × Mem → Option (Int32 × Mem)) (exit : Mem → Option (Int32 × Mem)) (hn : ∀ (s : Int32 × Mem), Go X (Em X puI) 3 [some (.inr (.inr (7, w))), some (.inr (.inr (2, a1))), some (.inl x2), some (.inl x3), some (.inl s.1)] [] s.2 (next s)) (hx : ∀ (t : Mem) (o0 : Option AV) (o1 : Option AV) (o2 : Option AV) (o3 : Option AV) (o4 : Option AV), Go X (Em X puI) 49 [o0, o1, o2, o3, o4] [] t (exit t)) (s : Int32 × Mem) : Go X (Em X puI) 3 [some (.inr (.inr (7, w))), some (.inr (.inr (2, a1))), some (.inl x2), some (.inl x3), some (.inl s.1)] [] s.2 (f_X0_walk_b3 w a1 x2 x3 next exit s) := by
  unfold f_X0_walk_b3
  refine go_blk h.1 (is := [.iload 4, .iload_n 3]) (pc' := 6) (ls' := [some (.inr (.inr (7, w))), some (.inr (.inr (2, a1))), some (.inl x2), some (.inl x3), some (.inl s.1)]) (st' := [.inl x3, .inl s.1]) (m' := s.2) (by decide +kernel) rfl ?_
  refine go_icmpge h.1 (off := 43) 49 (by decide +kernel) (by decide) (fun c6 => ?_) (fun c6 => ?_)
  · exact hx (s.2) (some (.inr (.inr (7, w)))) (some (.inr (.inr (2, a1)))) (some (.inl x2)) (some (.inl x3)) (some (.inl s.1))
  · refine go_blk h.1 (is := [.aload_n 0, .aload_n 1, .iload_n 2, .iconst 2, .iload 4, .imul, .iadd]) (pc' := 17) (ls' := [some (.inr (.inr (7, w))), some (.inr (.inr (2, a1))), some (.inl x2), some (.inl x3), some (.inl s.1)]) (st' := [.inl (x2 + ((2 : Int32) * s.1)), .inr (.inr (2, a1)), .inr (.inr (7, w))]) (m' := s.2) (by decide +kernel) rfl ?_
    refine go_callV h.1 (index := 84) (n := 1) (t := 2) (i := a1) (ci := 4) (nf := 4) (cz := (RX4, TX4, 4)) (as := [.inl (x2 + ((2 : Int32) * s.1))]) (rest := [.inr (.inr (7, w))]) (ctr_X4_at (xl X) (xA X) (xC X) (xI X) (xk X) a1 (x2 + ((2 : Int32) * s.1)) s.2) (by decide +kernel) rfl rfl wd_v_X0_84 rfl (h.room (by first | decide | omega) (by decide)) h.cl (Nat.le_of_ble_eq_true rfl) puI_ok rfl (fun r17 m17 _ => ?_)
    show Go X (Em X puI) 20 [some (.inr (.inr (7, w))), some (.inr (.inr (2, a1))), some (.inl x2), some (.inl x3), some (.inl s.1)] [.inl r17, .inr (.inr (7, w))] m17 _
    refine go_blk h.1 (is := [.aload_n 1, .iload_n 2, .iconst 2, .iload 4, .imul, .iadd, .iconst 1, .iadd]) (pc' := 29) (ls' := [some (.inr (.inr (7, w))), some (.inr (.inr (2, a1))), some (.inl x2), some (.inl x3), some (.inl s.1)]) (st' := [.inl ((x2 + ((2 : Int32) * s.1)) + (1 : Int32)), .inr (.inr (2, a1)), .inl r17, .inr (.inr (7, w))]) (m' := m17) (by decide +kernel) rfl ?_
    refine go_callV h.1 (index := 84) (n := 1) (t := 2) (i := a1) (ci := 4) (nf := 4) (cz := (RX4, TX4, 4)) (as := [.inl ((x2 + ((2 : Int32) * s.1)) + (1 : Int32))]) (rest := [.inl r17, .inr (.inr (7, w))]) (ctr_X4_at (xl X) (xA X) (xC X) (xI X) (xk X) a1 ((x2 + ((2 : Int32) * s.1)) + (1 : Int32)) m17) (by decide +kernel) rfl rfl wd_v_X0_84 rfl (h.room (by first | decide | omega) (by decide)) h.cl (Nat.le_of_ble_eq_true rfl) puI_ok rfl (fun r29 m29 _ => ?_)
    show Go X (Em X puI) 32 [some (.inr (.inr (7, w))), some (.inr (.inr (2, a1))), some (.inl x2), some (.inl x3), some (.inl s.1)] [.inl r29, .inl r17, .inr (.inr (7, w))] m29 _
    refine go_callV h.1 (index := 90) (n := 2) (t := 7) (i := w) (ci := 0) (nf := 14) (cz := (RX0, TX0, 14)) (as := [.inl r17, .inl r29]) (rest := []) (ctr_X0_pass (xl X) (xA X) (xC X) (xI X) (xk X) w r17 r29 m29) (by decide +kernel) rfl rfl wd_v_X0_90 rfl (h.room (by first | decide | omega) (by decide)) h.cl (Nat.le_of_ble_eq_true rfl) puI_ok rfl (fun r32 m32 _ => ?_)
    show Go X (Em X puI) 35 [some (.inr (.inr (7, w))), some (.inr (.inr (2, a1))), some (.inl x2), some (.inl x3), some (.inl s.1)] [.inl r32] m32 _
    refine go_blk h.1 (is := [.bipush (-2)]) (pc' := 37) (ls' := [some (.inr (.inr (7, w))), some (.inr (.inr (2, a1))), some (.inl x2), some (.inl x3), some (.inl s.1)]) (st' := [.inl (-2 : Int32), .inl r32]) (m' := m32) (by decide +kernel) rfl ?_
    refine go_icmpne h.1 (off := 6) 43 (by decide +kernel) (by decide) (fun c37 => ?_) (fun c37 => ?_)
    · refine go_blk h.1 (is := [.iinc 4 1]) (pc' := 46) (ls' := [some (.inr (.inr (7, w))), some (.inr (.inr (2, a1))), some (.inl x2), some (.inl x3), some (.inl (s.1 + (1 : Int32)))]) (st' := []) (m' := m32) (by decide +kernel) rfl ?_
      refine go_goto h.1 (off := -43) 3 (by decide +kernel) (by decide) ?_
      exact hn ((s.1 + (1 : Int32)), m32)
    · refine go_blk h.1 (is := [.iload 4]) (pc' := 42) (ls' := [some (.inr (.inr (7, w))), some (.inr (.inr (2, a1))), some (.inl x2), some (.inl x3), some (.inl s.1)]) (st' := [.inl s.1]) (m' := m32) (by decide +kernel) rfl ?_
      exact go_iret h.1 h.2.2.2.2 (by decide +kernel)

def f_X0_walk (w : Nat) (a1 : Nat) (x2 : Int32) (x3 : Int32) (m : Mem) : Option (Int32 × Mem) :=
  lpk (f_X0_walk_b3 w a1 x2 x3) fuelN ((0 : Int32), m) (fun t3 =>
    some ((-9 : Int32), t3))
theorem g_X0_walk {X : XT} (h : MX X prog_2_method_3_code P_X0 4 (some .int)) (w : Nat) (a1 : Nat) (x2 : Int32) (x3 : Int32) (m : Mem) : Go X (Em X puI) 0 [some (.inr (.inr (7, w))), some (.inr (.inr (2, a1))), some (.inl x2), some (.inl x3), none] [] m (f_X0_walk w a1 x2 x3 m) := by
  unfold f_X0_walk
  refine go_blk h.1 (is := [.iconst 0, .istore 4]) (pc' := 3) (ls' := [some (.inr (.inr (7, w))), some (.inr (.inr (2, a1))), some (.inl x2), some (.inl x3), some (.inl (0 : Int32))]) (st' := []) (m' := m) (by decide +kernel) rfl ?_
  refine go_loop (hd := fun (s3 : Int32 × Mem) o => Go X (Em X puI) 3 [some (.inr (.inr (7, w))), some (.inr (.inr (2, a1))), some (.inl x2), some (.inl x3), some (.inl s3.1)] [] s3.2 o) (fun s => go_none) (fun s3 nx_ hn_ => g_X0_walk_b3 h w a1 x2 x3 nx_ _ hn_ ?_ s3) fuelN ((0 : Int32), m)
  intro t3 o0_3 o1_3 o2_3 o3_3 o4_3
  refine go_blk h.1 (is := [.bipush (-9)]) (pc' := 51) (ls' := [o0_3, o1_3, o2_3, o3_3, o4_3]) (st' := [.inl (-9 : Int32)]) (m' := t3) (by decide +kernel) rfl ?_
  exact go_iret h.1 h.2.2.2.2 (by decide +kernel)
theorem ctr_X0_walk (l : Launch) (A : AR → Nat) (dC : Nat → ClassId) (dI : Nat → Nat → Nat) (cs : Nat → ClassId) (w : Nat) (a1 : Nat) (x2 : Int32) (x3 : Int32) (m : Mem) : Ctr l A dC dI cs yX0_walk prog_2_method_3_code 5 (some .int) 4 puI [.inr (.inr (7, w)), .inr (.inr (2, a1)), .inl x2, .inl x3] m (f_X0_walk w a1 x2 x3 m) :=
  ctr_of (P := P_X0) (by decide +kernel) rfl pt_X0 rfl rfl (fun X hC _ _ _ _ _ hR h0 h1 hr => g_X0_walk ⟨hC, hR, h0, h1, hr⟩ w a1 x2 x3 m)
end
section
/-! ===== printed by wip/whole/tr.py out of the listing ===== -/
def f_X6_walkAsTold (x1 : Int32) (x2 : Int32) (x3 : Int32) (m : Mem) : Option (Int32 × Mem) :=
  bnd (f_X0_start 0 m) (fun _ m8 =>
    if inB x1 4 = true then
      bnd (f_X0_walk 0 (ix x1) x2 x3 m8) (fun r23 m23 =>
        some (r23, m23))
    else none)
theorem g_X6_walkAsTold {X : XT} (h : MX X prog_1_method_40_code P_X6 5 (some .int)) (x1 : Int32) (x2 : Int32) (x3 : Int32) (m : Mem) : Go X (Em X puI) 0 [some (.inr (.inr (0, 0))), some (.inl x1), some (.inl x2), some (.inl x3)] [] m (f_X6_walkAsTold x1 x2 x3 m) := by
  unfold f_X6_walkAsTold
  refine go_blk h.1 (is := [.aload_n 0, .getfield 28, .aload_n 0, .getfield 21]) (pc' := 8) (ls' := [some (.inr (.inr (0, 0))), some (.inl x1), some (.inl x2), some (.inl x3)]) (st' := [.inr (.inr (4, 0)), .inr (.inr (7, 0))]) (m' := m) (by decide +kernel) rfl ?_
  refine go_callV h.1 (index := 170) (n := 1) (t := 7) (i := 0) (ci := 0) (nf := 14) (cz := (RX0, TX0, 14)) (as := [.inr (.inr (4, 0))]) (rest := []) (ctr_X0_start (xl X) (xA X) (xC X) (xI X) (xk X) 0 m) (by decide +kernel) rfl rfl wd_v_X6_170 rfl (h.room (by first | decide | omega) (by decide)) h.cl (Nat.le_of_ble_eq_true rfl) puV_ok rfl (fun r8 m8 _ => ?_)
  show Go X (Em X puI) 11 [some (.inr (.inr (0, 0))), some (.inl x1), some (.inl x2), some (.inl x3)] [] m8 _
  refine go_blk h.1 (is := [.aload_n 0, .getfield 28, .aload_n 0, .getfield 13, .iload_n 1]) (pc' := 20) (ls' := [some (.inr (.inr (0, 0))), some (.inl x1), some (.inl x2), some (.inl x3)]) (st' := [.inl x1, .inr (.inr (1, 0)), .inr (.inr (7, 0))]) (m' := m8) (by decide +kernel) rfl ?_
  refine go_aald h.1 (kd := 0) (z := (2, (ix x1))) (by decide +kernel) rfl rfl (by decide) rfl (fun b20 => ?_)
  refine go_blk h.1 (is := [.iload_n 2, .iload_n 3]) (pc' := 23) (ls' := [some (.inr (.inr (0, 0))), some (.inl x1), some (.inl x2), some (.inl x3)]) (st' := [.inl x3, .inl x2, .inr (.inr (2, (ix x1))), .inr (.inr (7, 0))]) (m' := m8) (by decide +kernel) rfl ?_
  refine go_callV h.1 (index := 174) (n := 3) (t := 7) (i := 0) (ci := 0) (nf := 14) (cz := (RX0, TX0, 14)) (as := [.inr (.inr (2, (ix x1))), .inl x2, .inl x3]) (rest := []) (ctr_X0_walk (xl X) (xA X) (xC X) (xI X) (xk X) 0 (ix x1) x2 x3 m8) (by decide +kernel) rfl rfl wd_v_X6_174 rfl (h.room (by first | decide | omega) (by decide)) h.cl (Nat.le_of_ble_eq_true rfl) puI_ok rfl (fun r23 m23 _ => ?_)
  show Go X (Em X puI) 26 [some (.inr (.inr (0, 0))), some (.inl x1), some (.inl x2), some (.inl x3)] [.inl r23] m23 _
  exact go_iret h.1 h.2.2.2.2 (by decide +kernel)
theorem ctr_X6_walkAsTold (l : Launch) (A : AR → Nat) (dC : Nat → ClassId) (dI : Nat → Nat → Nat) (cs : Nat → ClassId) (x1 : Int32) (x2 : Int32) (x3 : Int32) (m : Mem) : Ctr l A dC dI cs yX6_walkAsTold prog_1_method_40_code 4 (some .int) 5 puI [.inr (.inr (0, 0)), .inl x1, .inl x2, .inl x3] m (f_X6_walkAsTold x1 x2 x3 m) :=
  ctr_of (P := P_X6) (by decide +kernel) rfl pt_X6 rfl rfl (fun X hC _ _ _ _ _ hR h0 h1 hr => g_X6_walkAsTold ⟨hC, hR, h0, h1, hr⟩ x1 x2 x3 m)

def f_X6_passes_j27 (s0 : Int32) (x1 : Int32) (x2 : Int32) (x3 : Int32) (x4 : Int32) (x5 : Int32) (m : Mem) : Option (Int32 × Mem) :=
  bnd (f_X6_refusalOf x1 x2 x3 x4 s0 m) (fun r37 m37 =>
    if r37 = 0 then
      bnd (f_X6_walkAsTold x1 x3 x4 m37) (fun r55 m55 =>
        if x5 = (1 : Int32) then
          some (r55, m55)
        else
          if r55 = (-9 : Int32) then
            if x5 = (0 : Int32) then
              some ((m55 7 0 13), m55)
            else
              if x5 = (1 : Int32) then
                bnd (f_X5_has (x5 - (10 : Int32)) m55) (fun r161 m161 =>
                  if r161 = 0 then
                    some ((-9 : Int32), m161)
                  else
                    if inB (x5 - (10 : Int32)) 5 = true then
                      some ((m161 10 0 (ix (x5 - (10 : Int32)))), m161)
                    else none)
              else
                if x5 = (2 : Int32) then
                  some ((m55 7 0 10), m55)
                else
                  if x5 = (3 : Int32) then
                    some ((m55 7 0 11), m55)
                  else
                    if x5 = (4 : Int32) then
                      some ((m55 7 0 12), m55)
                    else
                      bnd (f_X5_has (x5 - (10 : Int32)) m55) (fun r161 m161 =>
                        if r161 = 0 then
                          some ((-9 : Int32), m161)
                        else
                          if inB (x5 - (10 : Int32)) 5 = true then
                            some ((m161 10 0 (ix (x5 - (10 : Int32)))), m161)
                          else none)
          else
            some (((-100 : Int32) - r55), m55))
    else
      some (r37, m37))
theorem g_X6_passes_j27 {X : XT} (h : MX X prog_1_method_7_code P_X6 6 (some .int)) (s0 : Int32) (x1 : Int32) (x2 : Int32) (x3 : Int32) (x4 : Int32) (x5 : Int32) (m : Mem) (o6 : Option AV) (o7 : Option AV) (o8 : Option AV) : Go X (Em X puI) 27 [some (.inr (.inr (0, 0))), some (.inl x1), some (.inl x2), some (.inl x3), some (.inl x4), some (.inl x5), o6, o7, o8] [.inl s0] m (f_X6_passes_j27 s0 x1 x2 x3 x4 x5 m) := by
  unfold f_X6_passes_j27
  refine go_blk h.1 (is := [.istore 6, .aload_n 0, .iload_n 1, .iload_n 2, .iload_n 3, .iload 4, .iload 6]) (pc' := 37) (ls' := [some (.inr (.inr (0, 0))), some (.inl x1), some (.inl x2), some (.inl x3), some (.inl x4), some (.inl x5), some (.inl s0), o7, o8]) (st' := [.inl s0, .inl x4, .inl x3, .inl x2, .inl x1, .inr (.inr (0, 0))]) (m' := m) (by decide +kernel) rfl ?_
  refine go_callV h.1 (index := 121) (n := 5) (t := 0) (i := 0) (ci := 6) (nf := 7) (cz := (RX6, TX6, 7)) (as := [.inl x1, .inl x2, .inl x3, .inl x4, .inl s0]) (rest := []) (ctr_X6_refusalOf (xl X) (xA X) (xC X) (xI X) (xk X) x1 x2 x3 x4 s0 m) (by decide +kernel) rfl rfl wd_v_X6_121 rfl (h.room (by first | decide | omega) (by decide)) h.cl (Nat.le_of_ble_eq_true rfl) puI_ok rfl (fun r37 m37 _ => ?_)
  show Go X (Em X puI) 40 [some (.inr (.inr (0, 0))), some (.inl x1), some (.inl x2), some (.inl x3), some (.inl x4), some (.inl x5), some (.inl s0), o7, o8] [.inl r37] m37 _
  refine go_blk h.1 (is := [.istore 7, .iload 7]) (pc' := 44) (ls' := [some (.inr (.inr (0, 0))), some (.inl x1), some (.inl x2), some (.inl x3), some (.inl x4), some (.inl x5), some (.inl s0), some (.inl r37), o8]) (st' := [.inl r37]) (m' := m37) (by decide +kernel) rfl ?_
  refine go_ifeq h.1 (off := 6) 50 (by decide +kernel) (by decide) (fun c44 => ?_) (fun c44 => ?_)
  · refine go_blk h.1 (is := [.aload_n 0, .iload_n 1, .iload_n 3, .iload 4]) (pc' := 55) (ls' := [some (.inr (.inr (0, 0))), some (.inl x1), some (.inl x2), some (.inl x3), some (.inl x4), some (.inl x5), some (.inl s0), some (.inl r37), o8]) (st' := [.inl x4, .inl x3, .inl x1, .inr (.inr (0, 0))]) (m' := m37) (by decide +kernel) rfl ?_
    refine go_callV h.1 (index := 125) (n := 3) (t := 0) (i := 0) (ci := 6) (nf := 7) (cz := (RX6, TX6, 7)) (as := [.inl x1, .inl x3, .inl x4]) (rest := []) (ctr_X6_walkAsTold (xl X) (xA X) (xC X) (xI X) (xk X) x1 x3 x4 m37) (by decide +kernel) rfl rfl wd_v_X6_125 rfl (h.room (by first | decide | omega) (by decide)) h.cl (Nat.le_of_ble_eq_true rfl) puI_ok rfl (fun r55 m55 _ => ?_)
    show Go X (Em X puI) 58 [some (.inr (.inr (0, 0))), some (.inl x1), some (.inl x2), some (.inl x3), some (.inl x4), some (.inl x5), some (.inl s0), some (.inl r37), o8] [.inl r55] m55 _
    refine go_blk h.1 (is := [.istore 8, .iload 5, .iconst 1]) (pc' := 63) (ls' := [some (.inr (.inr (0, 0))), some (.inl x1), some (.inl x2), some (.inl x3), some (.inl x4), some (.inl x5), some (.inl s0), some (.inl r37), some (.inl r55)]) (st' := [.inl (1 : Int32), .inl x5]) (m' := m55) (by decide +kernel) rfl ?_
    refine go_icmpne h.1 (off := 6) 69 (by decide +kernel) (by decide) (fun c63 => ?_) (fun c63 => ?_)
    · refine go_blk h.1 (is := [.iload 8, .bipush (-9)]) (pc' := 73) (ls' := [some (.inr (.inr (0, 0))), some (.inl x1), some (.inl x2), some (.inl x3), some (.inl x4), some (.inl x5), some (.inl s0), some (.inl r37), some (.inl r55)]) (st' := [.inl (-9 : Int32), .inl r55]) (m' := m55) (by decide +kernel) rfl ?_
      refine go_icmpeq h.1 (off := 9) 82 (by decide +kernel) (by decide) (fun c73 => ?_) (fun c73 => ?_)
      · refine go_blk h.1 (is := [.iload 5]) (pc' := 84) (ls' := [some (.inr (.inr (0, 0))), some (.inl x1), some (.inl x2), some (.inl x3), some (.inl x4), some (.inl x5), some (.inl s0), some (.inl r37), some (.inl r55)]) (st' := [.inl x5]) (m' := m55) (by decide +kernel) rfl ?_
        refine go_ite (fun w84_0 => ?_) (fun w84_0 => ?_)
        · refine go_tsIn h.1 (dflt := 68) (lo := 0) (hi := 4) (offs := #[36, 68, 44, 52, 60]) (len := 36) (off := 36) (0 : Int32) 120 w84_0 (by decide +kernel) (by decide) rfl (by decide) ?_
          refine go_blk h.1 (is := [.aload_n 0, .getfield 28, .getfield 128]) (pc' := 127) (ls' := [some (.inr (.inr (0, 0))), some (.inl x1), some (.inl x2), some (.inl x3), some (.inl x4), some (.inl x5), some (.inl s0), some (.inl r37), some (.inl r55)]) (st' := [.inl (m55 7 0 13)]) (m' := m55) (by decide +kernel) rfl ?_
          exact go_iret h.1 h.2.2.2.2 (by decide +kernel)
        · refine go_ite (fun w84_1 => ?_) (fun w84_1 => ?_)
          · refine go_tsIn h.1 (dflt := 68) (lo := 0) (hi := 4) (offs := #[36, 68, 44, 52, 60]) (len := 36) (off := 68) (1 : Int32) 152 w84_1 (by decide +kernel) (by decide) rfl (by decide) ?_
            refine go_blk h.1 (is := [.aload_n 0, .getfield 21, .iload 5, .bipush 10, .isub]) (pc' := 161) (ls' := [some (.inr (.inr (0, 0))), some (.inl x1), some (.inl x2), some (.inl x3), some (.inl x4), some (.inl x5), some (.inl s0), some (.inl r37), some (.inl r55)]) (st' := [.inl (x5 - (10 : Int32)), .inr (.inr (4, 0))]) (m' := m55) (by decide +kernel) rfl ?_
            refine go_callV h.1 (index := 83) (n := 1) (t := 4) (i := 0) (ci := 5) (nf := 4) (cz := (RX5, TX5, 4)) (as := [.inl (x5 - (10 : Int32))]) (rest := []) (ctr_X5_has (xl X) (xA X) (xC X) (xI X) (xk X) (x5 - (10 : Int32)) m55) (by decide +kernel) rfl rfl wd_v_X6_83 rfl (h.room (by first | decide | omega) (by decide)) h.cl (Nat.le_of_ble_eq_true rfl) puI_ok rfl (fun r161 m161 _ => ?_)
            show Go X (Em X puI) 164 [some (.inr (.inr (0, 0))), some (.inl x1), some (.inl x2), some (.inl x3), some (.inl x4), some (.inl x5), some (.inl s0), some (.inl r37), some (.inl r55)] [.inl r161] m161 _
            refine go_ifeq h.1 (off := 19) 183 (by decide +kernel) (by decide) (fun c164 => ?_) (fun c164 => ?_)
            · refine go_blk h.1 (is := [.bipush (-9)]) (pc' := 185) (ls' := [some (.inr (.inr (0, 0))), some (.inl x1), some (.inl x2), some (.inl x3), some (.inl x4), some (.inl x5), some (.inl s0), some (.inl r37), some (.inl r55)]) (st' := [.inl (-9 : Int32)]) (m' := m161) (by decide +kernel) rfl ?_
              exact go_iret h.1 h.2.2.2.2 (by decide +kernel)
            · refine go_blk h.1 (is := [.aload_n 0, .getfield 28, .getfield 138, .iload 5, .bipush 10, .isub]) (pc' := 179) (ls' := [some (.inr (.inr (0, 0))), some (.inl x1), some (.inl x2), some (.inl x3), some (.inl x4), some (.inl x5), some (.inl s0), some (.inl r37), some (.inl r55)]) (st' := [.inl (x5 - (10 : Int32)), .inr (.inr (10, 0))]) (m' := m161) (by decide +kernel) rfl ?_
              refine go_iald h.1 (by decide +kernel) rfl rfl (fun b179 => ?_)
              show Go X (Em X puI) 180 [some (.inr (.inr (0, 0))), some (.inl x1), some (.inl x2), some (.inl x3), some (.inl x4), some (.inl x5), some (.inl s0), some (.inl r37), some (.inl r55)] [.inl (m161 10 0 (ix (x5 - (10 : Int32))))] m161 _
              refine go_goto h.1 (off := 5) 185 (by decide +kernel) (by decide) ?_
              exact go_iret h.1 h.2.2.2.2 (by decide +kernel)
          · refine go_ite (fun w84_2 => ?_) (fun w84_2 => ?_)
            · refine go_tsIn h.1 (dflt := 68) (lo := 0) (hi := 4) (offs := #[36, 68, 44, 52, 60]) (len := 36) (off := 44) (2 : Int32) 128 w84_2 (by decide +kernel) (by decide) rfl (by decide) ?_
              refine go_blk h.1 (is := [.aload_n 0, .getfield 28, .getfield 131]) (pc' := 135) (ls' := [some (.inr (.inr (0, 0))), some (.inl x1), some (.inl x2), some (.inl x3), some (.inl x4), some (.inl x5), some (.inl s0), some (.inl r37), some (.inl r55)]) (st' := [.inl (m55 7 0 10)]) (m' := m55) (by decide +kernel) rfl ?_
              exact go_iret h.1 h.2.2.2.2 (by decide +kernel)
            · refine go_ite (fun w84_3 => ?_) (fun w84_3 => ?_)
              · refine go_tsIn h.1 (dflt := 68) (lo := 0) (hi := 4) (offs := #[36, 68, 44, 52, 60]) (len := 36) (off := 52) (3 : Int32) 136 w84_3 (by decide +kernel) (by decide) rfl (by decide) ?_
                refine go_blk h.1 (is := [.aload_n 0, .getfield 28, .getfield 132]) (pc' := 143) (ls' := [some (.inr (.inr (0, 0))), some (.inl x1), some (.inl x2), some (.inl x3), some (.inl x4), some (.inl x5), some (.inl s0), some (.inl r37), some (.inl r55)]) (st' := [.inl (m55 7 0 11)]) (m' := m55) (by decide +kernel) rfl ?_
                exact go_iret h.1 h.2.2.2.2 (by decide +kernel)
              · refine go_ite (fun w84_4 => ?_) (fun w84_4 => ?_)
                · refine go_tsIn h.1 (dflt := 68) (lo := 0) (hi := 4) (offs := #[36, 68, 44, 52, 60]) (len := 36) (off := 60) (4 : Int32) 144 w84_4 (by decide +kernel) (by decide) rfl (by decide) ?_
                  refine go_blk h.1 (is := [.aload_n 0, .getfield 28, .getfield 135]) (pc' := 151) (ls' := [some (.inr (.inr (0, 0))), some (.inl x1), some (.inl x2), some (.inl x3), some (.inl x4), some (.inl x5), some (.inl s0), some (.inl r37), some (.inl r55)]) (st' := [.inl (m55 7 0 12)]) (m' := m55) (by decide +kernel) rfl ?_
                  exact go_iret h.1 h.2.2.2.2 (by decide +kernel)
                · refine go_tsOut h.1 (dflt := 68) (lo := 0) (hi := 4) (offs := #[36, 68, 44, 52, 60]) (len := 36) 152 (by decide +kernel) (sw_out (n := 5) (by decide) ((lt_s (lt_s (lt_s (lt_s (lt_s lt_0 w84_0) w84_1) w84_2) w84_3) w84_4) : ∀ j : Nat, j < 5 → ¬ x5 = Int32.ofInt (0 + (j : Int)))) (by decide) ?_
                  refine go_blk h.1 (is := [.aload_n 0, .getfield 21, .iload 5, .bipush 10, .isub]) (pc' := 161) (ls' := [some (.inr (.inr (0, 0))), some (.inl x1), some (.inl x2), some (.inl x3), some (.inl x4), some (.inl x5), some (.inl s0), some (.inl r37), some (.inl r55)]) (st' := [.inl (x5 - (10 : Int32)), .inr (.inr (4, 0))]) (m' := m55) (by decide +kernel) rfl ?_
                  refine go_callV h.1 (index := 83) (n := 1) (t := 4) (i := 0) (ci := 5) (nf := 4) (cz := (RX5, TX5, 4)) (as := [.inl (x5 - (10 : Int32))]) (rest := []) (ctr_X5_has (xl X) (xA X) (xC X) (xI X) (xk X) (x5 - (10 : Int32)) m55) (by decide +kernel) rfl rfl wd_v_X6_83 rfl (h.room (by first | decide | omega) (by decide)) h.cl (Nat.le_of_ble_eq_true rfl) puI_ok rfl (fun r161 m161 _ => ?_)
                  show Go X (Em X puI) 164 [some (.inr (.inr (0, 0))), some (.inl x1), some (.inl x2), some (.inl x3), some (.inl x4), some (.inl x5), some (.inl s0), some (.inl r37), some (.inl r55)] [.inl r161] m161 _
                  refine go_ifeq h.1 (off := 19) 183 (by decide +kernel) (by decide) (fun c164 => ?_) (fun c164 => ?_)
                  · refine go_blk h.1 (is := [.bipush (-9)]) (pc' := 185) (ls' := [some (.inr (.inr (0, 0))), some (.inl x1), some (.inl x2), some (.inl x3), some (.inl x4), some (.inl x5), some (.inl s0), some (.inl r37), some (.inl r55)]) (st' := [.inl (-9 : Int32)]) (m' := m161) (by decide +kernel) rfl ?_
                    exact go_iret h.1 h.2.2.2.2 (by decide +kernel)
                  · refine go_blk h.1 (is := [.aload_n 0, .getfield 28, .getfield 138, .iload 5, .bipush 10, .isub]) (pc' := 179) (ls' := [some (.inr (.inr (0, 0))), some (.inl x1), some (.inl x2), some (.inl x3), some (.inl x4), some (.inl x5), some (.inl s0), some (.inl r37), some (.inl r55)]) (st' := [.inl (x5 - (10 : Int32)), .inr (.inr (10, 0))]) (m' := m161) (by decide +kernel) rfl ?_
                    refine go_iald h.1 (by decide +kernel) rfl rfl (fun b179 => ?_)
                    show Go X (Em X puI) 180 [some (.inr (.inr (0, 0))), some (.inl x1), some (.inl x2), some (.inl x3), some (.inl x4), some (.inl x5), some (.inl s0), some (.inl r37), some (.inl r55)] [.inl (m161 10 0 (ix (x5 - (10 : Int32))))] m161 _
                    refine go_goto h.1 (off := 5) 185 (by decide +kernel) (by decide) ?_
                    exact go_iret h.1 h.2.2.2.2 (by decide +kernel)
      · refine go_blk h.1 (is := [.bipush (-100), .iload 8, .isub]) (pc' := 81) (ls' := [some (.inr (.inr (0, 0))), some (.inl x1), some (.inl x2), some (.inl x3), some (.inl x4), some (.inl x5), some (.inl s0), some (.inl r37), some (.inl r55)]) (st' := [.inl ((-100 : Int32) - r55)]) (m' := m55) (by decide +kernel) rfl ?_
        exact go_iret h.1 h.2.2.2.2 (by decide +kernel)
    · refine go_blk h.1 (is := [.iload 8]) (pc' := 68) (ls' := [some (.inr (.inr (0, 0))), some (.inl x1), some (.inl x2), some (.inl x3), some (.inl x4), some (.inl x5), some (.inl s0), some (.inl r37), some (.inl r55)]) (st' := [.inl r55]) (m' := m55) (by decide +kernel) rfl ?_
      exact go_iret h.1 h.2.2.2.2 (by decide +kernel)
  · refine go_blk h.1 (is := [.iload 7]) (pc' := 49) (ls' := [some (.inr (.inr (0, 0))), some (.inl x1), some (.inl x2), some (.inl x3), some (.inl x4), some (.inl x5), some (.inl s0), some (.inl r37), o8]) (st' := [.inl r37]) (m' := m37) (by decide +kernel) rfl ?_
    exact go_iret h.1 h.2.2.2.2 (by decide +kernel)

def f_X6_passes_j22 (x1 : Int32) (x2 : Int32) (x3 : Int32) (x4 : Int32) (x5 : Int32) (m : Mem) : Option (Int32 × Mem) :=
  f_X6_passes_j27 (1 : Int32) x1 x2 x3 x4 x5 m
theorem g_X6_passes_j22 {X : XT} (h : MX X prog_1_method_7_code P_X6 6 (some .int)) (x1 : Int32) (x2 : Int32) (x3 : Int32) (x4 : Int32) (x5 : Int32) (m : Mem) (o6 : Option AV) (o7 : Option AV) (o8 : Option AV) : Go X (Em X puI) 22 [some (.inr (.inr (0, 0))), some (.inl x1), some (.inl x2), some (.inl x3), some (.inl x4), some (.inl x5), o6, o7, o8] [] m (f_X6_passes_j22 x1 x2 x3 x4 x5 m) := by
  unfold f_X6_passes_j22
  refine go_blk h.1 (is := [.iconst 1]) (pc' := 23) (ls' := [some (.inr (.inr (0, 0))), some (.inl x1), some (.inl x2), some (.inl x3), some (.inl x4), some (.inl x5), o6, o7, o8]) (st' := [.inl (1 : Int32)]) (m' := m) (by decide +kernel) rfl ?_
  refine go_goto h.1 (off := 4) 27 (by decide +kernel) (by decide) ?_
  exact g_X6_passes_j27 h (1 : Int32) x1 x2 x3 x4 x5 m (o6) (o7) (o8)

def f_X6_passes (x1 : Int32) (x2 : Int32) (x3 : Int32) (x4 : Int32) (x5 : Int32) (m : Mem) : Option (Int32 × Mem) :=
  bnd (f_X6_isWithin x5 (0 : Int32) (4 : Int32) m) (fun r4 m4 =>
    if r4 = 0 then
      bnd (f_X6_isWithin x5 (10 : Int32) (14 : Int32) m4) (fun r16 m16 =>
        if r16 = 0 then
          f_X6_passes_j27 (0 : Int32) x1 x2 x3 x4 x5 m16
        else
          f_X6_passes_j22 x1 x2 x3 x4 x5 m16)
    else
      f_X6_passes_j22 x1 x2 x3 x4 x5 m4)
theorem g_X6_passes {X : XT} (h : MX X prog_1_method_7_code P_X6 6 (some .int)) (x1 : Int32) (x2 : Int32) (x3 : Int32) (x4 : Int32) (x5 : Int32) (m : Mem) : Go X (Em X puI) 0 [some (.inr (.inr (0, 0))), some (.inl x1), some (.inl x2), some (.inl x3), some (.inl x4), some (.inl x5), none, none, none] [] m (f_X6_passes x1 x2 x3 x4 x5 m) := by
  unfold f_X6_passes
  refine go_blk h.1 (is := [.iload 5, .iconst 0, .iconst 4]) (pc' := 4) (ls' := [some (.inr (.inr (0, 0))), some (.inl x1), some (.inl x2), some (.inl x3), some (.inl x4), some (.inl x5), none, none, none]) (st' := [.inl (4 : Int32), .inl (0 : Int32), .inl x5]) (m' := m) (by decide +kernel) rfl ?_
  refine go_callS h.1 (index := 111) (n := 3) (as := [.inl x5, .inl (0 : Int32), .inl (4 : Int32)]) (rest := []) (ctr_X6_isWithin (xl X) (xA X) (xC X) (xI X) (xk X) x5 (0 : Int32) (4 : Int32) m) (by decide +kernel) wd_s_X6_111 rfl (h.room (by first | decide | omega) (by decide)) h.cl (Nat.le_of_ble_eq_true rfl) puI_ok rfl (fun r4 m4 _ => ?_)
  show Go X (Em X puI) 7 [some (.inr (.inr (0, 0))), some (.inl x1), some (.inl x2), some (.inl x3), some (.inl x4), some (.inl x5), none, none, none] [.inl r4] m4 _
  refine go_ifne h.1 (off := 15) 22 (by decide +kernel) (by decide) (fun c7 => ?_) (fun c7 => ?_)
  · exact g_X6_passes_j22 h x1 x2 x3 x4 x5 m4 (none) (none) (none)
  · refine go_blk h.1 (is := [.iload 5, .bipush 10, .bipush 14]) (pc' := 16) (ls' := [some (.inr (.inr (0, 0))), some (.inl x1), some (.inl x2), some (.inl x3), some (.inl x4), some (.inl x5), none, none, none]) (st' := [.inl (14 : Int32), .inl (10 : Int32), .inl x5]) (m' := m4) (by decide +kernel) rfl ?_
    refine go_callS h.1 (index := 111) (n := 3) (as := [.inl x5, .inl (10 : Int32), .inl (14 : Int32)]) (rest := []) (ctr_X6_isWithin (xl X) (xA X) (xC X) (xI X) (xk X) x5 (10 : Int32) (14 : Int32) m4) (by decide +kernel) wd_s_X6_111 rfl (h.room (by first | decide | omega) (by decide)) h.cl (Nat.le_of_ble_eq_true rfl) puI_ok rfl (fun r16 m16 _ => ?_)
    show Go X (Em X puI) 19 [some (.inr (.inr (0, 0))), some (.inl x1), some (.inl x2), some (.inl x3), some (.inl x4), some (.inl x5), none, none, none] [.inl r16] m16 _
    refine go_ifeq h.1 (off := 7) 26 (by decide +kernel) (by decide) (fun c19 => ?_) (fun c19 => ?_)
    · refine go_blk h.1 (is := [.iconst 0]) (pc' := 27) (ls' := [some (.inr (.inr (0, 0))), some (.inl x1), some (.inl x2), some (.inl x3), some (.inl x4), some (.inl x5), none, none, none]) (st' := [.inl (0 : Int32)]) (m' := m16) (by decide +kernel) rfl ?_
      exact g_X6_passes_j27 h (0 : Int32) x1 x2 x3 x4 x5 m16 (none) (none) (none)
    · exact g_X6_passes_j22 h x1 x2 x3 x4 x5 m16 (none) (none) (none)
theorem ctr_X6_passes (l : Launch) (A : AR → Nat) (dC : Nat → ClassId) (dI : Nat → Nat → Nat) (cs : Nat → ClassId) (x1 : Int32) (x2 : Int32) (x3 : Int32) (x4 : Int32) (x5 : Int32) (m : Mem) : Ctr l A dC dI cs yX6_passes prog_1_method_7_code 9 (some .int) 6 puI [.inr (.inr (0, 0)), .inl x1, .inl x2, .inl x3, .inl x4, .inl x5] m (f_X6_passes x1 x2 x3 x4 x5 m) :=
  ctr_of (P := P_X6) (by decide +kernel) rfl pt_X6 rfl rfl (fun X hC _ _ _ _ _ hR h0 h1 hr => g_X6_passes ⟨hC, hR, h0, h1, hr⟩ x1 x2 x3 x4 x5 m)

def f_X6_unknownFish (m : Mem) : Option (Int32 × Mem) :=
  some ((-1 : Int32), (mset m 0 0 6 (0 : Int32)))
theorem g_X6_unknownFish {X : XT} (h : MX X prog_1_method_37_code P_X6 0 (some .int)) (m : Mem) : Go X (Em X puI) 0 [some (.inr (.inr (0, 0)))] [] m (f_X6_unknownFish m) := by
  unfold f_X6_unknownFish
  refine go_blk h.1 (is := [.aload_n 0, .iconst 0, .putfield 50, .iconst (-1)]) (pc' := 6) (ls' := [some (.inr (.inr (0, 0)))]) (st' := [.inl (-1 : Int32)]) (m' := (mset m 0 0 6 (0 : Int32))) (by decide +kernel) rfl ?_
  exact go_iret h.1 h.2.2.2.2 (by decide +kernel)
theorem ctr_X6_unknownFish (l : Launch) (A : AR → Nat) (dC : Nat → ClassId) (dI : Nat → Nat → Nat) (cs : Nat → ClassId) (m : Mem) : Ctr l A dC dI cs yX6_unknownFish prog_1_method_37_code 1 (some .int) 0 puI [.inr (.inr (0, 0))] m (f_X6_unknownFish m) :=
  ctr_of (P := P_X6) (by decide +kernel) rfl pt_X6 rfl rfl (fun X hC _ _ _ _ _ hR h0 h1 hr => g_X6_unknownFish ⟨hC, hR, h0, h1, hr⟩ m)

def f_X6_refusalWithFish (x1 : Int32) (x2 : Int32) (x3 : Int32) (x4 : Int32) (x5 : Int32) (m : Mem) : Option (Int32 × Mem) :=
  bnd (f_X5_has x1 m) (fun r5 m5 =>
    if r5 = 0 then
      bnd (f_X6_unknownFish m5) (fun r26 m26 =>
        some (r26, m26))
    else
      bnd (f_X6_refusalOf x2 x3 x4 x5 (1 : Int32) m5) (fun r19 m19 =>
        some (r19, m19)))
theorem g_X6_refusalWithFish {X : XT} (h : MX X prog_1_method_38_code P_X6 3 (some .int)) (x1 : Int32) (x2 : Int32) (x3 : Int32) (x4 : Int32) (x5 : Int32) (m : Mem) : Go X (Em X puI) 0 [some (.inr (.inr (0, 0))), some (.inl x1), some (.inl x2), some (.inl x3), some (.inl x4), some (.inl x5)] [] m (f_X6_refusalWithFish x1 x2 x3 x4 x5 m) := by
  unfold f_X6_refusalWithFish
  refine go_blk h.1 (is := [.aload_n 0, .getfield 21, .iload_n 1]) (pc' := 5) (ls' := [some (.inr (.inr (0, 0))), some (.inl x1), some (.inl x2), some (.inl x3), some (.inl x4), some (.inl x5)]) (st' := [.inl x1, .inr (.inr (4, 0))]) (m' := m) (by decide +kernel) rfl ?_
  refine go_callV h.1 (index := 83) (n := 1) (t := 4) (i := 0) (ci := 5) (nf := 4) (cz := (RX5, TX5, 4)) (as := [.inl x1]) (rest := []) (ctr_X5_has (xl X) (xA X) (xC X) (xI X) (xk X) x1 m) (by decide +kernel) rfl rfl wd_v_X6_83 rfl (h.room (by first | decide | omega) (by decide)) h.cl (Nat.le_of_ble_eq_true rfl) puI_ok rfl (fun r5 m5 _ => ?_)
  show Go X (Em X puI) 8 [some (.inr (.inr (0, 0))), some (.inl x1), some (.inl x2), some (.inl x3), some (.inl x4), some (.inl x5)] [.inl r5] m5 _
  refine go_ifeq h.1 (off := 17) 25 (by decide +kernel) (by decide) (fun c8 => ?_) (fun c8 => ?_)
  · refine go_blk h.1 (is := [.aload_n 0]) (pc' := 26) (ls' := [some (.inr (.inr (0, 0))), some (.inl x1), some (.inl x2), some (.inl x3), some (.inl x4), some (.inl x5)]) (st' := [.inr (.inr (0, 0))]) (m' := m5) (by decide +kernel) rfl ?_
    refine go_callV h.1 (index := 145) (n := 0) (t := 0) (i := 0) (ci := 6) (nf := 7) (cz := (RX6, TX6, 7)) (as := []) (rest := []) (ctr_X6_unknownFish (xl X) (xA X) (xC X) (xI X) (xk X) m5) (by decide +kernel) rfl rfl wd_v_X6_145 rfl (h.room (by first | decide | omega) (by decide)) h.cl (Nat.le_of_ble_eq_true rfl) puI_ok rfl (fun r26 m26 _ => ?_)
    show Go X (Em X puI) 29 [some (.inr (.inr (0, 0))), some (.inl x1), some (.inl x2), some (.inl x3), some (.inl x4), some (.inl x5)] [.inl r26] m26 _
    exact go_iret h.1 h.2.2.2.2 (by decide +kernel)
  · refine go_blk h.1 (is := [.aload_n 0, .iload_n 2, .iload_n 3, .iload 4, .iload 5, .iconst 1]) (pc' := 19) (ls' := [some (.inr (.inr (0, 0))), some (.inl x1), some (.inl x2), some (.inl x3), some (.inl x4), some (.inl x5)]) (st' := [.inl (1 : Int32), .inl x5, .inl x4, .inl x3, .inl x2, .inr (.inr (0, 0))]) (m' := m5) (by decide +kernel) rfl ?_
    refine go_callV h.1 (index := 121) (n := 5) (t := 0) (i := 0) (ci := 6) (nf := 7) (cz := (RX6, TX6, 7)) (as := [.inl x2, .inl x3, .inl x4, .inl x5, .inl (1 : Int32)]) (rest := []) (ctr_X6_refusalOf (xl X) (xA X) (xC X) (xI X) (xk X) x2 x3 x4 x5 (1 : Int32) m5) (by decide +kernel) rfl rfl wd_v_X6_121 rfl (h.room (by first | decide | omega) (by decide)) h.cl (Nat.le_of_ble_eq_true rfl) puI_ok rfl (fun r19 m19 _ => ?_)
    show Go X (Em X puI) 22 [some (.inr (.inr (0, 0))), some (.inl x1), some (.inl x2), some (.inl x3), some (.inl x4), some (.inl x5)] [.inl r19] m19 _
    refine go_goto h.1 (off := 7) 29 (by decide +kernel) (by decide) ?_
    exact go_iret h.1 h.2.2.2.2 (by decide +kernel)
theorem ctr_X6_refusalWithFish (l : Launch) (A : AR → Nat) (dC : Nat → ClassId) (dI : Nat → Nat → Nat) (cs : Nat → ClassId) (x1 : Int32) (x2 : Int32) (x3 : Int32) (x4 : Int32) (x5 : Int32) (m : Mem) : Ctr l A dC dI cs yX6_refusalWithFish prog_1_method_38_code 6 (some .int) 3 puI [.inr (.inr (0, 0)), .inl x1, .inl x2, .inl x3, .inl x4, .inl x5] m (f_X6_refusalWithFish x1 x2 x3 x4 x5 m) :=
  ctr_of (P := P_X6) (by decide +kernel) rfl pt_X6 rfl rfl (fun X hC _ _ _ _ _ hR h0 h1 hr => g_X6_refusalWithFish ⟨hC, hR, h0, h1, hr⟩ x1 x2 x3 x4 x5 m)

def f_X6_owes_j30 (s0 : Int32) (x1 : Int32) (x2 : Int32) (x3 : Int32) (x5 : Int32) (x6 : Int32) (m : Mem) : Option (Int32 × Mem) :=
  if s0 = 0 then
    bnd (f_X6_walkAsTold x3 x5 x6 m) (fun r46 m46 =>
      if r46 = (-9 : Int32) then
        if inB x1 5 = true then
          if inB x2 5 = true then
            some ((m46 14 (5 * 0 + (ix x1)) (ix x2)), m46)
          else none
        else none
      else
        some (((-100 : Int32) - r46), m46))
  else
    some (s0, m)
theorem g_X6_owes_j30 {X : XT} (h : MX X prog_1_method_8_code P_X6 6 (some .int)) (s0 : Int32) (x1 : Int32) (x2 : Int32) (x3 : Int32) (x5 : Int32) (x6 : Int32) (m : Mem) (o4 : Option AV) (o7 : Option AV) (o8 : Option AV) : Go X (Em X puI) 30 [some (.inr (.inr (0, 0))), some (.inl x1), some (.inl x2), some (.inl x3), o4, some (.inl x5), some (.inl x6), o7, o8] [.inl s0] m (f_X6_owes_j30 s0 x1 x2 x3 x5 x6 m) := by
  unfold f_X6_owes_j30
  refine go_blk h.1 (is := [.istore 7, .iload 7]) (pc' := 34) (ls' := [some (.inr (.inr (0, 0))), some (.inl x1), some (.inl x2), some (.inl x3), o4, some (.inl x5), some (.inl x6), some (.inl s0), o8]) (st' := [.inl s0]) (m' := m) (by decide +kernel) rfl ?_
  refine go_ifeq h.1 (off := 6) 40 (by decide +kernel) (by decide) (fun c34 => ?_) (fun c34 => ?_)
  · refine go_blk h.1 (is := [.aload_n 0, .iload_n 3, .iload 5, .iload 6]) (pc' := 46) (ls' := [some (.inr (.inr (0, 0))), some (.inl x1), some (.inl x2), some (.inl x3), o4, some (.inl x5), some (.inl x6), some (.inl s0), o8]) (st' := [.inl x6, .inl x5, .inl x3, .inr (.inr (0, 0))]) (m' := m) (by decide +kernel) rfl ?_
    refine go_callV h.1 (index := 125) (n := 3) (t := 0) (i := 0) (ci := 6) (nf := 7) (cz := (RX6, TX6, 7)) (as := [.inl x3, .inl x5, .inl x6]) (rest := []) (ctr_X6_walkAsTold (xl X) (xA X) (xC X) (xI X) (xk X) x3 x5 x6 m) (by decide +kernel) rfl rfl wd_v_X6_125 rfl (h.room (by first | decide | omega) (by decide)) h.cl (Nat.le_of_ble_eq_true rfl) puI_ok rfl (fun r46 m46 _ => ?_)
    show Go X (Em X puI) 49 [some (.inr (.inr (0, 0))), some (.inl x1), some (.inl x2), some (.inl x3), o4, some (.inl x5), some (.inl x6), some (.inl s0), o8] [.inl r46] m46 _
    refine go_blk h.1 (is := [.istore 8, .iload 8, .bipush (-9)]) (pc' := 55) (ls' := [some (.inr (.inr (0, 0))), some (.inl x1), some (.inl x2), some (.inl x3), o4, some (.inl x5), some (.inl x6), some (.inl s0), some (.inl r46)]) (st' := [.inl (-9 : Int32), .inl r46]) (m' := m46) (by decide +kernel) rfl ?_
    refine go_icmpeq h.1 (off := 11) 66 (by decide +kernel) (by decide) (fun c55 => ?_) (fun c55 => ?_)
    · refine go_blk h.1 (is := [.aload_n 0, .getfield 28, .getfield 149, .iload_n 1]) (pc' := 74) (ls' := [some (.inr (.inr (0, 0))), some (.inl x1), some (.inl x2), some (.inl x3), o4, some (.inl x5), some (.inl x6), some (.inl s0), some (.inl r46)]) (st' := [.inl x1, .inr (.inr (13, 0))]) (m' := m46) (by decide +kernel) rfl ?_
      refine go_aald h.1 (kd := 2) (z := (14, (5 * 0 + (ix x1)))) (by decide +kernel) rfl rfl (by decide) rfl (fun b74 => ?_)
      refine go_blk h.1 (is := [.iload_n 2]) (pc' := 76) (ls' := [some (.inr (.inr (0, 0))), some (.inl x1), some (.inl x2), some (.inl x3), o4, some (.inl x5), some (.inl x6), some (.inl s0), some (.inl r46)]) (st' := [.inl x2, .inr (.inr (14, (5 * 0 + (ix x1))))]) (m' := m46) (by decide +kernel) rfl ?_
      refine go_iald h.1 (by decide +kernel) rfl rfl (fun b76 => ?_)
      show Go X (Em X puI) 77 [some (.inr (.inr (0, 0))), some (.inl x1), some (.inl x2), some (.inl x3), o4, some (.inl x5), some (.inl x6), some (.inl s0), some (.inl r46)] [.inl (m46 14 (5 * 0 + (ix x1)) (ix x2))] m46 _
      exact go_iret h.1 h.2.2.2.2 (by decide +kernel)
    · refine go_blk h.1 (is := [.bipush (-100), .iload 8, .isub]) (pc' := 63) (ls' := [some (.inr (.inr (0, 0))), some (.inl x1), some (.inl x2), some (.inl x3), o4, some (.inl x5), some (.inl x6), some (.inl s0), some (.inl r46)]) (st' := [.inl ((-100 : Int32) - r46)]) (m' := m46) (by decide +kernel) rfl ?_
      refine go_goto h.1 (off := 14) 77 (by decide +kernel) (by decide) ?_
      exact go_iret h.1 h.2.2.2.2 (by decide +kernel)
  · refine go_blk h.1 (is := [.iload 7]) (pc' := 39) (ls' := [some (.inr (.inr (0, 0))), some (.inl x1), some (.inl x2), some (.inl x3), o4, some (.inl x5), some (.inl x6), some (.inl s0), o8]) (st' := [.inl s0]) (m' := m) (by decide +kernel) rfl ?_
    exact go_iret h.1 h.2.2.2.2 (by decide +kernel)

def f_X6_owes (x1 : Int32) (x2 : Int32) (x3 : Int32) (x4 : Int32) (x5 : Int32) (x6 : Int32) (m : Mem) : Option (Int32 × Mem) :=
  bnd (f_X5_has x2 m) (fun r5 m5 =>
    if r5 = 0 then
      bnd (f_X6_unknownFish m5) (fun r27 m27 =>
        f_X6_owes_j30 r27 x1 x2 x3 x5 x6 m27)
    else
      bnd (f_X6_refusalWithFish x1 x3 x4 x5 x6 m5) (fun r20 m20 =>
        f_X6_owes_j30 r20 x1 x2 x3 x5 x6 m20))
theorem g_X6_owes {X : XT} (h : MX X prog_1_method_8_code P_X6 6 (some .int)) (x1 : Int32) (x2 : Int32) (x3 : Int32) (x4 : Int32) (x5 : Int32) (x6 : Int32) (m : Mem) : Go X (Em X puI) 0 [some (.inr (.inr (0, 0))), some (.inl x1), some (.inl x2), some (.inl x3), some (.inl x4), some (.inl x5), some (.inl x6), none, none] [] m (f_X6_owes x1 x2 x3 x4 x5 x6 m) := by
  unfold f_X6_owes
  refine go_blk h.1 (is := [.aload_n 0, .getfield 21, .iload_n 2]) (pc' := 5) (ls' := [some (.inr (.inr (0, 0))), some (.inl x1), some (.inl x2), some (.inl x3), some (.inl x4), some (.inl x5), some (.inl x6), none, none]) (st' := [.inl x2, .inr (.inr (4, 0))]) (m' := m) (by decide +kernel) rfl ?_
  refine go_callV h.1 (index := 83) (n := 1) (t := 4) (i := 0) (ci := 5) (nf := 4) (cz := (RX5, TX5, 4)) (as := [.inl x2]) (rest := []) (ctr_X5_has (xl X) (xA X) (xC X) (xI X) (xk X) x2 m) (by decide +kernel) rfl rfl wd_v_X6_83 rfl (h.room (by first | decide | omega) (by decide)) h.cl (Nat.le_of_ble_eq_true rfl) puI_ok rfl (fun r5 m5 _ => ?_)
  show Go X (Em X puI) 8 [some (.inr (.inr (0, 0))), some (.inl x1), some (.inl x2), some (.inl x3), some (.inl x4), some (.inl x5), some (.inl x6), none, none] [.inl r5] m5 _
  refine go_ifeq h.1 (off := 18) 26 (by decide +kernel) (by decide) (fun c8 => ?_) (fun c8 => ?_)
  · refine go_blk h.1 (is := [.aload_n 0]) (pc' := 27) (ls' := [some (.inr (.inr (0, 0))), some (.inl x1), some (.inl x2), some (.inl x3), some (.inl x4), some (.inl x5), some (.inl x6), none, none]) (st' := [.inr (.inr (0, 0))]) (m' := m5) (by decide +kernel) rfl ?_
    refine go_callV h.1 (index := 145) (n := 0) (t := 0) (i := 0) (ci := 6) (nf := 7) (cz := (RX6, TX6, 7)) (as := []) (rest := []) (ctr_X6_unknownFish (xl X) (xA X) (xC X) (xI X) (xk X) m5) (by decide +kernel) rfl rfl wd_v_X6_145 rfl (h.room (by first | decide | omega) (by decide)) h.cl (Nat.le_of_ble_eq_true rfl) puI_ok rfl (fun r27 m27 _ => ?_)
    show Go X (Em X puI) 30 [some (.inr (.inr (0, 0))), some (.inl x1), some (.inl x2), some (.inl x3), some (.inl x4), some (.inl x5), some (.inl x6), none, none] [.inl r27] m27 _
    exact g_X6_owes_j30 h r27 x1 x2 x3 x5 x6 m27 (some (.inl x4)) (none) (none)
  · refine go_blk h.1 (is := [.aload_n 0, .iload_n 1, .iload_n 3, .iload 4, .iload 5, .iload 6]) (pc' := 20) (ls' := [some (.inr (.inr (0, 0))), some (.inl x1), some (.inl x2), some (.inl x3), some (.inl x4), some (.inl x5), some (.inl x6), none, none]) (st' := [.inl x6, .inl x5, .inl x4, .inl x3, .inl x1, .inr (.inr (0, 0))]) (m' := m5) (by decide +kernel) rfl ?_
    refine go_callV h.1 (index := 141) (n := 5) (t := 0) (i := 0) (ci := 6) (nf := 7) (cz := (RX6, TX6, 7)) (as := [.inl x1, .inl x3, .inl x4, .inl x5, .inl x6]) (rest := []) (ctr_X6_refusalWithFish (xl X) (xA X) (xC X) (xI X) (xk X) x1 x3 x4 x5 x6 m5) (by decide +kernel) rfl rfl wd_v_X6_141 rfl (h.room (by first | decide | omega) (by decide)) h.cl (Nat.le_of_ble_eq_true rfl) puI_ok rfl (fun r20 m20 _ => ?_)
    show Go X (Em X puI) 23 [some (.inr (.inr (0, 0))), some (.inl x1), some (.inl x2), some (.inl x3), some (.inl x4), some (.inl x5), some (.inl x6), none, none] [.inl r20] m20 _
    refine go_goto h.1 (off := 7) 30 (by decide +kernel) (by decide) ?_
    exact g_X6_owes_j30 h r20 x1 x2 x3 x5 x6 m20 (some (.inl x4)) (none) (none)
theorem ctr_X6_owes (l : Launch) (A : AR → Nat) (dC : Nat → ClassId) (dI : Nat → Nat → Nat) (cs : Nat → ClassId) (x1 : Int32) (x2 : Int32) (x3 : Int32) (x4 : Int32) (x5 : Int32) (x6 : Int32) (m : Mem) : Ctr l A dC dI cs yX6_owes prog_1_method_8_code 9 (some .int) 6 puI [.inr (.inr (0, 0)), .inl x1, .inl x2, .inl x3, .inl x4, .inl x5, .inl x6] m (f_X6_owes x1 x2 x3 x4 x5 x6 m) :=
  ctr_of (P := P_X6) (by decide +kernel) rfl pt_X6 rfl rfl (fun X hC _ _ _ _ _ hR h0 h1 hr => g_X6_owes ⟨hC, hR, h0, h1, hr⟩ x1 x2 x3 x4 x5 x6 m)

def f_X6_toll (x1 : Int32) (x2 : Int32) (x3 : Int32) (x4 : Int32) (x5 : Int32) (m : Mem) : Option (Int32 × Mem) :=
  bnd (f_X6_refusalWithFish x1 x2 x3 x4 x5 m) (fun r8 m8 =>
    if r8 = 0 then
      bnd (f_X6_walkAsTold x2 x4 x5 m8) (fun r27 m27 =>
        if r27 = (-9 : Int32) then
          bnd (f_X0_tollOf 0 x1 m27) (fun r52 m52 =>
            some (r52, m52))
        else
          some (((-100 : Int32) - r27), m27))
    else
      some (r8, m8))
theorem g_X6_toll {X : XT} (h : MX X prog_1_method_9_code P_X6 6 (some .int)) (x1 : Int32) (x2 : Int32) (x3 : Int32) (x4 : Int32) (x5 : Int32) (m : Mem) : Go X (Em X puI) 0 [some (.inr (.inr (0, 0))), some (.inl x1), some (.inl x2), some (.inl x3), some (.inl x4), some (.inl x5), none, none] [] m (f_X6_toll x1 x2 x3 x4 x5 m) := by
  unfold f_X6_toll
  refine go_blk h.1 (is := [.aload_n 0, .iload_n 1, .iload_n 2, .iload_n 3, .iload 4, .iload 5]) (pc' := 8) (ls' := [some (.inr (.inr (0, 0))), some (.inl x1), some (.inl x2), some (.inl x3), some (.inl x4), some (.inl x5), none, none]) (st' := [.inl x5, .inl x4, .inl x3, .inl x2, .inl x1, .inr (.inr (0, 0))]) (m' := m) (by decide +kernel) rfl ?_
  refine go_callV h.1 (index := 141) (n := 5) (t := 0) (i := 0) (ci := 6) (nf := 7) (cz := (RX6, TX6, 7)) (as := [.inl x1, .inl x2, .inl x3, .inl x4, .inl x5]) (rest := []) (ctr_X6_refusalWithFish (xl X) (xA X) (xC X) (xI X) (xk X) x1 x2 x3 x4 x5 m) (by decide +kernel) rfl rfl wd_v_X6_141 rfl (h.room (by first | decide | omega) (by decide)) h.cl (Nat.le_of_ble_eq_true rfl) puI_ok rfl (fun r8 m8 _ => ?_)
  show Go X (Em X puI) 11 [some (.inr (.inr (0, 0))), some (.inl x1), some (.inl x2), some (.inl x3), some (.inl x4), some (.inl x5), none, none] [.inl r8] m8 _
  refine go_blk h.1 (is := [.istore 6, .iload 6]) (pc' := 15) (ls' := [some (.inr (.inr (0, 0))), some (.inl x1), some (.inl x2), some (.inl x3), some (.inl x4), some (.inl x5), some (.inl r8), none]) (st' := [.inl r8]) (m' := m8) (by decide +kernel) rfl ?_
  refine go_ifeq h.1 (off := 6) 21 (by decide +kernel) (by decide) (fun c15 => ?_) (fun c15 => ?_)
  · refine go_blk h.1 (is := [.aload_n 0, .iload_n 2, .iload 4, .iload 5]) (pc' := 27) (ls' := [some (.inr (.inr (0, 0))), some (.inl x1), some (.inl x2), some (.inl x3), some (.inl x4), some (.inl x5), some (.inl r8), none]) (st' := [.inl x5, .inl x4, .inl x2, .inr (.inr (0, 0))]) (m' := m8) (by decide +kernel) rfl ?_
    refine go_callV h.1 (index := 125) (n := 3) (t := 0) (i := 0) (ci := 6) (nf := 7) (cz := (RX6, TX6, 7)) (as := [.inl x2, .inl x4, .inl x5]) (rest := []) (ctr_X6_walkAsTold (xl X) (xA X) (xC X) (xI X) (xk X) x2 x4 x5 m8) (by decide +kernel) rfl rfl wd_v_X6_125 rfl (h.room (by first | decide | omega) (by decide)) h.cl (Nat.le_of_ble_eq_true rfl) puI_ok rfl (fun r27 m27 _ => ?_)
    show Go X (Em X puI) 30 [some (.inr (.inr (0, 0))), some (.inl x1), some (.inl x2), some (.inl x3), some (.inl x4), some (.inl x5), some (.inl r8), none] [.inl r27] m27 _
    refine go_blk h.1 (is := [.istore 7, .iload 7, .bipush (-9)]) (pc' := 36) (ls' := [some (.inr (.inr (0, 0))), some (.inl x1), some (.inl x2), some (.inl x3), some (.inl x4), some (.inl x5), some (.inl r8), some (.inl r27)]) (st' := [.inl (-9 : Int32), .inl r27]) (m' := m27) (by decide +kernel) rfl ?_
    refine go_icmpeq h.1 (off := 11) 47 (by decide +kernel) (by decide) (fun c36 => ?_) (fun c36 => ?_)
    · refine go_blk h.1 (is := [.aload_n 0, .getfield 28, .iload_n 1]) (pc' := 52) (ls' := [some (.inr (.inr (0, 0))), some (.inl x1), some (.inl x2), some (.inl x3), some (.inl x4), some (.inl x5), some (.inl r8), some (.inl r27)]) (st' := [.inl x1, .inr (.inr (7, 0))]) (m' := m27) (by decide +kernel) rfl ?_
      refine go_callV h.1 (index := 153) (n := 1) (t := 7) (i := 0) (ci := 0) (nf := 14) (cz := (RX0, TX0, 14)) (as := [.inl x1]) (rest := []) (ctr_X0_tollOf (xl X) (xA X) (xC X) (xI X) (xk X) 0 x1 m27) (by decide +kernel) rfl rfl wd_v_X6_153 rfl (h.room (by first | decide | omega) (by decide)) h.cl (Nat.le_of_ble_eq_true rfl) puI_ok rfl (fun r52 m52 _ => ?_)
      show Go X (Em X puI) 55 [some (.inr (.inr (0, 0))), some (.inl x1), some (.inl x2), some (.inl x3), some (.inl x4), some (.inl x5), some (.inl r8), some (.inl r27)] [.inl r52] m52 _
      exact go_iret h.1 h.2.2.2.2 (by decide +kernel)
    · refine go_blk h.1 (is := [.bipush (-100), .iload 7, .isub]) (pc' := 44) (ls' := [some (.inr (.inr (0, 0))), some (.inl x1), some (.inl x2), some (.inl x3), some (.inl x4), some (.inl x5), some (.inl r8), some (.inl r27)]) (st' := [.inl ((-100 : Int32) - r27)]) (m' := m27) (by decide +kernel) rfl ?_
      refine go_goto h.1 (off := 11) 55 (by decide +kernel) (by decide) ?_
      exact go_iret h.1 h.2.2.2.2 (by decide +kernel)
  · refine go_blk h.1 (is := [.iload 6]) (pc' := 20) (ls' := [some (.inr (.inr (0, 0))), some (.inl x1), some (.inl x2), some (.inl x3), some (.inl x4), some (.inl x5), some (.inl r8), none]) (st' := [.inl r8]) (m' := m8) (by decide +kernel) rfl ?_
    exact go_iret h.1 h.2.2.2.2 (by decide +kernel)
theorem ctr_X6_toll (l : Launch) (A : AR → Nat) (dC : Nat → ClassId) (dI : Nat → Nat → Nat) (cs : Nat → ClassId) (x1 : Int32) (x2 : Int32) (x3 : Int32) (x4 : Int32) (x5 : Int32) (m : Mem) : Ctr l A dC dI cs yX6_toll prog_1_method_9_code 8 (some .int) 6 puI [.inr (.inr (0, 0)), .inl x1, .inl x2, .inl x3, .inl x4, .inl x5] m (f_X6_toll x1 x2 x3 x4 x5 m) :=
  ctr_of (P := P_X6) (by decide +kernel) rfl pt_X6 rfl rfl (fun X hC _ _ _ _ _ hR h0 h1 hr => g_X6_toll ⟨hC, hR, h0, h1, hr⟩ x1 x2 x3 x4 x5 m)

def f_X6_mayBe (x0 : Int32) (x1 : Int32) (m : Mem) : Option (Int32 × Mem) :=
  if ((x0 >>> (x1 &&& 31)) &&& (1 : Int32)) = (1 : Int32) then
    some ((1 : Int32), m)
  else
    some ((0 : Int32), m)
theorem g_X6_mayBe {X : XT} (h : MX X prog_1_method_33_code P_X6 0 (some .boolean)) (x0 : Int32) (x1 : Int32) (m : Mem) : Go X (Em X puI) 0 [some (.inl x0), some (.inl x1)] [] m (f_X6_mayBe x0 x1 m) := by
  unfold f_X6_mayBe
  refine go_blk h.1 (is := [.iload_n 0, .iload_n 1, .ishr, .iconst 1, .iand, .iconst 1]) (pc' := 6) (ls' := [some (.inl x0), some (.inl x1)]) (st' := [.inl (1 : Int32), .inl ((x0 >>> (x1 &&& 31)) &&& (1 : Int32))]) (m' := m) (by decide +kernel) rfl ?_
  refine go_icmpne h.1 (off := 7) 13 (by decide +kernel) (by decide) (fun c6 => ?_) (fun c6 => ?_)
  · refine go_blk h.1 (is := [.iconst 0]) (pc' := 14) (ls' := [some (.inl x0), some (.inl x1)]) (st' := [.inl (0 : Int32)]) (m' := m) (by decide +kernel) rfl ?_
    exact go_zret h.1 h.2.2.2.2 (Or.inl rfl) (by decide +kernel)
  · refine go_blk h.1 (is := [.iconst 1]) (pc' := 10) (ls' := [some (.inl x0), some (.inl x1)]) (st' := [.inl (1 : Int32)]) (m' := m) (by decide +kernel) rfl ?_
    refine go_goto h.1 (off := 4) 14 (by decide +kernel) (by decide) ?_
    exact go_zret h.1 h.2.2.2.2 (Or.inr rfl) (by decide +kernel)
theorem ctr_X6_mayBe (l : Launch) (A : AR → Nat) (dC : Nat → ClassId) (dI : Nat → Nat → Nat) (cs : Nat → ClassId) (x0 : Int32) (x1 : Int32) (m : Mem) : Ctr l A dC dI cs yX6_mayBe prog_1_method_33_code 2 (some .boolean) 0 puI [.inl x0, .inl x1] m (f_X6_mayBe x0 x1 m) :=
  ctr_of (P := P_X6) (by decide +kernel) rfl pt_X6 rfl rfl (fun X hC _ _ _ _ _ hR h0 h1 hr => g_X6_mayBe ⟨hC, hR, h0, h1, hr⟩ x0 x1 m)

def f_X0_cheapest_j63 (w : Nat) (s0 : Int32) (x1 : Int32) (x2 : Int32) (x3 : Int32) (m : Mem) : Option (Int32 × Mem) :=
  if s0 = 0 then
    bnd (f_X6_mayBe x2 (3 : Int32) m) (fun r72 m72 =>
      if r72 = 0 then
        some ((1000000 : Int32), m72)
      else
        bnd (f_X0_lenderFor w x1 x3 m72) (fun r81 m81 =>
          if r81 = (-2 : Int32) then
            some ((1000000 : Int32), m81)
          else
            some (x3, m81)))
  else
    some (x3, m)
theorem g_X0_cheapest_j63 {X : XT} (h : MX X prog_2_method_15_code P_X0 2 (some .int)) (w : Nat) (s0 : Int32) (x1 : Int32) (x2 : Int32) (x3 : Int32) (m : Mem) (o4 : Option AV) : Go X (Em X puI) 63 [some (.inr (.inr (7, w))), some (.inl x1), some (.inl x2), some (.inl x3), o4] [.inl s0] m (f_X0_cheapest_j63 w s0 x1 x2 x3 m) := by
  unfold f_X0_cheapest_j63
  refine go_blk h.1 (is := [.istore 4, .iload 4]) (pc' := 67) (ls' := [some (.inr (.inr (7, w))), some (.inl x1), some (.inl x2), some (.inl x3), some (.inl s0)]) (st' := [.inl s0]) (m' := m) (by decide +kernel) rfl ?_
  refine go_ifne h.1 (off := 22) 89 (by decide +kernel) (by decide) (fun c67 => ?_) (fun c67 => ?_)
  · refine go_blk h.1 (is := [.iload_n 3]) (pc' := 90) (ls' := [some (.inr (.inr (7, w))), some (.inl x1), some (.inl x2), some (.inl x3), some (.inl s0)]) (st' := [.inl x3]) (m' := m) (by decide +kernel) rfl ?_
    refine go_goto h.1 (off := 5) 95 (by decide +kernel) (by decide) ?_
    exact go_iret h.1 h.2.2.2.2 (by decide +kernel)
  · refine go_blk h.1 (is := [.iload_n 2, .iconst 3]) (pc' := 72) (ls' := [some (.inr (.inr (7, w))), some (.inl x1), some (.inl x2), some (.inl x3), some (.inl s0)]) (st' := [.inl (3 : Int32), .inl x2]) (m' := m) (by decide +kernel) rfl ?_
    refine go_callN h.1 (index := 127) (n := 2) (as := [.inl x2, .inl (3 : Int32)]) (rest := []) (ctr_X6_mayBe (xl X) (xA X) (xC X) (xI X) (xk X) x2 (3 : Int32) m) (by decide +kernel) wd_n_X0_127 rfl (h.room (by first | decide | omega) (by decide)) h.cl (Nat.le_of_ble_eq_true rfl) puI_ok rfl (fun r72 m72 _ => ?_)
    show Go X (Em X puI) 75 [some (.inr (.inr (7, w))), some (.inl x1), some (.inl x2), some (.inl x3), some (.inl s0)] [.inl r72] m72 _
    refine go_ifeq h.1 (off := 18) 93 (by decide +kernel) (by decide) (fun c75 => ?_) (fun c75 => ?_)
    · refine go_blk h.1 (is := [.ldc 131]) (pc' := 95) (ls' := [some (.inr (.inr (7, w))), some (.inl x1), some (.inl x2), some (.inl x3), some (.inl s0)]) (st' := [.inl (1000000 : Int32)]) (m' := m72) (by decide +kernel) rfl ?_
      exact go_iret h.1 h.2.2.2.2 (by decide +kernel)
    · refine go_blk h.1 (is := [.aload_n 0, .iload_n 1, .iload_n 3]) (pc' := 81) (ls' := [some (.inr (.inr (7, w))), some (.inl x1), some (.inl x2), some (.inl x3), some (.inl s0)]) (st' := [.inl x3, .inl x1, .inr (.inr (7, w))]) (m' := m72) (by decide +kernel) rfl ?_
      refine go_callV h.1 (index := 115) (n := 2) (t := 7) (i := w) (ci := 0) (nf := 14) (cz := (RX0, TX0, 14)) (as := [.inl x1, .inl x3]) (rest := []) (ctr_X0_lenderFor (xl X) (xA X) (xC X) (xI X) (xk X) w x1 x3 m72) (by decide +kernel) rfl rfl wd_v_X0_115 rfl (h.room (by first | decide | omega) (by decide)) h.cl (Nat.le_of_ble_eq_true rfl) puI_ok rfl (fun r81 m81 _ => ?_)
      show Go X (Em X puI) 84 [some (.inr (.inr (7, w))), some (.inl x1), some (.inl x2), some (.inl x3), some (.inl s0)] [.inl r81] m81 _
      refine go_blk h.1 (is := [.bipush (-2)]) (pc' := 86) (ls' := [some (.inr (.inr (7, w))), some (.inl x1), some (.inl x2), some (.inl x3), some (.inl s0)]) (st' := [.inl (-2 : Int32), .inl r81]) (m' := m81) (by decide +kernel) rfl ?_
      refine go_icmpeq h.1 (off := 7) 93 (by decide +kernel) (by decide) (fun c86 => ?_) (fun c86 => ?_)
      · refine go_blk h.1 (is := [.ldc 131]) (pc' := 95) (ls' := [some (.inr (.inr (7, w))), some (.inl x1), some (.inl x2), some (.inl x3), some (.inl s0)]) (st' := [.inl (1000000 : Int32)]) (m' := m81) (by decide +kernel) rfl ?_
        exact go_iret h.1 h.2.2.2.2 (by decide +kernel)
      · refine go_blk h.1 (is := [.iload_n 3]) (pc' := 90) (ls' := [some (.inr (.inr (7, w))), some (.inl x1), some (.inl x2), some (.inl x3), some (.inl s0)]) (st' := [.inl x3]) (m' := m81) (by decide +kernel) rfl ?_
        refine go_goto h.1 (off := 5) 95 (by decide +kernel) (by decide) ?_
        exact go_iret h.1 h.2.2.2.2 (by decide +kernel)

def f_X0_cheapest_j62 (w : Nat) (x1 : Int32) (x2 : Int32) (x3 : Int32) (m : Mem) : Option (Int32 × Mem) :=
  f_X0_cheapest_j63 w (0 : Int32) x1 x2 x3 m
theorem g_X0_cheapest_j62 {X : XT} (h : MX X prog_2_method_15_code P_X0 2 (some .int)) (w : Nat) (x1 : Int32) (x2 : Int32) (x3 : Int32) (m : Mem) (o4 : Option AV) : Go X (Em X puI) 62 [some (.inr (.inr (7, w))), some (.inl x1), some (.inl x2), some (.inl x3), o4] [] m (f_X0_cheapest_j62 w x1 x2 x3 m) := by
  unfold f_X0_cheapest_j62
  refine go_blk h.1 (is := [.iconst 0]) (pc' := 63) (ls' := [some (.inr (.inr (7, w))), some (.inl x1), some (.inl x2), some (.inl x3), o4]) (st' := [.inl (0 : Int32)]) (m' := m) (by decide +kernel) rfl ?_
  exact g_X0_cheapest_j63 h w (0 : Int32) x1 x2 x3 m (o4)

def f_X0_cheapest_j34 (w : Nat) (x1 : Int32) (x2 : Int32) (m : Mem) : Option (Int32 × Mem) :=
  bnd (f_X0_tollOf w x1 m) (fun r36 m36 =>
    bnd (f_X6_mayBe x2 (0 : Int32) m36) (fun r42 m42 =>
      if r42 = 0 then
        f_X0_cheapest_j62 w x1 x2 r36 m42
      else
        if inB x1 5 = true then
          if (m42 10 w (ix x1)) < r36 then
            f_X0_cheapest_j62 w x1 x2 r36 m42
          else
            f_X0_cheapest_j63 w (1 : Int32) x1 x2 r36 m42
        else none))
theorem g_X0_cheapest_j34 {X : XT} (h : MX X prog_2_method_15_code P_X0 2 (some .int)) (w : Nat) (x1 : Int32) (x2 : Int32) (m : Mem) (o3 : Option AV) (o4 : Option AV) : Go X (Em X puI) 34 [some (.inr (.inr (7, w))), some (.inl x1), some (.inl x2), o3, o4] [] m (f_X0_cheapest_j34 w x1 x2 m) := by
  unfold f_X0_cheapest_j34
  refine go_blk h.1 (is := [.aload_n 0, .iload_n 1]) (pc' := 36) (ls' := [some (.inr (.inr (7, w))), some (.inl x1), some (.inl x2), o3, o4]) (st' := [.inl x1, .inr (.inr (7, w))]) (m' := m) (by decide +kernel) rfl ?_
  refine go_callV h.1 (index := 97) (n := 1) (t := 7) (i := w) (ci := 0) (nf := 14) (cz := (RX0, TX0, 14)) (as := [.inl x1]) (rest := []) (ctr_X0_tollOf (xl X) (xA X) (xC X) (xI X) (xk X) w x1 m) (by decide +kernel) rfl rfl wd_v_X0_97 rfl (h.room (by first | decide | omega) (by decide)) h.cl (Nat.le_of_ble_eq_true rfl) puI_ok rfl (fun r36 m36 _ => ?_)
  show Go X (Em X puI) 39 [some (.inr (.inr (7, w))), some (.inl x1), some (.inl x2), o3, o4] [.inl r36] m36 _
  refine go_blk h.1 (is := [.istore_n 3, .iload_n 2, .iconst 0]) (pc' := 42) (ls' := [some (.inr (.inr (7, w))), some (.inl x1), some (.inl x2), some (.inl r36), o4]) (st' := [.inl (0 : Int32), .inl x2]) (m' := m36) (by decide +kernel) rfl ?_
  refine go_callN h.1 (index := 127) (n := 2) (as := [.inl x2, .inl (0 : Int32)]) (rest := []) (ctr_X6_mayBe (xl X) (xA X) (xC X) (xI X) (xk X) x2 (0 : Int32) m36) (by decide +kernel) wd_n_X0_127 rfl (h.room (by first | decide | omega) (by decide)) h.cl (Nat.le_of_ble_eq_true rfl) puI_ok rfl (fun r42 m42 _ => ?_)
  show Go X (Em X puI) 45 [some (.inr (.inr (7, w))), some (.inl x1), some (.inl x2), some (.inl r36), o4] [.inl r42] m42 _
  refine go_ifeq h.1 (off := 17) 62 (by decide +kernel) (by decide) (fun c45 => ?_) (fun c45 => ?_)
  · exact g_X0_cheapest_j62 h w x1 x2 r36 m42 (o4)
  · refine go_blk h.1 (is := [.aload_n 0, .getfield 18, .iload_n 1]) (pc' := 53) (ls' := [some (.inr (.inr (7, w))), some (.inl x1), some (.inl x2), some (.inl r36), o4]) (st' := [.inl x1, .inr (.inr (10, w))]) (m' := m42) (by decide +kernel) rfl ?_
    refine go_iald h.1 (by decide +kernel) rfl rfl (fun b53 => ?_)
    show Go X (Em X puI) 54 [some (.inr (.inr (7, w))), some (.inl x1), some (.inl x2), some (.inl r36), o4] [.inl (m42 10 w (ix x1))] m42 _
    refine go_blk h.1 (is := [.iload_n 3]) (pc' := 55) (ls' := [some (.inr (.inr (7, w))), some (.inl x1), some (.inl x2), some (.inl r36), o4]) (st' := [.inl r36, .inl (m42 10 w (ix x1))]) (m' := m42) (by decide +kernel) rfl ?_
    refine go_icmplt h.1 (off := 7) 62 (by decide +kernel) (by decide) (fun c55 => ?_) (fun c55 => ?_)
    · exact g_X0_cheapest_j62 h w x1 x2 r36 m42 (o4)
    · refine go_blk h.1 (is := [.iconst 1]) (pc' := 59) (ls' := [some (.inr (.inr (7, w))), some (.inl x1), some (.inl x2), some (.inl r36), o4]) (st' := [.inl (1 : Int32)]) (m' := m42) (by decide +kernel) rfl ?_
      refine go_goto h.1 (off := 4) 63 (by decide +kernel) (by decide) ?_
      exact g_X0_cheapest_j63 h w (1 : Int32) x1 x2 r36 m42 (o4)

def f_X0_cheapest_j16 (w : Nat) (x1 : Int32) (x2 : Int32) (m : Mem) : Option (Int32 × Mem) :=
  bnd (f_X6_mayBe x2 (2 : Int32) m) (fun r18 m18 =>
    if r18 = 0 then
      f_X0_cheapest_j34 w x1 x2 m18
    else
      bnd (f_X0_hasSecret w x1 m18) (fun r26 m26 =>
        if r26 = 0 then
          f_X0_cheapest_j34 w x1 x2 m26
        else
          some ((0 : Int32), m26)))
theorem g_X0_cheapest_j16 {X : XT} (h : MX X prog_2_method_15_code P_X0 2 (some .int)) (w : Nat) (x1 : Int32) (x2 : Int32) (m : Mem) (o3 : Option AV) (o4 : Option AV) : Go X (Em X puI) 16 [some (.inr (.inr (7, w))), some (.inl x1), some (.inl x2), o3, o4] [] m (f_X0_cheapest_j16 w x1 x2 m) := by
  unfold f_X0_cheapest_j16
  refine go_blk h.1 (is := [.iload_n 2, .iconst 2]) (pc' := 18) (ls' := [some (.inr (.inr (7, w))), some (.inl x1), some (.inl x2), o3, o4]) (st' := [.inl (2 : Int32), .inl x2]) (m' := m) (by decide +kernel) rfl ?_
  refine go_callN h.1 (index := 127) (n := 2) (as := [.inl x2, .inl (2 : Int32)]) (rest := []) (ctr_X6_mayBe (xl X) (xA X) (xC X) (xI X) (xk X) x2 (2 : Int32) m) (by decide +kernel) wd_n_X0_127 rfl (h.room (by first | decide | omega) (by decide)) h.cl (Nat.le_of_ble_eq_true rfl) puI_ok rfl (fun r18 m18 _ => ?_)
  show Go X (Em X puI) 21 [some (.inr (.inr (7, w))), some (.inl x1), some (.inl x2), o3, o4] [.inl r18] m18 _
  refine go_ifeq h.1 (off := 13) 34 (by decide +kernel) (by decide) (fun c21 => ?_) (fun c21 => ?_)
  · exact g_X0_cheapest_j34 h w x1 x2 m18 (o3) (o4)
  · refine go_blk h.1 (is := [.aload_n 0, .iload_n 1]) (pc' := 26) (ls' := [some (.inr (.inr (7, w))), some (.inl x1), some (.inl x2), o3, o4]) (st' := [.inl x1, .inr (.inr (7, w))]) (m' := m18) (by decide +kernel) rfl ?_
    refine go_callV h.1 (index := 112) (n := 1) (t := 7) (i := w) (ci := 0) (nf := 14) (cz := (RX0, TX0, 14)) (as := [.inl x1]) (rest := []) (ctr_X0_hasSecret (xl X) (xA X) (xC X) (xI X) (xk X) w x1 m18) (by decide +kernel) rfl rfl wd_v_X0_112 rfl (h.room (by first | decide | omega) (by decide)) h.cl (Nat.le_of_ble_eq_true rfl) puI_ok rfl (fun r26 m26 _ => ?_)
    show Go X (Em X puI) 29 [some (.inr (.inr (7, w))), some (.inl x1), some (.inl x2), o3, o4] [.inl r26] m26 _
    refine go_ifeq h.1 (off := 5) 34 (by decide +kernel) (by decide) (fun c29 => ?_) (fun c29 => ?_)
    · exact g_X0_cheapest_j34 h w x1 x2 m26 (o3) (o4)
    · refine go_blk h.1 (is := [.iconst 0]) (pc' := 33) (ls' := [some (.inr (.inr (7, w))), some (.inl x1), some (.inl x2), o3, o4]) (st' := [.inl (0 : Int32)]) (m' := m26) (by decide +kernel) rfl ?_
      exact go_iret h.1 h.2.2.2.2 (by decide +kernel)

def f_X0_cheapest (w : Nat) (x1 : Int32) (x2 : Int32) (m : Mem) : Option (Int32 × Mem) :=
  bnd (f_X6_mayBe x2 (1 : Int32) m) (fun r2 m2 =>
    if r2 = 0 then
      f_X0_cheapest_j16 w x1 x2 m2
    else
      bnd (f_X0_hasNewSong w x1 m2) (fun r10 m10 =>
        if r10 = 0 then
          f_X0_cheapest_j16 w x1 x2 m10
        else
          some ((0 : Int32), m10)))
theorem g_X0_cheapest {X : XT} (h : MX X prog_2_method_15_code P_X0 2 (some .int)) (w : Nat) (x1 : Int32) (x2 : Int32) (m : Mem) : Go X (Em X puI) 0 [some (.inr (.inr (7, w))), some (.inl x1), some (.inl x2), none, none] [] m (f_X0_cheapest w x1 x2 m) := by
  unfold f_X0_cheapest
  refine go_blk h.1 (is := [.iload_n 2, .iconst 1]) (pc' := 2) (ls' := [some (.inr (.inr (7, w))), some (.inl x1), some (.inl x2), none, none]) (st' := [.inl (1 : Int32), .inl x2]) (m' := m) (by decide +kernel) rfl ?_
  refine go_callN h.1 (index := 127) (n := 2) (as := [.inl x2, .inl (1 : Int32)]) (rest := []) (ctr_X6_mayBe (xl X) (xA X) (xC X) (xI X) (xk X) x2 (1 : Int32) m) (by decide +kernel) wd_n_X0_127 rfl (h.room (by first | decide | omega) (by decide)) h.cl (Nat.le_of_ble_eq_true rfl) puI_ok rfl (fun r2 m2 _ => ?_)
  show Go X (Em X puI) 5 [some (.inr (.inr (7, w))), some (.inl x1), some (.inl x2), none, none] [.inl r2] m2 _
  refine go_ifeq h.1 (off := 11) 16 (by decide +kernel) (by decide) (fun c5 => ?_) (fun c5 => ?_)
  · exact g_X0_cheapest_j16 h w x1 x2 m2 (none) (none)
  · refine go_blk h.1 (is := [.aload_n 0, .iload_n 1]) (pc' := 10) (ls' := [some (.inr (.inr (7, w))), some (.inl x1), some (.inl x2), none, none]) (st' := [.inl x1, .inr (.inr (7, w))]) (m' := m2) (by decide +kernel) rfl ?_
    refine go_callV h.1 (index := 108) (n := 1) (t := 7) (i := w) (ci := 0) (nf := 14) (cz := (RX0, TX0, 14)) (as := [.inl x1]) (rest := []) (ctr_X0_hasNewSong (xl X) (xA X) (xC X) (xI X) (xk X) w x1 m2) (by decide +kernel) rfl rfl wd_v_X0_108 rfl (h.room (by first | decide | omega) (by decide)) h.cl (Nat.le_of_ble_eq_true rfl) puI_ok rfl (fun r10 m10 _ => ?_)
    show Go X (Em X puI) 13 [some (.inr (.inr (7, w))), some (.inl x1), some (.inl x2), none, none] [.inl r10] m10 _
    refine go_ifne h.1 (off := 19) 32 (by decide +kernel) (by decide) (fun c13 => ?_) (fun c13 => ?_)
    · refine go_blk h.1 (is := [.iconst 0]) (pc' := 33) (ls' := [some (.inr (.inr (7, w))), some (.inl x1), some (.inl x2), none, none]) (st' := [.inl (0 : Int32)]) (m' := m10) (by decide +kernel) rfl ?_
      exact go_iret h.1 h.2.2.2.2 (by decide +kernel)
    · exact g_X0_cheapest_j16 h w x1 x2 m10 (none) (none)
theorem ctr_X0_cheapest (l : Launch) (A : AR → Nat) (dC : Nat → ClassId) (dI : Nat → Nat → Nat) (cs : Nat → ClassId) (w : Nat) (x1 : Int32) (x2 : Int32) (m : Mem) : Ctr l A dC dI cs yX0_cheapest prog_2_method_15_code 5 (some .int) 2 puI [.inr (.inr (7, w)), .inl x1, .inl x2] m (f_X0_cheapest w x1 x2 m) :=
  ctr_of (P := P_X0) (by decide +kernel) rfl pt_X0 rfl rfl (fun X hC _ _ _ _ _ hR h0 h1 hr => g_X0_cheapest ⟨hC, hR, h0, h1, hr⟩ w x1 x2 m)

def f_X0_stillDue_j29 (w : Nat) (next : Int32 × Int32 × Mem → Option (Int32 × Mem)) (exit : Int32 × Mem → Option (Int32 × Mem)) (x1 : Int32) (x2 : Int32) (x3 : Int32) (m : Mem) : Option (Int32 × Mem) :=
  next (x2, (x3 + (1 : Int32)), m)
theorem g_X0_stillDue_j29 {X : XT} (h : MX X prog_2_method_14_code P_X0 3 (some .int)) (w : Nat) (next : Int32 × Int32 × Mem → Option (Int32 × Mem)) (exit : Int32 × Mem → Option (Int32 × Mem)) (x1 : Int32) (x2 : Int32) (x3 : Int32) (m : Mem) (hn : ∀ (s : Int32 × Int32 × Mem), Go X (Em X puI) 4 [some (.inr (.inr (7, w))), some (.inl x1), some (.inl s.1), some (.inl s.2.1)] [] s.2.2 (next s)) (hx : ∀ (t : Int32 × Mem) (o0 : Option AV) (o1 : Option AV) (o3 : Option AV), Go X (Em X puI) 35 [o0, o1, some (.inl t.1), o3] [] t.2 (exit t)) : Go X (Em X puI) 29 [some (.inr (.inr (7, w))), some (.inl x1), some (.inl x2), some (.inl x3)] [] m (f_X0_stillDue_j29 w next exit x1 x2 x3 m) := by
  unfold f_X0_stillDue_j29
  refine go_blk h.1 (is := [.iinc 3 1]) (pc' := 32) (ls' := [some (.inr (.inr (7, w))), some (.inl x1), some (.inl x2), some (.inl (x3 + (1 : Int32)))]) (st' := []) (m' := m) (by decide +kernel) rfl ?_
  refine go_goto h.1 (off := -28) 4 (by decide +kernel) (by decide) ?_
  exact hn (x2, (x3 + (1 : Int32)), m)

def f_X0_stillDue_b4 (w : Nat) (x1 : Int32) (next : Int32 × Int32 × Mem → Option (Int32 × Mem)) (exit : Int32 × Mem → Option (Int32 × Mem)) (s : Int32 × Int32 × Mem) : Option (Int32 × Mem) :=
  if (s.2.2 7 w 8) ≤ s.2.1 then
    exit (s.1, s.2.2)
  else
    bnd (f_X0_isBelow w s.2.1 s.2.2) (fun r14 m14 =>
      if r14 = 0 then
        f_X0_stillDue_j29 w next exit x1 s.1 s.2.1 m14
      else
        bnd (f_X0_cheapest w s.2.1 x1 m14) (fun r24 m24 =>
          f_X0_stillDue_j29 w next exit x1 (s.1 + r24) s.2.1 m24))
theorem g_X0_stillDue_b4 {X : XT} (h : MX X prog_2_method_14_code P_X0 3 (some .int)) (w : Nat) (x1 : Int32) (next : Int32 × Int32 × Mem → Option (Int32 × Mem)) (exit : Int32 × Mem → Option (Int32 × Mem)) (hn : ∀ (s : Int32 × Int32 × Mem), Go X (Em X puI) 4 [some (.inr (.inr (7, w))), some (.inl x1), some (.inl s.1), some (.inl s.2.1)] [] s.2.2 (next s)) (hx : ∀ (t : Int32 × Mem) (o0 : Option AV) (o1 : Option AV) (o3 : Option AV), Go X (Em X puI) 35 [o0, o1, some (.inl t.1), o3] [] t.2 (exit t)) (s : Int32 × Int32 × Mem) : Go X (Em X puI) 4 [some (.inr (.inr (7, w))), some (.inl x1), some (.inl s.1), some (.inl s.2.1)] [] s.2.2 (f_X0_stillDue_b4 w x1 next exit s) := by
  unfold f_X0_stillDue_b4
  refine go_blk h.1 (is := [.iload_n 3, .aload_n 0, .getfield 44]) (pc' := 9) (ls' := [some (.inr (.inr (7, w))), some (.inl x1), some (.inl s.1), some (.inl s.2.1)]) (st' := [.inl (s.2.2 7 w 8), .inl s.2.1]) (m' := s.2.2) (by decide +kernel) rfl ?_
  refine go_icmpge h.1 (off := 26) 35 (by decide +kernel) (by decide) (fun c9 => ?_) (fun c9 => ?_)
  · exact hx (s.1, s.2.2) (some (.inr (.inr (7, w)))) (some (.inl x1)) (some (.inl s.2.1))
  · refine go_blk h.1 (is := [.aload_n 0, .iload_n 3]) (pc' := 14) (ls' := [some (.inr (.inr (7, w))), some (.inl x1), some (.inl s.1), some (.inl s.2.1)]) (st' := [.inl s.2.1, .inr (.inr (7, w))]) (m' := s.2.2) (by decide +kernel) rfl ?_
    refine go_callV h.1 (index := 121) (n := 1) (t := 7) (i := w) (ci := 0) (nf := 14) (cz := (RX0, TX0, 14)) (as := [.inl s.2.1]) (rest := []) (ctr_X0_isBelow (xl X) (xA X) (xC X) (xI X) (xk X) w s.2.1 s.2.2) (by decide +kernel) rfl rfl wd_v_X0_121 rfl (h.room (by first | decide | omega) (by decide)) h.cl (Nat.le_of_ble_eq_true rfl) puI_ok rfl (fun r14 m14 _ => ?_)
    show Go X (Em X puI) 17 [some (.inr (.inr (7, w))), some (.inl x1), some (.inl s.1), some (.inl s.2.1)] [.inl r14] m14 _
    refine go_ifeq h.1 (off := 12) 29 (by decide +kernel) (by decide) (fun c17 => ?_) (fun c17 => ?_)
    · exact g_X0_stillDue_j29 h w next exit x1 s.1 s.2.1 m14 hn hx
    · refine go_blk h.1 (is := [.iload_n 2, .aload_n 0, .iload_n 3, .iload_n 1]) (pc' := 24) (ls' := [some (.inr (.inr (7, w))), some (.inl x1), some (.inl s.1), some (.inl s.2.1)]) (st' := [.inl x1, .inl s.2.1, .inr (.inr (7, w)), .inl s.1]) (m' := m14) (by decide +kernel) rfl ?_
      refine go_callV h.1 (index := 124) (n := 2) (t := 7) (i := w) (ci := 0) (nf := 14) (cz := (RX0, TX0, 14)) (as := [.inl s.2.1, .inl x1]) (rest := [.inl s.1]) (ctr_X0_cheapest (xl X) (xA X) (xC X) (xI X) (xk X) w s.2.1 x1 m14) (by decide +kernel) rfl rfl wd_v_X0_124 rfl (h.room (by first | decide | omega) (by decide)) h.cl (Nat.le_of_ble_eq_true rfl) puI_ok rfl (fun r24 m24 _ => ?_)
      show Go X (Em X puI) 27 [some (.inr (.inr (7, w))), some (.inl x1), some (.inl s.1), some (.inl s.2.1)] [.inl r24, .inl s.1] m24 _
      refine go_blk h.1 (is := [.iadd, .istore_n 2]) (pc' := 29) (ls' := [some (.inr (.inr (7, w))), some (.inl x1), some (.inl (s.1 + r24)), some (.inl s.2.1)]) (st' := []) (m' := m24) (by decide +kernel) rfl ?_
      exact g_X0_stillDue_j29 h w next exit x1 (s.1 + r24) s.2.1 m24 hn hx

def f_X0_stillDue (w : Nat) (x1 : Int32) (m : Mem) : Option (Int32 × Mem) :=
  lpk (f_X0_stillDue_b4 w x1) fuelN ((0 : Int32), (0 : Int32), m) (fun t4 =>
    some (t4.1, t4.2))
theorem g_X0_stillDue {X : XT} (h : MX X prog_2_method_14_code P_X0 3 (some .int)) (w : Nat) (x1 : Int32) (m : Mem) : Go X (Em X puI) 0 [some (.inr (.inr (7, w))), some (.inl x1), none, none] [] m (f_X0_stillDue w x1 m) := by
  unfold f_X0_stillDue
  refine go_blk h.1 (is := [.iconst 0, .istore_n 2, .iconst 0, .istore_n 3]) (pc' := 4) (ls' := [some (.inr (.inr (7, w))), some (.inl x1), some (.inl (0 : Int32)), some (.inl (0 : Int32))]) (st' := []) (m' := m) (by decide +kernel) rfl ?_
  refine go_loop (hd := fun (s4 : Int32 × Int32 × Mem) o => Go X (Em X puI) 4 [some (.inr (.inr (7, w))), some (.inl x1), some (.inl s4.1), some (.inl s4.2.1)] [] s4.2.2 o) (fun s => go_none) (fun s4 nx_ hn_ => g_X0_stillDue_b4 h w x1 nx_ _ hn_ ?_ s4) fuelN ((0 : Int32), (0 : Int32), m)
  intro t4 o0_4 o1_4 o3_4
  refine go_blk h.1 (is := [.iload_n 2]) (pc' := 36) (ls' := [o0_4, o1_4, some (.inl t4.1), o3_4]) (st' := [.inl t4.1]) (m' := t4.2) (by decide +kernel) rfl ?_
  exact go_iret h.1 h.2.2.2.2 (by decide +kernel)
theorem ctr_X0_stillDue (l : Launch) (A : AR → Nat) (dC : Nat → ClassId) (dI : Nat → Nat → Nat) (cs : Nat → ClassId) (w : Nat) (x1 : Int32) (m : Mem) : Ctr l A dC dI cs yX0_stillDue prog_2_method_14_code 4 (some .int) 3 puI [.inr (.inr (7, w)), .inl x1] m (f_X0_stillDue w x1 m) :=
  ctr_of (P := P_X0) (by decide +kernel) rfl pt_X0 rfl rfl (fun X hC _ _ _ _ _ hR h0 h1 hr => g_X0_stillDue ⟨hC, hR, h0, h1, hr⟩ w x1 m)

def f_X0_unpass (w : Nat) (x1 : Int32) (x2 : Int32) (x3 : Int32) (m : Mem) : Option (Unit × Mem) :=
  if x3 = (-1 : Int32) then
    bnd (f_X0_turnWord w x1 x2 (mset m 7 w 12 ((m 7 w 12) ^^^ ((1 : Int32) <<< (x1 &&& 31))))) (fun _ m35 =>
      some ((), m35))
  else
    bnd (f_X0_tollOf w x1 (mset m 7 w 12 ((m 7 w 12) ^^^ ((1 : Int32) <<< (x1 &&& 31))))) (fun r22 m22 =>
      bnd (f_X0_pay w x1 x3 (-r22) m22) (fun _ m26 =>
        some ((), m26)))
theorem g_X0_unpass {X : XT} (h : MX X prog_2_method_5_code P_X0 2 none) (w : Nat) (x1 : Int32) (x2 : Int32) (x3 : Int32) (m : Mem) : Go X (Em X puV) 0 [some (.inr (.inr (7, w))), some (.inl x1), some (.inl x2), some (.inl x3)] [] m (f_X0_unpass w x1 x2 x3 m) := by
  unfold f_X0_unpass
  refine go_blk h.1 (is := [.aload_n 0, .dup, .getfield 56, .iconst 1, .iload_n 1, .ishl, .ixor, .putfield 56, .iload_n 3, .iconst (-1)]) (pc' := 14) (ls' := [some (.inr (.inr (7, w))), some (.inl x1), some (.inl x2), some (.inl x3)]) (st' := [.inl (-1 : Int32), .inl x3]) (m' := (mset m 7 w 12 ((m 7 w 12) ^^^ ((1 : Int32) <<< (x1 &&& 31))))) (by decide +kernel) rfl ?_
  refine go_icmpeq h.1 (off := 18) 32 (by decide +kernel) (by decide) (fun c14 => ?_) (fun c14 => ?_)
  · refine go_blk h.1 (is := [.aload_n 0, .iload_n 1, .iload_n 2]) (pc' := 35) (ls' := [some (.inr (.inr (7, w))), some (.inl x1), some (.inl x2), some (.inl x3)]) (st' := [.inl x2, .inl x1, .inr (.inr (7, w))]) (m' := (mset m 7 w 12 ((m 7 w 12) ^^^ ((1 : Int32) <<< (x1 &&& 31))))) (by decide +kernel) rfl ?_
    refine go_callV h.1 (index := 104) (n := 2) (t := 7) (i := w) (ci := 0) (nf := 14) (cz := (RX0, TX0, 14)) (as := [.inl x1, .inl x2]) (rest := []) (ctr_X0_turnWord (xl X) (xA X) (xC X) (xI X) (xk X) w x1 x2 (mset m 7 w 12 ((m 7 w 12) ^^^ ((1 : Int32) <<< (x1 &&& 31))))) (by decide +kernel) rfl rfl wd_v_X0_104 rfl (h.room (by first | decide | omega) (by decide)) h.cl (Nat.le_of_ble_eq_true rfl) puV_ok rfl (fun r35 m35 _ => ?_)
    show Go X (Em X puV) 38 [some (.inr (.inr (7, w))), some (.inl x1), some (.inl x2), some (.inl x3)] [] m35 _
    exact go_vret h.1 h.2.2.2.2 (by decide +kernel)
  · refine go_blk h.1 (is := [.aload_n 0, .iload_n 1, .iload_n 3, .aload_n 0, .iload_n 1]) (pc' := 22) (ls' := [some (.inr (.inr (7, w))), some (.inl x1), some (.inl x2), some (.inl x3)]) (st' := [.inl x1, .inr (.inr (7, w)), .inl x3, .inl x1, .inr (.inr (7, w))]) (m' := (mset m 7 w 12 ((m 7 w 12) ^^^ ((1 : Int32) <<< (x1 &&& 31))))) (by decide +kernel) rfl ?_
    refine go_callV h.1 (index := 97) (n := 1) (t := 7) (i := w) (ci := 0) (nf := 14) (cz := (RX0, TX0, 14)) (as := [.inl x1]) (rest := [.inl x3, .inl x1, .inr (.inr (7, w))]) (ctr_X0_tollOf (xl X) (xA X) (xC X) (xI X) (xk X) w x1 (mset m 7 w 12 ((m 7 w 12) ^^^ ((1 : Int32) <<< (x1 &&& 31))))) (by decide +kernel) rfl rfl wd_v_X0_97 rfl (h.room (by first | decide | omega) (by decide)) h.cl (Nat.le_of_ble_eq_true rfl) puI_ok rfl (fun r22 m22 _ => ?_)
    show Go X (Em X puV) 25 [some (.inr (.inr (7, w))), some (.inl x1), some (.inl x2), some (.inl x3)] [.inl r22, .inl x3, .inl x1, .inr (.inr (7, w))] m22 _
    refine go_blk h.1 (is := [.ineg]) (pc' := 26) (ls' := [some (.inr (.inr (7, w))), some (.inl x1), some (.inl x2), some (.inl x3)]) (st' := [.inl (-r22), .inl x3, .inl x1, .inr (.inr (7, w))]) (m' := m22) (by decide +kernel) rfl ?_
    refine go_callV h.1 (index := 100) (n := 3) (t := 7) (i := w) (ci := 0) (nf := 14) (cz := (RX0, TX0, 14)) (as := [.inl x1, .inl x3, .inl (-r22)]) (rest := []) (ctr_X0_pay (xl X) (xA X) (xC X) (xI X) (xk X) w x1 x3 (-r22) m22) (by decide +kernel) rfl rfl wd_v_X0_100 rfl (h.room (by first | decide | omega) (by decide)) h.cl (Nat.le_of_ble_eq_true rfl) puV_ok rfl (fun r26 m26 _ => ?_)
    show Go X (Em X puV) 29 [some (.inr (.inr (7, w))), some (.inl x1), some (.inl x2), some (.inl x3)] [] m26 _
    refine go_goto h.1 (off := 9) 38 (by decide +kernel) (by decide) ?_
    exact go_vret h.1 h.2.2.2.2 (by decide +kernel)
theorem ctr_X0_unpass (l : Launch) (A : AR → Nat) (dC : Nat → ClassId) (dI : Nat → Nat → Nat) (cs : Nat → ClassId) (w : Nat) (x1 : Int32) (x2 : Int32) (x3 : Int32) (m : Mem) : Ctr l A dC dI cs yX0_unpass prog_2_method_5_code 4 none 2 puV [.inr (.inr (7, w)), .inl x1, .inl x2, .inl x3] m (f_X0_unpass w x1 x2 x3 m) :=
  ctr_of (P := P_X0) (by decide +kernel) rfl pt_X0 rfl rfl (fun X hC _ _ _ _ _ hR h0 h1 hr => g_X0_unpass ⟨hC, hR, h0, h1, hr⟩ w x1 x2 x3 m)

def f_X3_goOn_j39 (rec : Int32 → Mem → Option (Unit × Mem)) (m : Mem) : Option (Unit × Mem) :=
  if cpOk (0 : Int32) (0 : Int32) (5 : Int32) 5 5 = true then
    some ((), (mcopy (mset m 17 0 4 (m 7 1 13)) 18 0 19 0 (ix (0 : Int32)) (ix (0 : Int32)) (ix (5 : Int32))))
  else none
theorem g_X3_goOn_j39 {X : XT} {d : Nat} (hd0 : 4 ≤ d) (h : MX X prog_5_method_4_code P_X3 (d + 1) none) (rec : Int32 → Mem → Option (Unit × Mem)) (hrec : ∀ (l : Launch) (A : AR → Nat) (dC : Nat → ClassId) (dI : Nat → Nat → Nat) (cs : Nat → ClassId) (x1 : Int32) (m : Mem), Ctr l A dC dI cs yX3_goOn prog_5_method_4_code 6 none d puV [.inr (.inr (17, 0)), .inl x1] m (rec x1 m)) (m : Mem) (o1 : Option AV) (o3 : Option AV) (o4 : Option AV) (o5 : Option AV) : Go X (Em X puV) 39 [some (.inr (.inr (17, 0))), o1, some (.inr (.inr (7, 1))), o3, o4, o5] [] m (f_X3_goOn_j39 rec m) := by
  unfold f_X3_goOn_j39
  refine go_blk h.1 (is := [.aload_n 0, .aload_n 2, .getfield 41, .putfield 30, .aload_n 0, .getfield 18, .iconst 0, .aload_n 0, .getfield 22, .iconst 0, .iconst 5]) (pc' := 58) (ls' := [some (.inr (.inr (17, 0))), o1, some (.inr (.inr (7, 1))), o3, o4, o5]) (st' := [.inl (5 : Int32), .inl (0 : Int32), .inr (.inr (19, 0)), .inl (0 : Int32), .inr (.inr (18, 0))]) (m' := (mset m 17 0 4 (m 7 1 13))) (by decide +kernel) rfl ?_
  refine go_acopy h (index := 51) (by first | decide | omega) (by decide +kernel) wd_ml_X3_51 wd_na_copy wd_st_copy wd_in_System (Nat.le_of_ble_eq_true rfl) rfl rfl rfl rfl (fun b58 => ?_)
  exact go_vret h.1 h.2.2.2.2 (by decide +kernel)

def f_X3_goOn_j151 (rec : Int32 → Mem → Option (Unit × Mem)) (next : Int32 × Mem → Option (Unit × Mem)) (exit : Mem → Option (Unit × Mem)) (x1 : Int32) (x3 : Int32) (x4 : Int32) (m : Mem) : Option (Unit × Mem) :=
  next ((x4 + (1 : Int32)), m)
theorem g_X3_goOn_j151 {X : XT} {d : Nat} (hd0 : 4 ≤ d) (h : MX X prog_5_method_4_code P_X3 (d + 1) none) (rec : Int32 → Mem → Option (Unit × Mem)) (hrec : ∀ (l : Launch) (A : AR → Nat) (dC : Nat → ClassId) (dI : Nat → Nat → Nat) (cs : Nat → ClassId) (x1 : Int32) (m : Mem), Ctr l A dC dI cs yX3_goOn prog_5_method_4_code 6 none d puV [.inr (.inr (17, 0)), .inl x1] m (rec x1 m)) (next : Int32 × Mem → Option (Unit × Mem)) (exit : Mem → Option (Unit × Mem)) (x1 : Int32) (x3 : Int32) (x4 : Int32) (m : Mem) (o5 : Option AV) (hn : ∀ (s : Int32 × Mem) (o5 : Option AV), Go X (Em X puV) 75 [some (.inr (.inr (17, 0))), some (.inl x1), some (.inr (.inr (7, 1))), some (.inl x3), some (.inl s.1), o5] [] s.2 (next s)) (hx : ∀ (t : Mem) (o4 : Option AV) (o5 : Option AV), Go X (Em X puV) 157 [some (.inr (.inr (17, 0))), some (.inl x1), some (.inr (.inr (7, 1))), some (.inl x3), o4, o5] [] t (exit t)) : Go X (Em X puV) 151 [some (.inr (.inr (17, 0))), some (.inl x1), some (.inr (.inr (7, 1))), some (.inl x3), some (.inl x4), o5] [] m (f_X3_goOn_j151 rec next exit x1 x3 x4 m) := by
  unfold f_X3_goOn_j151
  refine go_blk h.1 (is := [.iinc 4 1]) (pc' := 154) (ls' := [some (.inr (.inr (17, 0))), some (.inl x1), some (.inr (.inr (7, 1))), some (.inl x3), some (.inl (x4 + (1 : Int32))), o5]) (st' := []) (m' := m) (by decide +kernel) rfl ?_
  refine go_goto h.1 (off := -79) 75 (by decide +kernel) (by decide) ?_
  exact hn ((x4 + (1 : Int32)), m) (o5)

def f_X3_goOn_j113 (rec : Int32 → Mem → Option (Unit × Mem)) (next : Int32 × Mem → Option (Unit × Mem)) (exit : Mem → Option (Unit × Mem)) (s0 : Int32) (x1 : Int32) (x3 : Int32) (x4 : Int32) (m : Mem) : Option (Unit × Mem) :=
  if s0 = (-2 : Int32) then
    f_X3_goOn_j151 rec next exit x1 x3 x4 m
  else
    if inB x1 5 = true then
      bnd (rec (x1 + (1 : Int32)) (mset m 18 0 (ix x1) (((10 : Int32) * x3) + x4))) (fun _ m139 =>
        bnd (f_X0_unpass 1 x3 x4 s0 m139) (fun _ m148 =>
          f_X3_goOn_j151 rec next exit x1 x3 x4 m148))
    else none
theorem g_X3_goOn_j113 {X : XT} {d : Nat} (hd0 : 4 ≤ d) (h : MX X prog_5_method_4_code P_X3 (d + 1) none) (rec : Int32 → Mem → Option (Unit × Mem)) (hrec : ∀ (l : Launch) (A : AR → Nat) (dC : Nat → ClassId) (dI : Nat → Nat → Nat) (cs : Nat → ClassId) (x1 : Int32) (m : Mem), Ctr l A dC dI cs yX3_goOn prog_5_method_4_code 6 none d puV [.inr (.inr (17, 0)), .inl x1] m (rec x1 m)) (next : Int32 × Mem → Option (Unit × Mem)) (exit : Mem → Option (Unit × Mem)) (s0 : Int32) (x1 : Int32) (x3 : Int32) (x4 : Int32) (m : Mem) (o5 : Option AV) (hn : ∀ (s : Int32 × Mem) (o5 : Option AV), Go X (Em X puV) 75 [some (.inr (.inr (17, 0))), some (.inl x1), some (.inr (.inr (7, 1))), some (.inl x3), some (.inl s.1), o5] [] s.2 (next s)) (hx : ∀ (t : Mem) (o4 : Option AV) (o5 : Option AV), Go X (Em X puV) 157 [some (.inr (.inr (17, 0))), some (.inl x1), some (.inr (.inr (7, 1))), some (.inl x3), o4, o5] [] t (exit t)) : Go X (Em X puV) 113 [some (.inr (.inr (17, 0))), some (.inl x1), some (.inr (.inr (7, 1))), some (.inl x3), some (.inl x4), o5] [.inl s0] m (f_X3_goOn_j113 rec next exit s0 x1 x3 x4 m) := by
  unfold f_X3_goOn_j113
  refine go_blk h.1 (is := [.istore 5, .iload 5, .bipush (-2)]) (pc' := 119) (ls' := [some (.inr (.inr (17, 0))), some (.inl x1), some (.inr (.inr (7, 1))), some (.inl x3), some (.inl x4), some (.inl s0)]) (st' := [.inl (-2 : Int32), .inl s0]) (m' := m) (by decide +kernel) rfl ?_
  refine go_icmpeq h.1 (off := 32) 151 (by decide +kernel) (by decide) (fun c119 => ?_) (fun c119 => ?_)
  · exact g_X3_goOn_j151 hd0 h rec hrec next exit x1 x3 x4 m (some (.inl s0)) hn hx
  · refine go_blk h.1 (is := [.aload_n 0, .getfield 18, .iload_n 1, .bipush 10, .iload_n 3, .imul, .iload 4, .iadd]) (pc' := 134) (ls' := [some (.inr (.inr (17, 0))), some (.inl x1), some (.inr (.inr (7, 1))), some (.inl x3), some (.inl x4), some (.inl s0)]) (st' := [.inl (((10 : Int32) * x3) + x4), .inl x1, .inr (.inr (18, 0))]) (m' := m) (by decide +kernel) rfl ?_
    refine go_iast h.1 (by decide +kernel) rfl rfl (fun b134 => ?_)
    refine go_blk h.1 (is := [.aload_n 0, .iload_n 1, .iconst 1, .iadd]) (pc' := 139) (ls' := [some (.inr (.inr (17, 0))), some (.inl x1), some (.inr (.inr (7, 1))), some (.inl x3), some (.inl x4), some (.inl s0)]) (st' := [.inl (x1 + (1 : Int32)), .inr (.inr (17, 0))]) (m' := (mset m 18 0 (ix x1) (((10 : Int32) * x3) + x4))) (by decide +kernel) rfl ?_
    refine go_callS h.1 (index := 37) (n := 2) (as := [.inr (.inr (17, 0)), .inl (x1 + (1 : Int32))]) (rest := []) (hrec (xl X) (xA X) (xC X) (xI X) (xk X) (x1 + (1 : Int32)) (mset m 18 0 (ix x1) (((10 : Int32) * x3) + x4))) (by decide +kernel) wd_s_X3_37 rfl (h.room (by first | decide | omega) (by decide)) h.cl (Nat.le_of_ble_eq_true rfl) puV_ok rfl (fun r139 m139 _ => ?_)
    show Go X (Em X puV) 142 [some (.inr (.inr (17, 0))), some (.inl x1), some (.inr (.inr (7, 1))), some (.inl x3), some (.inl x4), some (.inl s0)] [] m139 _
    refine go_blk h.1 (is := [.aload_n 2, .iload_n 3, .iload 4, .iload 5]) (pc' := 148) (ls' := [some (.inr (.inr (17, 0))), some (.inl x1), some (.inr (.inr (7, 1))), some (.inl x3), some (.inl x4), some (.inl s0)]) (st' := [.inl s0, .inl x4, .inl x3, .inr (.inr (7, 1))]) (m' := m139) (by decide +kernel) rfl ?_
    refine go_callV h.1 (index := 69) (n := 3) (t := 7) (i := 1) (ci := 0) (nf := 14) (cz := (RX0, TX0, 14)) (as := [.inl x3, .inl x4, .inl s0]) (rest := []) (ctr_X0_unpass (xl X) (xA X) (xC X) (xI X) (xk X) 1 x3 x4 s0 m139) (by decide +kernel) rfl rfl wd_v_X3_69 rfl (h.room (by first | decide | omega) (by decide)) h.cl (Nat.le_of_ble_eq_true rfl) puV_ok rfl (fun r148 m148 _ => ?_)
    show Go X (Em X puV) 151 [some (.inr (.inr (17, 0))), some (.inl x1), some (.inr (.inr (7, 1))), some (.inl x3), some (.inl x4), some (.inl s0)] [] m148 _
    exact g_X3_goOn_j151 hd0 h rec hrec next exit x1 x3 x4 m148 (some (.inl s0)) hn hx

def f_X3_goOn_b75 (rec : Int32 → Mem → Option (Unit × Mem)) (x1 : Int32) (x3 : Int32) (next : Int32 × Mem → Option (Unit × Mem)) (exit : Mem → Option (Unit × Mem)) (s : Int32 × Mem) : Option (Unit × Mem) :=
  if (3 : Int32) < s.1 then
    exit (s.2)
  else
    bnd (f_X0_isBelow 1 x3 s.2) (fun r83 m83 =>
      if r83 = 0 then
        exit (m83)
      else
        bnd (f_X6_mayBe (m83 17 0 3) s.1 m83) (fun r95 m95 =>
          if r95 = 0 then
            f_X3_goOn_j113 rec next exit (-2 : Int32) x1 x3 s.1 m95
          else
            bnd (f_X0_pass 1 x3 s.1 m95) (fun r105 m105 =>
              f_X3_goOn_j113 rec next exit r105 x1 x3 s.1 m105)))
theorem g_X3_goOn_b75 {X : XT} {d : Nat} (hd0 : 4 ≤ d) (h : MX X prog_5_method_4_code P_X3 (d + 1) none) (rec : Int32 → Mem → Option (Unit × Mem)) (hrec : ∀ (l : Launch) (A : AR → Nat) (dC : Nat → ClassId) (dI : Nat → Nat → Nat) (cs : Nat → ClassId) (x1 : Int32) (m : Mem), Ctr l A dC dI cs yX3_goOn prog_5_method_4_code 6 none d puV [.inr (.inr (17, 0)), .inl x1] m (rec x1 m)) (x1 : Int32) (x3 : Int32) (next : Int32 × Mem → Option (Unit × Mem)) (exit : Mem → Option (Unit × Mem)) (hn : ∀ (s : Int32 × Mem) (o5 : Option AV), Go X (Em X puV) 75 [some (.inr (.inr (17, 0))), some (.inl x1), some (.inr (.inr (7, 1))), some (.inl x3), some (.inl s.1), o5] [] s.2 (next s)) (hx : ∀ (t : Mem) (o4 : Option AV) (o5 : Option AV), Go X (Em X puV) 157 [some (.inr (.inr (17, 0))), some (.inl x1), some (.inr (.inr (7, 1))), some (.inl x3), o4, o5] [] t (exit t)) (s : Int32 × Mem) (o5 : Option AV) : Go X (Em X puV) 75 [some (.inr (.inr (17, 0))), some (.inl x1), some (.inr (.inr (7, 1))), some (.inl x3), some (.inl s.1), o5] [] s.2 (f_X3_goOn_b75 rec x1 x3 next exit s) := by
  unfold f_X3_goOn_b75
  refine go_blk h.1 (is := [.iload 4, .iconst 3]) (pc' := 78) (ls' := [some (.inr (.inr (17, 0))), some (.inl x1), some (.inr (.inr (7, 1))), some (.inl x3), some (.inl s.1), o5]) (st' := [.inl (3 : Int32), .inl s.1]) (m' := s.2) (by decide +kernel) rfl ?_
  refine go_icmpgt h.1 (off := 79) 157 (by decide +kernel) (by decide) (fun c78 => ?_) (fun c78 => ?_)
  · exact hx (s.2) (some (.inl s.1)) (o5)
  · refine go_blk h.1 (is := [.aload_n 2, .iload_n 3]) (pc' := 83) (ls' := [some (.inr (.inr (17, 0))), some (.inl x1), some (.inr (.inr (7, 1))), some (.inl x3), some (.inl s.1), o5]) (st' := [.inl x3, .inr (.inr (7, 1))]) (m' := s.2) (by decide +kernel) rfl ?_
    refine go_callV h.1 (index := 57) (n := 1) (t := 7) (i := 1) (ci := 0) (nf := 14) (cz := (RX0, TX0, 14)) (as := [.inl x3]) (rest := []) (ctr_X0_isBelow (xl X) (xA X) (xC X) (xI X) (xk X) 1 x3 s.2) (by decide +kernel) rfl rfl wd_v_X3_57 rfl (h.room (by first | decide | omega) (by decide)) h.cl (Nat.le_of_ble_eq_true rfl) puI_ok rfl (fun r83 m83 _ => ?_)
    show Go X (Em X puV) 86 [some (.inr (.inr (17, 0))), some (.inl x1), some (.inr (.inr (7, 1))), some (.inl x3), some (.inl s.1), o5] [.inl r83] m83 _
    refine go_ifeq h.1 (off := 71) 157 (by decide +kernel) (by decide) (fun c86 => ?_) (fun c86 => ?_)
    · exact hx (m83) (some (.inl s.1)) (o5)
    · refine go_blk h.1 (is := [.aload_n 0, .getfield 25, .iload 4]) (pc' := 95) (ls' := [some (.inr (.inr (17, 0))), some (.inl x1), some (.inr (.inr (7, 1))), some (.inl x3), some (.inl s.1), o5]) (st' := [.inl s.1, .inl (m83 17 0 3)]) (m' := m83) (by decide +kernel) rfl ?_
      refine go_callN h.1 (index := 61) (n := 2) (as := [.inl (m83 17 0 3), .inl s.1]) (rest := []) (ctr_X6_mayBe (xl X) (xA X) (xC X) (xI X) (xk X) (m83 17 0 3) s.1 m83) (by decide +kernel) wd_n_X3_61 rfl (h.room (by first | decide | omega) (by decide)) h.cl (Nat.le_of_ble_eq_true rfl) puI_ok rfl (fun r95 m95 _ => ?_)
      show Go X (Em X puV) 98 [some (.inr (.inr (17, 0))), some (.inl x1), some (.inr (.inr (7, 1))), some (.inl x3), some (.inl s.1), o5] [.inl r95] m95 _
      refine go_ifeq h.1 (off := 13) 111 (by decide +kernel) (by decide) (fun c98 => ?_) (fun c98 => ?_)
      · refine go_blk h.1 (is := [.bipush (-2)]) (pc' := 113) (ls' := [some (.inr (.inr (17, 0))), some (.inl x1), some (.inr (.inr (7, 1))), some (.inl x3), some (.inl s.1), o5]) (st' := [.inl (-2 : Int32)]) (m' := m95) (by decide +kernel) rfl ?_
        exact g_X3_goOn_j113 hd0 h rec hrec next exit (-2 : Int32) x1 x3 s.1 m95 (o5) hn hx
      · refine go_blk h.1 (is := [.aload_n 2, .iload_n 3, .iload 4]) (pc' := 105) (ls' := [some (.inr (.inr (17, 0))), some (.inl x1), some (.inr (.inr (7, 1))), some (.inl x3), some (.inl s.1), o5]) (st' := [.inl s.1, .inl x3, .inr (.inr (7, 1))]) (m' := m95) (by decide +kernel) rfl ?_
        refine go_callV h.1 (index := 65) (n := 2) (t := 7) (i := 1) (ci := 0) (nf := 14) (cz := (RX0, TX0, 14)) (as := [.inl x3, .inl s.1]) (rest := []) (ctr_X0_pass (xl X) (xA X) (xC X) (xI X) (xk X) 1 x3 s.1 m95) (by decide +kernel) rfl rfl wd_v_X3_65 rfl (h.room (by first | decide | omega) (by decide)) h.cl (Nat.le_of_ble_eq_true rfl) puI_ok rfl (fun r105 m105 _ => ?_)
        show Go X (Em X puV) 108 [some (.inr (.inr (17, 0))), some (.inl x1), some (.inr (.inr (7, 1))), some (.inl x3), some (.inl s.1), o5] [.inl r105] m105 _
        refine go_goto h.1 (off := 5) 113 (by decide +kernel) (by decide) ?_
        exact g_X3_goOn_j113 hd0 h rec hrec next exit r105 x1 x3 s.1 m105 (o5) hn hx

def f_X3_goOn_b64 (rec : Int32 → Mem → Option (Unit × Mem)) (x1 : Int32) (next : Int32 × Mem → Option (Unit × Mem)) (exit : Mem → Option (Unit × Mem)) (s : Int32 × Mem) : Option (Unit × Mem) :=
  if (s.2 7 1 8) ≤ s.1 then
    exit (s.2)
  else
    lpk (f_X3_goOn_b75 rec x1 s.1) fuelN ((0 : Int32), s.2) (fun t75 =>
      next ((s.1 + (1 : Int32)), t75))
theorem g_X3_goOn_b64 {X : XT} {d : Nat} (hd0 : 4 ≤ d) (h : MX X prog_5_method_4_code P_X3 (d + 1) none) (rec : Int32 → Mem → Option (Unit × Mem)) (hrec : ∀ (l : Launch) (A : AR → Nat) (dC : Nat → ClassId) (dI : Nat → Nat → Nat) (cs : Nat → ClassId) (x1 : Int32) (m : Mem), Ctr l A dC dI cs yX3_goOn prog_5_method_4_code 6 none d puV [.inr (.inr (17, 0)), .inl x1] m (rec x1 m)) (x1 : Int32) (next : Int32 × Mem → Option (Unit × Mem)) (exit : Mem → Option (Unit × Mem)) (hn : ∀ (s : Int32 × Mem) (o4 : Option AV) (o5 : Option AV), Go X (Em X puV) 64 [some (.inr (.inr (17, 0))), some (.inl x1), some (.inr (.inr (7, 1))), some (.inl s.1), o4, o5] [] s.2 (next s)) (hx : ∀ (t : Mem) (o0 : Option AV) (o1 : Option AV) (o2 : Option AV) (o3 : Option AV) (o4 : Option AV) (o5 : Option AV), Go X (Em X puV) 163 [o0, o1, o2, o3, o4, o5] [] t (exit t)) (s : Int32 × Mem) (o4 : Option AV) (o5 : Option AV) : Go X (Em X puV) 64 [some (.inr (.inr (17, 0))), some (.inl x1), some (.inr (.inr (7, 1))), some (.inl s.1), o4, o5] [] s.2 (f_X3_goOn_b64 rec x1 next exit s) := by
  unfold f_X3_goOn_b64
  refine go_blk h.1 (is := [.iload_n 3, .aload_n 2, .getfield 48]) (pc' := 69) (ls' := [some (.inr (.inr (17, 0))), some (.inl x1), some (.inr (.inr (7, 1))), some (.inl s.1), o4, o5]) (st' := [.inl (s.2 7 1 8), .inl s.1]) (m' := s.2) (by decide +kernel) rfl ?_
  refine go_icmpge h.1 (off := 94) 163 (by decide +kernel) (by decide) (fun c69 => ?_) (fun c69 => ?_)
  · exact hx (s.2) (some (.inr (.inr (17, 0)))) (some (.inl x1)) (some (.inr (.inr (7, 1)))) (some (.inl s.1)) (o4) (o5)
  · refine go_blk h.1 (is := [.iconst 0, .istore 4]) (pc' := 75) (ls' := [some (.inr (.inr (17, 0))), some (.inl x1), some (.inr (.inr (7, 1))), some (.inl s.1), some (.inl (0 : Int32)), o5]) (st' := []) (m' := s.2) (by decide +kernel) rfl ?_
    refine go_loop (hd := fun (s75 : Int32 × Mem) o => ∀ (o5 : Option AV), Go X (Em X puV) 75 [some (.inr (.inr (17, 0))), some (.inl x1), some (.inr (.inr (7, 1))), some (.inl s.1), some (.inl s75.1), o5] [] s75.2 o) (fun s _ => go_none) (fun s75 nx_ hn_ => g_X3_goOn_b75 hd0 h rec hrec x1 s.1 nx_ _ hn_ ?_ s75) fuelN ((0 : Int32), s.2) (o5)
    intro t75 o4_75 o5_75
    refine go_blk h.1 (is := [.iinc 3 1]) (pc' := 160) (ls' := [some (.inr (.inr (17, 0))), some (.inl x1), some (.inr (.inr (7, 1))), some (.inl (s.1 + (1 : Int32))), o4_75, o5_75]) (st' := []) (m' := t75) (by decide +kernel) rfl ?_
    refine go_goto h.1 (off := -96) 64 (by decide +kernel) (by decide) ?_
    exact hn ((s.1 + (1 : Int32)), t75) (o4_75) (o5_75)

def f_X3_goOn (rec : Int32 → Mem → Option (Unit × Mem)) (x1 : Int32) (m : Mem) : Option (Unit × Mem) :=
  bnd (f_X0_stillDue 1 (m 17 0 3) m) (fun r14 m14 =>
    if ((m 7 1 13) + r14) < (m14 17 0 4) then
      if (m14 7 1 8) ≤ x1 then
        f_X3_goOn_j39 rec m14
      else
        if x1 < (5 : Int32) then
          lpk (f_X3_goOn_b64 rec x1) fuelN ((0 : Int32), m14) (fun t64 =>
            some ((), t64))
        else
          f_X3_goOn_j39 rec m14
    else
      some ((), m14))
theorem g_X3_goOn {X : XT} {d : Nat} (hd0 : 4 ≤ d) (h : MX X prog_5_method_4_code P_X3 (d + 1) none) (rec : Int32 → Mem → Option (Unit × Mem)) (hrec : ∀ (l : Launch) (A : AR → Nat) (dC : Nat → ClassId) (dI : Nat → Nat → Nat) (cs : Nat → ClassId) (x1 : Int32) (m : Mem), Ctr l A dC dI cs yX3_goOn prog_5_method_4_code 6 none d puV [.inr (.inr (17, 0)), .inl x1] m (rec x1 m)) (x1 : Int32) (m : Mem) : Go X (Em X puV) 0 [some (.inr (.inr (17, 0))), some (.inl x1), none, none, none, none] [] m (f_X3_goOn rec x1 m) := by
  unfold f_X3_goOn
  refine go_blk h.1 (is := [.aload_n 0, .getfield 12, .astore_n 2, .aload_n 2, .getfield 41, .aload_n 2, .aload_n 0, .getfield 25]) (pc' := 14) (ls' := [some (.inr (.inr (17, 0))), some (.inl x1), some (.inr (.inr (7, 1))), none, none, none]) (st' := [.inl (m 17 0 3), .inr (.inr (7, 1)), .inl (m 7 1 13)]) (m' := m) (by decide +kernel) rfl ?_
  refine go_callV h.1 (index := 44) (n := 1) (t := 7) (i := 1) (ci := 0) (nf := 14) (cz := (RX0, TX0, 14)) (as := [.inl (m 17 0 3)]) (rest := [.inl (m 7 1 13)]) (ctr_X0_stillDue (xl X) (xA X) (xC X) (xI X) (xk X) 1 (m 17 0 3) m) (by decide +kernel) rfl rfl wd_v_X3_44 rfl (h.room (by first | decide | omega) (by decide)) h.cl (Nat.le_of_ble_eq_true rfl) puI_ok rfl (fun r14 m14 _ => ?_)
  show Go X (Em X puV) 17 [some (.inr (.inr (17, 0))), some (.inl x1), some (.inr (.inr (7, 1))), none, none, none] [.inl r14, .inl (m 7 1 13)] m14 _
  refine go_blk h.1 (is := [.iadd, .aload_n 0, .getfield 30]) (pc' := 22) (ls' := [some (.inr (.inr (17, 0))), some (.inl x1), some (.inr (.inr (7, 1))), none, none, none]) (st' := [.inl (m14 17 0 4), .inl ((m 7 1 13) + r14)]) (m' := m14) (by decide +kernel) rfl ?_
  refine go_icmplt h.1 (off := 4) 26 (by decide +kernel) (by decide) (fun c22 => ?_) (fun c22 => ?_)
  · refine go_blk h.1 (is := [.iload_n 1, .aload_n 2, .getfield 48]) (pc' := 31) (ls' := [some (.inr (.inr (17, 0))), some (.inl x1), some (.inr (.inr (7, 1))), none, none, none]) (st' := [.inl (m14 7 1 8), .inl x1]) (m' := m14) (by decide +kernel) rfl ?_
    refine go_icmpge h.1 (off := 8) 39 (by decide +kernel) (by decide) (fun c31 => ?_) (fun c31 => ?_)
    · exact g_X3_goOn_j39 hd0 h rec hrec m14 (some (.inl x1)) (none) (none) (none)
    · refine go_blk h.1 (is := [.iload_n 1, .iconst 5]) (pc' := 36) (ls' := [some (.inr (.inr (17, 0))), some (.inl x1), some (.inr (.inr (7, 1))), none, none, none]) (st' := [.inl (5 : Int32), .inl x1]) (m' := m14) (by decide +kernel) rfl ?_
      refine go_icmplt h.1 (off := 26) 62 (by decide +kernel) (by decide) (fun c36 => ?_) (fun c36 => ?_)
      · refine go_blk h.1 (is := [.iconst 0, .istore_n 3]) (pc' := 64) (ls' := [some (.inr (.inr (17, 0))), some (.inl x1), some (.inr (.inr (7, 1))), some (.inl (0 : Int32)), none, none]) (st' := []) (m' := m14) (by decide +kernel) rfl ?_
        refine go_loop (hd := fun (s64 : Int32 × Mem) o => ∀ (o4 : Option AV) (o5 : Option AV), Go X (Em X puV) 64 [some (.inr (.inr (17, 0))), some (.inl x1), some (.inr (.inr (7, 1))), some (.inl s64.1), o4, o5] [] s64.2 o) (fun s _ _ => go_none) (fun s64 nx_ hn_ => g_X3_goOn_b64 hd0 h rec hrec x1 nx_ _ hn_ ?_ s64) fuelN ((0 : Int32), m14) (none) (none)
        intro t64 o0_64 o1_64 o2_64 o3_64 o4_64 o5_64
        exact go_vret h.1 h.2.2.2.2 (by decide +kernel)
      · exact g_X3_goOn_j39 hd0 h rec hrec m14 (some (.inl x1)) (none) (none) (none)
  · exact go_vret h.1 h.2.2.2.2 (by decide +kernel)
def f_X3_goOnN : Nat → Int32 → Mem → Option (Unit × Mem)
  | 0 => fun _ _ => none
  | n + 1 => f_X3_goOn (f_X3_goOnN n)
theorem ctr_X3_goOnn : ∀ (n : Nat) (l : Launch) (A : AR → Nat) (dC : Nat → ClassId) (dI : Nat → Nat → Nat) (cs : Nat → ClassId) (x1 : Int32) (m : Mem), Ctr l A dC dI cs yX3_goOn prog_5_method_4_code 6 none (4 + n) puV [.inr (.inr (17, 0)), .inl x1] m (f_X3_goOnN n x1 m)
  | 0, _, _, _, _, _, _, _ => fun _ _ _ h => by cases h
  | n + 1, l, A, dC, dI, cs, x1, m => ctr_of (P := P_X3) (by decide +kernel) rfl pt_X3 rfl rfl (fun X hC _ _ _ _ _ hR h0 h1 hr => g_X3_goOn (d := 4 + n) (by omega) ⟨hC, hR, h0, h1, hr⟩ (f_X3_goOnN n) (ctr_X3_goOnn n) x1 m)
theorem ctr_X3_goOnN (l : Launch) (A : AR → Nat) (dC : Nat → ClassId) (dI : Nat → Nat → Nat) (cs : Nat → ClassId) (n : Nat) (x1 : Int32) (m : Mem) : Ctr l A dC dI cs yX3_goOn prog_5_method_4_code 6 none (4 + n) puV [.inr (.inr (17, 0)), .inl x1] m (f_X3_goOnN n x1 m) := ctr_X3_goOnn n l A dC dI cs x1 m
end
section
/-! ===== printed by wip/whole/tr.py out of the listing ===== -/
def f_X3_find (x2 : Int32) (m : Mem) : Option (Unit × Mem) :=
  if (m 17 0 3) = x2 then
    some ((), m)
  else
    bnd (f_X0_start 1 (mset (mset m 17 0 3 x2) 17 0 4 (1000000 : Int32))) (fun _ m25 =>
      bnd (f_X3_goOnN 8 (0 : Int32) m25) (fun _ m30 =>
        some ((), m30)))
theorem g_X3_find {X : XT} (h : MX X prog_5_method_3_code P_X3 13 none) (x2 : Int32) (m : Mem) : Go X (Em X puV) 0 [some (.inr (.inr (17, 0))), some (.inr (.inr (4, 0))), some (.inl x2)] [] m (f_X3_find x2 m) := by
  unfold f_X3_find
  refine go_blk h.1 (is := [.aload_n 0, .getfield 25, .iload_n 2]) (pc' := 5) (ls' := [some (.inr (.inr (17, 0))), some (.inr (.inr (4, 0))), some (.inl x2)]) (st' := [.inl x2, .inl (m 17 0 3)]) (m' := m) (by decide +kernel) rfl ?_
  refine go_icmpne h.1 (off := 4) 9 (by decide +kernel) (by decide) (fun c5 => ?_) (fun c5 => ?_)
  · refine go_blk h.1 (is := [.aload_n 0, .iload_n 2, .putfield 25, .aload_n 0, .ldc 29, .putfield 30, .aload_n 0, .getfield 12, .aload_n 1]) (pc' := 25) (ls' := [some (.inr (.inr (17, 0))), some (.inr (.inr (4, 0))), some (.inl x2)]) (st' := [.inr (.inr (4, 0)), .inr (.inr (7, 1))]) (m' := (mset (mset m 17 0 3 x2) 17 0 4 (1000000 : Int32))) (by decide +kernel) rfl ?_
    refine go_callV h.1 (index := 33) (n := 1) (t := 7) (i := 1) (ci := 0) (nf := 14) (cz := (RX0, TX0, 14)) (as := [.inr (.inr (4, 0))]) (rest := []) (ctr_X0_start (xl X) (xA X) (xC X) (xI X) (xk X) 1 (mset (mset m 17 0 3 x2) 17 0 4 (1000000 : Int32))) (by decide +kernel) rfl rfl wd_v_X3_33 rfl (h.room (by first | decide | omega) (by decide)) h.cl (Nat.le_of_ble_eq_true rfl) puV_ok rfl (fun r25 m25 _ => ?_)
    show Go X (Em X puV) 28 [some (.inr (.inr (17, 0))), some (.inr (.inr (4, 0))), some (.inl x2)] [] m25 _
    refine go_blk h.1 (is := [.aload_n 0, .iconst 0]) (pc' := 30) (ls' := [some (.inr (.inr (17, 0))), some (.inr (.inr (4, 0))), some (.inl x2)]) (st' := [.inl (0 : Int32), .inr (.inr (17, 0))]) (m' := m25) (by decide +kernel) rfl ?_
    refine go_callS h.1 (index := 37) (n := 2) (as := [.inr (.inr (17, 0)), .inl (0 : Int32)]) (rest := []) (ctr_X3_goOnN (xl X) (xA X) (xC X) (xI X) (xk X) 8 (0 : Int32) m25) (by decide +kernel) wd_s_X3_37 rfl (h.room (by first | decide | omega) (by decide)) h.cl (Nat.le_of_ble_eq_true rfl) puV_ok rfl (fun r30 m30 _ => ?_)
    show Go X (Em X puV) 33 [some (.inr (.inr (17, 0))), some (.inr (.inr (4, 0))), some (.inl x2)] [] m30 _
    exact go_vret h.1 h.2.2.2.2 (by decide +kernel)
  · exact go_vret h.1 h.2.2.2.2 (by decide +kernel)
theorem ctr_X3_find (l : Launch) (A : AR → Nat) (dC : Nat → ClassId) (dI : Nat → Nat → Nat) (cs : Nat → ClassId) (x2 : Int32) (m : Mem) : Ctr l A dC dI cs yX3_find prog_5_method_3_code 3 none 13 puV [.inr (.inr (17, 0)), .inr (.inr (4, 0)), .inl x2] m (f_X3_find x2 m) :=
  ctr_of (P := P_X3) (by decide +kernel) rfl pt_X3 rfl rfl (fun X hC _ _ _ _ _ hR h0 h1 hr => g_X3_find ⟨hC, hR, h0, h1, hr⟩ x2 m)

def f_X6_least (x1 : Int32) (x2 : Int32) (m : Mem) : Option (Int32 × Mem) :=
  if (-1 : Int32) ≤ x2 then
    bnd (f_X6_isWithin x1 (1 : Int32) (15 : Int32) m) (fun r11 m11 =>
      if r11 = 0 then
        some ((-2 : Int32), m11)
      else
        if (m11 4 0 1) = 0 then
          some ((-3 : Int32), m11)
        else
          bnd (f_X3_find x1 m11) (fun _ m42 =>
            if (1000000 : Int32) ≤ (m42 17 0 4) then
              some ((-9 : Int32), m42)
            else
              if x2 < (m42 4 0 1) then
                if 0 ≤ x2 then
                  if inB x2 5 = true then
                    some ((m42 19 0 (ix x2)), m42)
                  else none
                else
                  some ((m42 17 0 4), m42)
              else
                some ((-9 : Int32), m42)))
  else
    some ((-1 : Int32), m)
theorem g_X6_least {X : XT} (h : MX X prog_1_method_10_code P_X6 14 (some .int)) (x1 : Int32) (x2 : Int32) (m : Mem) : Go X (Em X puI) 0 [some (.inr (.inr (0, 0))), some (.inl x1), some (.inl x2)] [] m (f_X6_least x1 x2 m) := by
  unfold f_X6_least
  refine go_blk h.1 (is := [.iload_n 2, .iconst (-1)]) (pc' := 2) (ls' := [some (.inr (.inr (0, 0))), some (.inl x1), some (.inl x2)]) (st' := [.inl (-1 : Int32), .inl x2]) (m' := m) (by decide +kernel) rfl ?_
  refine go_icmpge h.1 (off := 5) 7 (by decide +kernel) (by decide) (fun c2 => ?_) (fun c2 => ?_)
  · refine go_blk h.1 (is := [.iload_n 1, .iconst 1, .bipush 15]) (pc' := 11) (ls' := [some (.inr (.inr (0, 0))), some (.inl x1), some (.inl x2)]) (st' := [.inl (15 : Int32), .inl (1 : Int32), .inl x1]) (m' := m) (by decide +kernel) rfl ?_
    refine go_callS h.1 (index := 111) (n := 3) (as := [.inl x1, .inl (1 : Int32), .inl (15 : Int32)]) (rest := []) (ctr_X6_isWithin (xl X) (xA X) (xC X) (xI X) (xk X) x1 (1 : Int32) (15 : Int32) m) (by decide +kernel) wd_s_X6_111 rfl (h.room (by first | decide | omega) (by decide)) h.cl (Nat.le_of_ble_eq_true rfl) puI_ok rfl (fun r11 m11 _ => ?_)
    show Go X (Em X puI) 14 [some (.inr (.inr (0, 0))), some (.inl x1), some (.inl x2)] [.inl r11] m11 _
    refine go_ifne h.1 (off := 6) 20 (by decide +kernel) (by decide) (fun c14 => ?_) (fun c14 => ?_)
    · refine go_blk h.1 (is := [.aload_n 0, .getfield 21, .getfield 82]) (pc' := 27) (ls' := [some (.inr (.inr (0, 0))), some (.inl x1), some (.inl x2)]) (st' := [.inl (m11 4 0 1)]) (m' := m11) (by decide +kernel) rfl ?_
      refine go_ifne h.1 (off := 6) 33 (by decide +kernel) (by decide) (fun c27 => ?_) (fun c27 => ?_)
      · refine go_blk h.1 (is := [.aload_n 0, .getfield 35, .aload_n 0, .getfield 21, .iload_n 1]) (pc' := 42) (ls' := [some (.inr (.inr (0, 0))), some (.inl x1), some (.inl x2)]) (st' := [.inl x1, .inr (.inr (4, 0)), .inr (.inr (17, 0))]) (m' := m11) (by decide +kernel) rfl ?_
        refine go_callV h.1 (index := 156) (n := 2) (t := 17) (i := 0) (ci := 3) (nf := 5) (cz := (RX3, TX3, 5)) (as := [.inr (.inr (4, 0)), .inl x1]) (rest := []) (ctr_X3_find (xl X) (xA X) (xC X) (xI X) (xk X) x1 m11) (by decide +kernel) rfl rfl wd_v_X6_156 rfl (h.room (by first | decide | omega) (by decide)) h.cl (Nat.le_of_ble_eq_true rfl) puV_ok rfl (fun r42 m42 _ => ?_)
        show Go X (Em X puI) 45 [some (.inr (.inr (0, 0))), some (.inl x1), some (.inl x2)] [] m42 _
        refine go_blk h.1 (is := [.aload_n 0, .getfield 35, .getfield 160, .ldc 163]) (pc' := 54) (ls' := [some (.inr (.inr (0, 0))), some (.inl x1), some (.inl x2)]) (st' := [.inl (1000000 : Int32), .inl (m42 17 0 4)]) (m' := m42) (by decide +kernel) rfl ?_
        refine go_icmpge h.1 (off := 14) 68 (by decide +kernel) (by decide) (fun c54 => ?_) (fun c54 => ?_)
        · refine go_blk h.1 (is := [.bipush (-9)]) (pc' := 70) (ls' := [some (.inr (.inr (0, 0))), some (.inl x1), some (.inl x2)]) (st' := [.inl (-9 : Int32)]) (m' := m42) (by decide +kernel) rfl ?_
          exact go_iret h.1 h.2.2.2.2 (by decide +kernel)
        · refine go_blk h.1 (is := [.iload_n 2, .aload_n 0, .getfield 21, .getfield 82]) (pc' := 65) (ls' := [some (.inr (.inr (0, 0))), some (.inl x1), some (.inl x2)]) (st' := [.inl (m42 4 0 1), .inl x2]) (m' := m42) (by decide +kernel) rfl ?_
          refine go_icmplt h.1 (off := 6) 71 (by decide +kernel) (by decide) (fun c65 => ?_) (fun c65 => ?_)
          · refine go_blk h.1 (is := [.iload_n 2]) (pc' := 72) (ls' := [some (.inr (.inr (0, 0))), some (.inl x1), some (.inl x2)]) (st' := [.inl x2]) (m' := m42) (by decide +kernel) rfl ?_
            refine go_ifge h.1 (off := 13) 85 (by decide +kernel) (by decide) (fun c72 => ?_) (fun c72 => ?_)
            · refine go_blk h.1 (is := [.aload_n 0, .getfield 35, .getfield 164, .iload_n 2]) (pc' := 93) (ls' := [some (.inr (.inr (0, 0))), some (.inl x1), some (.inl x2)]) (st' := [.inl x2, .inr (.inr (19, 0))]) (m' := m42) (by decide +kernel) rfl ?_
              refine go_iald h.1 (by decide +kernel) rfl rfl (fun b93 => ?_)
              show Go X (Em X puI) 94 [some (.inr (.inr (0, 0))), some (.inl x1), some (.inl x2)] [.inl (m42 19 0 (ix x2))] m42 _
              exact go_iret h.1 h.2.2.2.2 (by decide +kernel)
            · refine go_blk h.1 (is := [.aload_n 0, .getfield 35, .getfield 160]) (pc' := 82) (ls' := [some (.inr (.inr (0, 0))), some (.inl x1), some (.inl x2)]) (st' := [.inl (m42 17 0 4)]) (m' := m42) (by decide +kernel) rfl ?_
              refine go_goto h.1 (off := 12) 94 (by decide +kernel) (by decide) ?_
              exact go_iret h.1 h.2.2.2.2 (by decide +kernel)
          · refine go_blk h.1 (is := [.bipush (-9)]) (pc' := 70) (ls' := [some (.inr (.inr (0, 0))), some (.inl x1), some (.inl x2)]) (st' := [.inl (-9 : Int32)]) (m' := m42) (by decide +kernel) rfl ?_
            exact go_iret h.1 h.2.2.2.2 (by decide +kernel)
      · refine go_blk h.1 (is := [.bipush (-3)]) (pc' := 32) (ls' := [some (.inr (.inr (0, 0))), some (.inl x1), some (.inl x2)]) (st' := [.inl (-3 : Int32)]) (m' := m11) (by decide +kernel) rfl ?_
        exact go_iret h.1 h.2.2.2.2 (by decide +kernel)
    · refine go_blk h.1 (is := [.bipush (-2)]) (pc' := 19) (ls' := [some (.inr (.inr (0, 0))), some (.inl x1), some (.inl x2)]) (st' := [.inl (-2 : Int32)]) (m' := m11) (by decide +kernel) rfl ?_
      exact go_iret h.1 h.2.2.2.2 (by decide +kernel)
  · refine go_blk h.1 (is := [.iconst (-1)]) (pc' := 6) (ls' := [some (.inr (.inr (0, 0))), some (.inl x1), some (.inl x2)]) (st' := [.inl (-1 : Int32)]) (m' := m) (by decide +kernel) rfl ?_
    exact go_iret h.1 h.2.2.2.2 (by decide +kernel)
theorem ctr_X6_least (l : Launch) (A : AR → Nat) (dC : Nat → ClassId) (dI : Nat → Nat → Nat) (cs : Nat → ClassId) (x1 : Int32) (x2 : Int32) (m : Mem) : Ctr l A dC dI cs yX6_least prog_1_method_10_code 3 (some .int) 14 puI [.inr (.inr (0, 0)), .inl x1, .inl x2] m (f_X6_least x1 x2 m) :=
  ctr_of (P := P_X6) (by decide +kernel) rfl pt_X6 rfl rfl (fun X hC _ _ _ _ _ hR h0 h1 hr => g_X6_least ⟨hC, hR, h0, h1, hr⟩ x1 x2 m)

def f_X0_netOf_b4 (w : Nat) (x1 : Int32) (next : Int32 × Int32 × Mem → Option (Int32 × Mem)) (exit : Int32 × Mem → Option (Int32 × Mem)) (s : Int32 × Int32 × Mem) : Option (Int32 × Mem) :=
  if (s.2.2 7 w 8) ≤ s.2.1 then
    exit (s.1, s.2.2)
  else
    if inB x1 5 = true then
      if inB s.2.1 5 = true then
        if inB s.2.1 5 = true then
          if inB x1 5 = true then
            next ((s.1 + ((s.2.2 14 (5 * w + (ix x1)) (ix s.2.1)) - (s.2.2 14 (5 * w + (ix s.2.1)) (ix x1)))), (s.2.1 + (1 : Int32)), s.2.2)
          else none
        else none
      else none
    else none
theorem g_X0_netOf_b4 {X : XT} (h : MX X prog_2_method_17_code P_X0 0 (some .int)) (w : Nat) (x1 : Int32) (next : Int32 × Int32 × Mem → Option (Int32 × Mem)) (exit : Int32 × Mem → Option (Int32 × Mem)) (hn : ∀ (s : Int32 × Int32 × Mem), Go X (Em X puI) 4 [some (.inr (.inr (7, w))), some (.inl x1), some (.inl s.1), some (.inl s.2.1)] [] s.2.2 (next s)) (hx : ∀ (t : Int32 × Mem) (o0 : Option AV) (o1 : Option AV) (o3 : Option AV), Go X (Em X puI) 38 [o0, o1, some (.inl t.1), o3] [] t.2 (exit t)) (s : Int32 × Int32 × Mem) : Go X (Em X puI) 4 [some (.inr (.inr (7, w))), some (.inl x1), some (.inl s.1), some (.inl s.2.1)] [] s.2.2 (f_X0_netOf_b4 w x1 next exit s) := by
  unfold f_X0_netOf_b4
  refine go_blk h.1 (is := [.iload_n 3, .aload_n 0, .getfield 44]) (pc' := 9) (ls' := [some (.inr (.inr (7, w))), some (.inl x1), some (.inl s.1), some (.inl s.2.1)]) (st' := [.inl (s.2.2 7 w 8), .inl s.2.1]) (m' := s.2.2) (by decide +kernel) rfl ?_
  refine go_icmpge h.1 (off := 29) 38 (by decide +kernel) (by decide) (fun c9 => ?_) (fun c9 => ?_)
  · exact hx (s.1, s.2.2) (some (.inr (.inr (7, w)))) (some (.inl x1)) (some (.inl s.2.1))
  · refine go_blk h.1 (is := [.iload_n 2, .aload_n 0, .getfield 29, .iload_n 1]) (pc' := 18) (ls' := [some (.inr (.inr (7, w))), some (.inl x1), some (.inl s.1), some (.inl s.2.1)]) (st' := [.inl x1, .inr (.inr (13, w)), .inl s.1]) (m' := s.2.2) (by decide +kernel) rfl ?_
    refine go_aald h.1 (kd := 2) (z := (14, (5 * w + (ix x1)))) (by decide +kernel) rfl rfl (by decide) rfl (fun b18 => ?_)
    refine go_blk h.1 (is := [.iload_n 3]) (pc' := 20) (ls' := [some (.inr (.inr (7, w))), some (.inl x1), some (.inl s.1), some (.inl s.2.1)]) (st' := [.inl s.2.1, .inr (.inr (14, (5 * w + (ix x1)))), .inl s.1]) (m' := s.2.2) (by decide +kernel) rfl ?_
    refine go_iald h.1 (by decide +kernel) rfl rfl (fun b20 => ?_)
    show Go X (Em X puI) 21 [some (.inr (.inr (7, w))), some (.inl x1), some (.inl s.1), some (.inl s.2.1)] [.inl (s.2.2 14 (5 * w + (ix x1)) (ix s.2.1)), .inl s.1] s.2.2 _
    refine go_blk h.1 (is := [.aload_n 0, .getfield 29, .iload_n 3]) (pc' := 26) (ls' := [some (.inr (.inr (7, w))), some (.inl x1), some (.inl s.1), some (.inl s.2.1)]) (st' := [.inl s.2.1, .inr (.inr (13, w)), .inl (s.2.2 14 (5 * w + (ix x1)) (ix s.2.1)), .inl s.1]) (m' := s.2.2) (by decide +kernel) rfl ?_
    refine go_aald h.1 (kd := 2) (z := (14, (5 * w + (ix s.2.1)))) (by decide +kernel) rfl rfl (by decide) rfl (fun b26 => ?_)
    refine go_blk h.1 (is := [.iload_n 1]) (pc' := 28) (ls' := [some (.inr (.inr (7, w))), some (.inl x1), some (.inl s.1), some (.inl s.2.1)]) (st' := [.inl x1, .inr (.inr (14, (5 * w + (ix s.2.1)))), .inl (s.2.2 14 (5 * w + (ix x1)) (ix s.2.1)), .inl s.1]) (m' := s.2.2) (by decide +kernel) rfl ?_
    refine go_iald h.1 (by decide +kernel) rfl rfl (fun b28 => ?_)
    show Go X (Em X puI) 29 [some (.inr (.inr (7, w))), some (.inl x1), some (.inl s.1), some (.inl s.2.1)] [.inl (s.2.2 14 (5 * w + (ix s.2.1)) (ix x1)), .inl (s.2.2 14 (5 * w + (ix x1)) (ix s.2.1)), .inl s.1] s.2.2 _
    refine go_blk h.1 (is := [.isub, .iadd, .istore_n 2, .iinc 3 1]) (pc' := 35) (ls' := [some (.inr (.inr (7, w))), some (.inl x1), some (.inl (s.1 + ((s.2.2 14 (5 * w + (ix x1)) (ix s.2.1)) - (s.2.2 14 (5 * w + (ix s.2.1)) (ix x1))))), some (.inl (s.2.1 + (1 : Int32)))]) (st' := []) (m' := s.2.2) (by decide +kernel) rfl ?_
    refine go_goto h.1 (off := -31) 4 (by decide +kernel) (by decide) ?_
    exact hn ((s.1 + ((s.2.2 14 (5 * w + (ix x1)) (ix s.2.1)) - (s.2.2 14 (5 * w + (ix s.2.1)) (ix x1)))), (s.2.1 + (1 : Int32)), s.2.2)

def f_X0_netOf (w : Nat) (x1 : Int32) (m : Mem) : Option (Int32 × Mem) :=
  lpk (f_X0_netOf_b4 w x1) fuelN ((0 : Int32), (0 : Int32), m) (fun t4 =>
    some (t4.1, t4.2))
theorem g_X0_netOf {X : XT} (h : MX X prog_2_method_17_code P_X0 0 (some .int)) (w : Nat) (x1 : Int32) (m : Mem) : Go X (Em X puI) 0 [some (.inr (.inr (7, w))), some (.inl x1), none, none] [] m (f_X0_netOf w x1 m) := by
  unfold f_X0_netOf
  refine go_blk h.1 (is := [.iconst 0, .istore_n 2, .iconst 0, .istore_n 3]) (pc' := 4) (ls' := [some (.inr (.inr (7, w))), some (.inl x1), some (.inl (0 : Int32)), some (.inl (0 : Int32))]) (st' := []) (m' := m) (by decide +kernel) rfl ?_
  refine go_loop (hd := fun (s4 : Int32 × Int32 × Mem) o => Go X (Em X puI) 4 [some (.inr (.inr (7, w))), some (.inl x1), some (.inl s4.1), some (.inl s4.2.1)] [] s4.2.2 o) (fun s => go_none) (fun s4 nx_ hn_ => g_X0_netOf_b4 h w x1 nx_ _ hn_ ?_ s4) fuelN ((0 : Int32), (0 : Int32), m)
  intro t4 o0_4 o1_4 o3_4
  refine go_blk h.1 (is := [.iload_n 2]) (pc' := 39) (ls' := [o0_4, o1_4, some (.inl t4.1), o3_4]) (st' := [.inl t4.1]) (m' := t4.2) (by decide +kernel) rfl ?_
  exact go_iret h.1 h.2.2.2.2 (by decide +kernel)
theorem ctr_X0_netOf (l : Launch) (A : AR → Nat) (dC : Nat → ClassId) (dI : Nat → Nat → Nat) (cs : Nat → ClassId) (w : Nat) (x1 : Int32) (m : Mem) : Ctr l A dC dI cs yX0_netOf prog_2_method_17_code 4 (some .int) 0 puI [.inr (.inr (7, w)), .inl x1] m (f_X0_netOf w x1 m) :=
  ctr_of (P := P_X0) (by decide +kernel) rfl pt_X0 rfl rfl (fun X hC _ _ _ _ _ hR h0 h1 hr => g_X0_netOf ⟨hC, hR, h0, h1, hr⟩ w x1 m)

def f_X0_fewestPayments_j113 (w : Nat) (next : Int32 × Mem → Option (Int32 × Mem)) (exit : Mem → Option (Int32 × Mem)) (x1 : Int32) (x2 : Int32) (x3 : Int32) (m : Mem) : Option (Int32 × Mem) :=
  next ((x3 + (1 : Int32)), m)
theorem g_X0_fewestPayments_j113 {X : XT} (h : MX X prog_2_method_16_code P_X0 1 (some .int)) (w : Nat) (next : Int32 × Mem → Option (Int32 × Mem)) (exit : Mem → Option (Int32 × Mem)) (x1 : Int32) (x2 : Int32) (x3 : Int32) (m : Mem) (o4 : Option AV) (hn : ∀ (s : Int32 × Mem) (o4 : Option AV), Go X (Em X puI) 48 [some (.inr (.inr (7, w))), some (.inl x1), some (.inl x2), some (.inl s.1), o4] [] s.2 (next s)) (hx : ∀ (t : Mem) (o3 : Option AV) (o4 : Option AV), Go X (Em X puI) 119 [some (.inr (.inr (7, w))), some (.inl x1), some (.inl x2), o3, o4] [] t (exit t)) : Go X (Em X puI) 113 [some (.inr (.inr (7, w))), some (.inl x1), some (.inl x2), some (.inl x3), o4] [] m (f_X0_fewestPayments_j113 w next exit x1 x2 x3 m) := by
  unfold f_X0_fewestPayments_j113
  refine go_blk h.1 (is := [.iinc 3 1]) (pc' := 116) (ls' := [some (.inr (.inr (7, w))), some (.inl x1), some (.inl x2), some (.inl (x3 + (1 : Int32))), o4]) (st' := []) (m' := m) (by decide +kernel) rfl ?_
  refine go_goto h.1 (off := -68) 48 (by decide +kernel) (by decide) ?_
  exact hn ((x3 + (1 : Int32)), m) (o4)

def f_X0_fewestPayments_b48 (w : Nat) (x1 : Int32) (x2 : Int32) (next : Int32 × Mem → Option (Int32 × Mem)) (exit : Mem → Option (Int32 × Mem)) (s : Int32 × Mem) : Option (Int32 × Mem) :=
  if (s.2 7 w 8) ≤ s.1 then
    exit (s.2)
  else
    if ((x2 >>> (s.1 &&& 31)) &&& (1 : Int32)) = (1 : Int32) then
      if inB (x2 ^^^ ((1 : Int32) <<< (s.1 &&& 31))) 32 = true then
        bnd (f_X0_netOf w s.1 s.2) (fun r86 m86 =>
          if inB x2 32 = true then
            if inB x2 32 = true then
              if inB (x2 ^^^ ((1 : Int32) <<< (s.1 &&& 31))) 32 = true then
                if inB x2 32 = true then
                  f_X0_fewestPayments_j113 w next exit x1 x2 s.1 (mset (mset m86 16 w (ix x2) ((s.2 16 w (ix (x2 ^^^ ((1 : Int32) <<< (s.1 &&& 31))))) + r86)) 15 w (ix x2) (if (m86 15 w (ix x2)) < (m86 15 w (ix (x2 ^^^ ((1 : Int32) <<< (s.1 &&& 31))))) then (m86 15 w (ix (x2 ^^^ ((1 : Int32) <<< (s.1 &&& 31))))) else (m86 15 w (ix x2))))
                else none
              else none
            else none
          else none)
      else none
    else
      f_X0_fewestPayments_j113 w next exit x1 x2 s.1 s.2
theorem g_X0_fewestPayments_b48 {X : XT} (h : MX X prog_2_method_16_code P_X0 1 (some .int)) (w : Nat) (x1 : Int32) (x2 : Int32) (next : Int32 × Mem → Option (Int32 × Mem)) (exit : Mem → Option (Int32 × Mem)) (hn : ∀ (s : Int32 × Mem) (o4 : Option AV), Go X (Em X puI) 48 [some (.inr (.inr (7, w))), some (.inl x1), some (.inl x2), some (.inl s.1), o4] [] s.2 (next s)) (hx : ∀ (t : Mem) (o3 : Option AV) (o4 : Option AV), Go X (Em X puI) 119 [some (.inr (.inr (7, w))), some (.inl x1), some (.inl x2), o3, o4] [] t (exit t)) (s : Int32 × Mem) (o4 : Option AV) : Go X (Em X puI) 48 [some (.inr (.inr (7, w))), some (.inl x1), some (.inl x2), some (.inl s.1), o4] [] s.2 (f_X0_fewestPayments_b48 w x1 x2 next exit s) := by
  unfold f_X0_fewestPayments_b48
  refine go_blk h.1 (is := [.iload_n 3, .aload_n 0, .getfield 44]) (pc' := 53) (ls' := [some (.inr (.inr (7, w))), some (.inl x1), some (.inl x2), some (.inl s.1), o4]) (st' := [.inl (s.2 7 w 8), .inl s.1]) (m' := s.2) (by decide +kernel) rfl ?_
  refine go_icmpge h.1 (off := 66) 119 (by decide +kernel) (by decide) (fun c53 => ?_) (fun c53 => ?_)
  · exact hx (s.2) (some (.inl s.1)) (o4)
  · refine go_blk h.1 (is := [.iload_n 2, .iload_n 3, .ishr, .iconst 1, .iand, .iconst 1]) (pc' := 62) (ls' := [some (.inr (.inr (7, w))), some (.inl x1), some (.inl x2), some (.inl s.1), o4]) (st' := [.inl (1 : Int32), .inl ((x2 >>> (s.1 &&& 31)) &&& (1 : Int32))]) (m' := s.2) (by decide +kernel) rfl ?_
    refine go_icmpne h.1 (off := 51) 113 (by decide +kernel) (by decide) (fun c62 => ?_) (fun c62 => ?_)
    · exact g_X0_fewestPayments_j113 h w next exit x1 x2 s.1 s.2 (o4) hn hx
    · refine go_blk h.1 (is := [.iload_n 2, .iconst 1, .iload_n 3, .ishl, .ixor, .istore 4, .aload_n 0, .getfield 35, .iload_n 2, .aload_n 0, .getfield 35, .iload 4]) (pc' := 83) (ls' := [some (.inr (.inr (7, w))), some (.inl x1), some (.inl x2), some (.inl s.1), some (.inl (x2 ^^^ ((1 : Int32) <<< (s.1 &&& 31))))]) (st' := [.inl (x2 ^^^ ((1 : Int32) <<< (s.1 &&& 31))), .inr (.inr (16, w)), .inl x2, .inr (.inr (16, w))]) (m' := s.2) (by decide +kernel) rfl ?_
      refine go_iald h.1 (by decide +kernel) rfl rfl (fun b83 => ?_)
      show Go X (Em X puI) 84 [some (.inr (.inr (7, w))), some (.inl x1), some (.inl x2), some (.inl s.1), some (.inl (x2 ^^^ ((1 : Int32) <<< (s.1 &&& 31))))] [.inl (s.2 16 w (ix (x2 ^^^ ((1 : Int32) <<< (s.1 &&& 31))))), .inl x2, .inr (.inr (16, w))] s.2 _
      refine go_blk h.1 (is := [.aload_n 0, .iload_n 3]) (pc' := 86) (ls' := [some (.inr (.inr (7, w))), some (.inl x1), some (.inl x2), some (.inl s.1), some (.inl (x2 ^^^ ((1 : Int32) <<< (s.1 &&& 31))))]) (st' := [.inl s.1, .inr (.inr (7, w)), .inl (s.2 16 w (ix (x2 ^^^ ((1 : Int32) <<< (s.1 &&& 31))))), .inl x2, .inr (.inr (16, w))]) (m' := s.2) (by decide +kernel) rfl ?_
      refine go_callV h.1 (index := 132) (n := 1) (t := 7) (i := w) (ci := 0) (nf := 14) (cz := (RX0, TX0, 14)) (as := [.inl s.1]) (rest := [.inl (s.2 16 w (ix (x2 ^^^ ((1 : Int32) <<< (s.1 &&& 31))))), .inl x2, .inr (.inr (16, w))]) (ctr_X0_netOf (xl X) (xA X) (xC X) (xI X) (xk X) w s.1 s.2) (by decide +kernel) rfl rfl wd_v_X0_132 rfl (h.room (by first | decide | omega) (by decide)) h.cl (Nat.le_of_ble_eq_true rfl) puI_ok rfl (fun r86 m86 _ => ?_)
      show Go X (Em X puI) 89 [some (.inr (.inr (7, w))), some (.inl x1), some (.inl x2), some (.inl s.1), some (.inl (x2 ^^^ ((1 : Int32) <<< (s.1 &&& 31))))] [.inl r86, .inl (s.2 16 w (ix (x2 ^^^ ((1 : Int32) <<< (s.1 &&& 31))))), .inl x2, .inr (.inr (16, w))] m86 _
      refine go_blk h.1 (is := [.iadd]) (pc' := 90) (ls' := [some (.inr (.inr (7, w))), some (.inl x1), some (.inl x2), some (.inl s.1), some (.inl (x2 ^^^ ((1 : Int32) <<< (s.1 &&& 31))))]) (st' := [.inl ((s.2 16 w (ix (x2 ^^^ ((1 : Int32) <<< (s.1 &&& 31))))) + r86), .inl x2, .inr (.inr (16, w))]) (m' := m86) (by decide +kernel) rfl ?_
      refine go_iast h.1 (by decide +kernel) rfl rfl (fun b90 => ?_)
      refine go_blk h.1 (is := [.aload_n 0, .getfield 32, .iload_n 2, .aload_n 0, .getfield 32, .iload_n 2]) (pc' := 101) (ls' := [some (.inr (.inr (7, w))), some (.inl x1), some (.inl x2), some (.inl s.1), some (.inl (x2 ^^^ ((1 : Int32) <<< (s.1 &&& 31))))]) (st' := [.inl x2, .inr (.inr (15, w)), .inl x2, .inr (.inr (15, w))]) (m' := (mset m86 16 w (ix x2) ((s.2 16 w (ix (x2 ^^^ ((1 : Int32) <<< (s.1 &&& 31))))) + r86))) (by decide +kernel) rfl ?_
      refine go_iald h.1 (by decide +kernel) rfl rfl (fun b101 => ?_)
      show Go X (Em X puI) 102 [some (.inr (.inr (7, w))), some (.inl x1), some (.inl x2), some (.inl s.1), some (.inl (x2 ^^^ ((1 : Int32) <<< (s.1 &&& 31))))] [.inl (m86 15 w (ix x2)), .inl x2, .inr (.inr (15, w))] (mset m86 16 w (ix x2) ((s.2 16 w (ix (x2 ^^^ ((1 : Int32) <<< (s.1 &&& 31))))) + r86)) _
      refine go_blk h.1 (is := [.aload_n 0, .getfield 32, .iload 4]) (pc' := 108) (ls' := [some (.inr (.inr (7, w))), some (.inl x1), some (.inl x2), some (.inl s.1), some (.inl (x2 ^^^ ((1 : Int32) <<< (s.1 &&& 31))))]) (st' := [.inl (x2 ^^^ ((1 : Int32) <<< (s.1 &&& 31))), .inr (.inr (15, w)), .inl (m86 15 w (ix x2)), .inl x2, .inr (.inr (15, w))]) (m' := (mset m86 16 w (ix x2) ((s.2 16 w (ix (x2 ^^^ ((1 : Int32) <<< (s.1 &&& 31))))) + r86))) (by decide +kernel) rfl ?_
      refine go_iald h.1 (by decide +kernel) rfl rfl (fun b108 => ?_)
      show Go X (Em X puI) 109 [some (.inr (.inr (7, w))), some (.inl x1), some (.inl x2), some (.inl s.1), some (.inl (x2 ^^^ ((1 : Int32) <<< (s.1 &&& 31))))] [.inl (m86 15 w (ix (x2 ^^^ ((1 : Int32) <<< (s.1 &&& 31))))), .inl (m86 15 w (ix x2)), .inl x2, .inr (.inr (15, w))] (mset m86 16 w (ix x2) ((s.2 16 w (ix (x2 ^^^ ((1 : Int32) <<< (s.1 &&& 31))))) + r86)) _
      refine go_max h (index := 135) (by first | decide | omega) (by decide +kernel) wd_ml_X0_135 wd_st_max wd_in_Math wd_co_max (Nat.le_of_ble_eq_true rfl) ?_
      show Go X (Em X puI) 112 [some (.inr (.inr (7, w))), some (.inl x1), some (.inl x2), some (.inl s.1), some (.inl (x2 ^^^ ((1 : Int32) <<< (s.1 &&& 31))))] [.inl (if (m86 15 w (ix x2)) < (m86 15 w (ix (x2 ^^^ ((1 : Int32) <<< (s.1 &&& 31))))) then (m86 15 w (ix (x2 ^^^ ((1 : Int32) <<< (s.1 &&& 31))))) else (m86 15 w (ix x2))), .inl x2, .inr (.inr (15, w))] (mset m86 16 w (ix x2) ((s.2 16 w (ix (x2 ^^^ ((1 : Int32) <<< (s.1 &&& 31))))) + r86)) _
      refine go_iast h.1 (by decide +kernel) rfl rfl (fun b112 => ?_)
      exact g_X0_fewestPayments_j113 h w next exit x1 x2 s.1 (mset (mset m86 16 w (ix x2) ((s.2 16 w (ix (x2 ^^^ ((1 : Int32) <<< (s.1 &&& 31))))) + r86)) 15 w (ix x2) (if (m86 15 w (ix x2)) < (m86 15 w (ix (x2 ^^^ ((1 : Int32) <<< (s.1 &&& 31))))) then (m86 15 w (ix (x2 ^^^ ((1 : Int32) <<< (s.1 &&& 31))))) else (m86 15 w (ix x2)))) (some (.inl (x2 ^^^ ((1 : Int32) <<< (s.1 &&& 31))))) hn hx

def f_X0_fewestPayments_j138 (w : Nat) (next : Int32 × Mem → Option (Int32 × Mem)) (exit : Mem → Option (Int32 × Mem)) (x1 : Int32) (x2 : Int32) (m : Mem) : Option (Int32 × Mem) :=
  next ((x2 + (1 : Int32)), m)
theorem g_X0_fewestPayments_j138 {X : XT} (h : MX X prog_2_method_16_code P_X0 1 (some .int)) (w : Nat) (next : Int32 × Mem → Option (Int32 × Mem)) (exit : Mem → Option (Int32 × Mem)) (x1 : Int32) (x2 : Int32) (m : Mem) (o3 : Option AV) (o4 : Option AV) (hn : ∀ (s : Int32 × Mem) (o3 : Option AV) (o4 : Option AV), Go X (Em X puI) 25 [some (.inr (.inr (7, w))), some (.inl x1), some (.inl s.1), o3, o4] [] s.2 (next s)) (hx : ∀ (t : Mem) (o2 : Option AV) (o3 : Option AV) (o4 : Option AV), Go X (Em X puI) 144 [some (.inr (.inr (7, w))), some (.inl x1), o2, o3, o4] [] t (exit t)) : Go X (Em X puI) 138 [some (.inr (.inr (7, w))), some (.inl x1), some (.inl x2), o3, o4] [] m (f_X0_fewestPayments_j138 w next exit x1 x2 m) := by
  unfold f_X0_fewestPayments_j138
  refine go_blk h.1 (is := [.iinc 2 1]) (pc' := 141) (ls' := [some (.inr (.inr (7, w))), some (.inl x1), some (.inl (x2 + (1 : Int32))), o3, o4]) (st' := []) (m' := m) (by decide +kernel) rfl ?_
  refine go_goto h.1 (off := -116) 25 (by decide +kernel) (by decide) ?_
  exact hn ((x2 + (1 : Int32)), m) (o3) (o4)

def f_X0_fewestPayments_b25 (w : Nat) (x1 : Int32) (next : Int32 × Mem → Option (Int32 × Mem)) (exit : Mem → Option (Int32 × Mem)) (s : Int32 × Mem) : Option (Int32 × Mem) :=
  if x1 < s.1 then
    exit (s.2)
  else
    if (32 : Int32) ≤ s.1 then
      exit (s.2)
    else
      if inB s.1 32 = true then
        lpk (f_X0_fewestPayments_b48 w x1 s.1) fuelN ((0 : Int32), (mset s.2 15 w (ix s.1) (0 : Int32))) (fun t48 =>
          if inB s.1 32 = true then
            if (t48 16 w (ix s.1)) = 0 then
              if inB s.1 32 = true then
                if inB s.1 32 = true then
                  f_X0_fewestPayments_j138 w next exit x1 s.1 (mset t48 15 w (ix s.1) ((t48 15 w (ix s.1)) + (1 : Int32)))
                else none
              else none
            else
              f_X0_fewestPayments_j138 w next exit x1 s.1 t48
          else none)
      else none
theorem g_X0_fewestPayments_b25 {X : XT} (h : MX X prog_2_method_16_code P_X0 1 (some .int)) (w : Nat) (x1 : Int32) (next : Int32 × Mem → Option (Int32 × Mem)) (exit : Mem → Option (Int32 × Mem)) (hn : ∀ (s : Int32 × Mem) (o3 : Option AV) (o4 : Option AV), Go X (Em X puI) 25 [some (.inr (.inr (7, w))), some (.inl x1), some (.inl s.1), o3, o4] [] s.2 (next s)) (hx : ∀ (t : Mem) (o2 : Option AV) (o3 : Option AV) (o4 : Option AV), Go X (Em X puI) 144 [some (.inr (.inr (7, w))), some (.inl x1), o2, o3, o4] [] t (exit t)) (s : Int32 × Mem) (o3 : Option AV) (o4 : Option AV) : Go X (Em X puI) 25 [some (.inr (.inr (7, w))), some (.inl x1), some (.inl s.1), o3, o4] [] s.2 (f_X0_fewestPayments_b25 w x1 next exit s) := by
  unfold f_X0_fewestPayments_b25
  refine go_blk h.1 (is := [.iload_n 2, .iload_n 1]) (pc' := 27) (ls' := [some (.inr (.inr (7, w))), some (.inl x1), some (.inl s.1), o3, o4]) (st' := [.inl x1, .inl s.1]) (m' := s.2) (by decide +kernel) rfl ?_
  refine go_icmpgt h.1 (off := 117) 144 (by decide +kernel) (by decide) (fun c27 => ?_) (fun c27 => ?_)
  · exact hx (s.2) (some (.inl s.1)) (o3) (o4)
  · refine go_blk h.1 (is := [.iload_n 2, .aload_n 0, .getfield 32]) (pc' := 35) (ls' := [some (.inr (.inr (7, w))), some (.inl x1), some (.inl s.1), o3, o4]) (st' := [.inr (.inr (15, w)), .inl s.1]) (m' := s.2) (by decide +kernel) rfl ?_
    refine go_alen h.1 (by decide +kernel) rfl rfl ?_
    show Go X (Em X puI) 36 [some (.inr (.inr (7, w))), some (.inl x1), some (.inl s.1), o3, o4] [.inl (32 : Int32), .inl s.1] s.2 _
    refine go_icmpge h.1 (off := 108) 144 (by decide +kernel) (by decide) (fun c36 => ?_) (fun c36 => ?_)
    · exact hx (s.2) (some (.inl s.1)) (o3) (o4)
    · refine go_blk h.1 (is := [.aload_n 0, .getfield 32, .iload_n 2, .iconst 0]) (pc' := 45) (ls' := [some (.inr (.inr (7, w))), some (.inl x1), some (.inl s.1), o3, o4]) (st' := [.inl (0 : Int32), .inl s.1, .inr (.inr (15, w))]) (m' := s.2) (by decide +kernel) rfl ?_
      refine go_iast h.1 (by decide +kernel) rfl rfl (fun b45 => ?_)
      refine go_blk h.1 (is := [.iconst 0, .istore_n 3]) (pc' := 48) (ls' := [some (.inr (.inr (7, w))), some (.inl x1), some (.inl s.1), some (.inl (0 : Int32)), o4]) (st' := []) (m' := (mset s.2 15 w (ix s.1) (0 : Int32))) (by decide +kernel) rfl ?_
      refine go_loop (hd := fun (s48 : Int32 × Mem) o => ∀ (o4 : Option AV), Go X (Em X puI) 48 [some (.inr (.inr (7, w))), some (.inl x1), some (.inl s.1), some (.inl s48.1), o4] [] s48.2 o) (fun s _ => go_none) (fun s48 nx_ hn_ => g_X0_fewestPayments_b48 h w x1 s.1 nx_ _ hn_ ?_ s48) fuelN ((0 : Int32), (mset s.2 15 w (ix s.1) (0 : Int32))) (o4)
      intro t48 o3_48 o4_48
      refine go_blk h.1 (is := [.aload_n 0, .getfield 35, .iload_n 2]) (pc' := 124) (ls' := [some (.inr (.inr (7, w))), some (.inl x1), some (.inl s.1), o3_48, o4_48]) (st' := [.inl s.1, .inr (.inr (16, w))]) (m' := t48) (by decide +kernel) rfl ?_
      refine go_iald h.1 (by decide +kernel) rfl rfl (fun b124 => ?_)
      show Go X (Em X puI) 125 [some (.inr (.inr (7, w))), some (.inl x1), some (.inl s.1), o3_48, o4_48] [.inl (t48 16 w (ix s.1))] t48 _
      refine go_ifne h.1 (off := 13) 138 (by decide +kernel) (by decide) (fun c125 => ?_) (fun c125 => ?_)
      · exact g_X0_fewestPayments_j138 h w next exit x1 s.1 t48 (o3_48) (o4_48) hn hx
      · refine go_blk h.1 (is := [.aload_n 0, .getfield 32, .iload_n 2, .dup2]) (pc' := 134) (ls' := [some (.inr (.inr (7, w))), some (.inl x1), some (.inl s.1), o3_48, o4_48]) (st' := [.inl s.1, .inr (.inr (15, w)), .inl s.1, .inr (.inr (15, w))]) (m' := t48) (by decide +kernel) rfl ?_
        refine go_iald h.1 (by decide +kernel) rfl rfl (fun b134 => ?_)
        show Go X (Em X puI) 135 [some (.inr (.inr (7, w))), some (.inl x1), some (.inl s.1), o3_48, o4_48] [.inl (t48 15 w (ix s.1)), .inl s.1, .inr (.inr (15, w))] t48 _
        refine go_blk h.1 (is := [.iconst 1, .iadd]) (pc' := 137) (ls' := [some (.inr (.inr (7, w))), some (.inl x1), some (.inl s.1), o3_48, o4_48]) (st' := [.inl ((t48 15 w (ix s.1)) + (1 : Int32)), .inl s.1, .inr (.inr (15, w))]) (m' := t48) (by decide +kernel) rfl ?_
        refine go_iast h.1 (by decide +kernel) rfl rfl (fun b137 => ?_)
        exact g_X0_fewestPayments_j138 h w next exit x1 s.1 (mset t48 15 w (ix s.1) ((t48 15 w (ix s.1)) + (1 : Int32))) (o3_48) (o4_48) hn hx

def f_X0_fewestPayments (w : Nat) (m : Mem) : Option (Int32 × Mem) :=
  if inB (0 : Int32) 32 = true then
    if inB (0 : Int32) 32 = true then
      lpk (f_X0_fewestPayments_b25 w (((1 : Int32) <<< ((m 7 w 8) &&& 31)) - (1 : Int32))) fuelN ((1 : Int32), (mset (mset m 15 w (ix (0 : Int32)) (0 : Int32)) 16 w (ix (0 : Int32)) (0 : Int32))) (fun t25 =>
        if inB (((1 : Int32) <<< ((m 7 w 8) &&& 31)) - (1 : Int32)) 32 = true then
          some (((t25 7 w 8) - (t25 15 w (ix (((1 : Int32) <<< ((m 7 w 8) &&& 31)) - (1 : Int32))))), t25)
        else none)
    else none
  else none
theorem g_X0_fewestPayments {X : XT} (h : MX X prog_2_method_16_code P_X0 1 (some .int)) (w : Nat) (m : Mem) : Go X (Em X puI) 0 [some (.inr (.inr (7, w))), none, none, none, none] [] m (f_X0_fewestPayments w m) := by
  unfold f_X0_fewestPayments
  refine go_blk h.1 (is := [.iconst 1, .aload_n 0, .getfield 44, .ishl, .iconst 1, .isub, .istore_n 1, .aload_n 0, .getfield 32, .iconst 0, .iconst 0]) (pc' := 15) (ls' := [some (.inr (.inr (7, w))), some (.inl (((1 : Int32) <<< ((m 7 w 8) &&& 31)) - (1 : Int32))), none, none, none]) (st' := [.inl (0 : Int32), .inl (0 : Int32), .inr (.inr (15, w))]) (m' := m) (by decide +kernel) rfl ?_
  refine go_iast h.1 (by decide +kernel) rfl rfl (fun b15 => ?_)
  refine go_blk h.1 (is := [.aload_n 0, .getfield 35, .iconst 0, .iconst 0]) (pc' := 22) (ls' := [some (.inr (.inr (7, w))), some (.inl (((1 : Int32) <<< ((m 7 w 8) &&& 31)) - (1 : Int32))), none, none, none]) (st' := [.inl (0 : Int32), .inl (0 : Int32), .inr (.inr (16, w))]) (m' := (mset m 15 w (ix (0 : Int32)) (0 : Int32))) (by decide +kernel) rfl ?_
  refine go_iast h.1 (by decide +kernel) rfl rfl (fun b22 => ?_)
  refine go_blk h.1 (is := [.iconst 1, .istore_n 2]) (pc' := 25) (ls' := [some (.inr (.inr (7, w))), some (.inl (((1 : Int32) <<< ((m 7 w 8) &&& 31)) - (1 : Int32))), some (.inl (1 : Int32)), none, none]) (st' := []) (m' := (mset (mset m 15 w (ix (0 : Int32)) (0 : Int32)) 16 w (ix (0 : Int32)) (0 : Int32))) (by decide +kernel) rfl ?_
  refine go_loop (hd := fun (s25 : Int32 × Mem) o => ∀ (o3 : Option AV) (o4 : Option AV), Go X (Em X puI) 25 [some (.inr (.inr (7, w))), some (.inl (((1 : Int32) <<< ((m 7 w 8) &&& 31)) - (1 : Int32))), some (.inl s25.1), o3, o4] [] s25.2 o) (fun s _ _ => go_none) (fun s25 nx_ hn_ => g_X0_fewestPayments_b25 h w (((1 : Int32) <<< ((m 7 w 8) &&& 31)) - (1 : Int32)) nx_ _ hn_ ?_ s25) fuelN ((1 : Int32), (mset (mset m 15 w (ix (0 : Int32)) (0 : Int32)) 16 w (ix (0 : Int32)) (0 : Int32))) (none) (none)
  intro t25 o2_25 o3_25 o4_25
  refine go_blk h.1 (is := [.aload_n 0, .getfield 44, .aload_n 0, .getfield 32, .iload_n 1]) (pc' := 153) (ls' := [some (.inr (.inr (7, w))), some (.inl (((1 : Int32) <<< ((m 7 w 8) &&& 31)) - (1 : Int32))), o2_25, o3_25, o4_25]) (st' := [.inl (((1 : Int32) <<< ((m 7 w 8) &&& 31)) - (1 : Int32)), .inr (.inr (15, w)), .inl (t25 7 w 8)]) (m' := t25) (by decide +kernel) rfl ?_
  refine go_iald h.1 (by decide +kernel) rfl rfl (fun b153 => ?_)
  show Go X (Em X puI) 154 [some (.inr (.inr (7, w))), some (.inl (((1 : Int32) <<< ((m 7 w 8) &&& 31)) - (1 : Int32))), o2_25, o3_25, o4_25] [.inl (t25 15 w (ix (((1 : Int32) <<< ((m 7 w 8) &&& 31)) - (1 : Int32)))), .inl (t25 7 w 8)] t25 _
  refine go_blk h.1 (is := [.isub]) (pc' := 155) (ls' := [some (.inr (.inr (7, w))), some (.inl (((1 : Int32) <<< ((m 7 w 8) &&& 31)) - (1 : Int32))), o2_25, o3_25, o4_25]) (st' := [.inl ((t25 7 w 8) - (t25 15 w (ix (((1 : Int32) <<< ((m 7 w 8) &&& 31)) - (1 : Int32)))))]) (m' := t25) (by decide +kernel) rfl ?_
  exact go_iret h.1 h.2.2.2.2 (by decide +kernel)
theorem ctr_X0_fewestPayments (l : Launch) (A : AR → Nat) (dC : Nat → ClassId) (dI : Nat → Nat → Nat) (cs : Nat → ClassId) (w : Nat) (m : Mem) : Ctr l A dC dI cs yX0_fewestPayments prog_2_method_16_code 5 (some .int) 1 puI [.inr (.inr (7, w))] m (f_X0_fewestPayments w m) :=
  ctr_of (P := P_X0) (by decide +kernel) rfl pt_X0 rfl rfl (fun X hC _ _ _ _ _ hR h0 h1 hr => g_X0_fewestPayments ⟨hC, hR, h0, h1, hr⟩ w m)

def f_X6_payments (x1 : Int32) (x2 : Int32) (x3 : Int32) (x4 : Int32) (m : Mem) : Option (Int32 × Mem) :=
  bnd (f_X6_refusalOf x1 x2 x3 x4 (1 : Int32) m) (fun r7 m7 =>
    if r7 = 0 then
      bnd (f_X6_walkAsTold x1 x3 x4 m7) (fun r25 m25 =>
        if r25 = (-9 : Int32) then
          bnd (f_X0_fewestPayments 0 m25) (fun r49 m49 =>
            some (r49, m49))
        else
          some (((-100 : Int32) - r25), m25))
    else
      some (r7, m7))
theorem g_X6_payments {X : XT} (h : MX X prog_1_method_11_code P_X6 6 (some .int)) (x1 : Int32) (x2 : Int32) (x3 : Int32) (x4 : Int32) (m : Mem) : Go X (Em X puI) 0 [some (.inr (.inr (0, 0))), some (.inl x1), some (.inl x2), some (.inl x3), some (.inl x4), none, none] [] m (f_X6_payments x1 x2 x3 x4 m) := by
  unfold f_X6_payments
  refine go_blk h.1 (is := [.aload_n 0, .iload_n 1, .iload_n 2, .iload_n 3, .iload 4, .iconst 1]) (pc' := 7) (ls' := [some (.inr (.inr (0, 0))), some (.inl x1), some (.inl x2), some (.inl x3), some (.inl x4), none, none]) (st' := [.inl (1 : Int32), .inl x4, .inl x3, .inl x2, .inl x1, .inr (.inr (0, 0))]) (m' := m) (by decide +kernel) rfl ?_
  refine go_callV h.1 (index := 121) (n := 5) (t := 0) (i := 0) (ci := 6) (nf := 7) (cz := (RX6, TX6, 7)) (as := [.inl x1, .inl x2, .inl x3, .inl x4, .inl (1 : Int32)]) (rest := []) (ctr_X6_refusalOf (xl X) (xA X) (xC X) (xI X) (xk X) x1 x2 x3 x4 (1 : Int32) m) (by decide +kernel) rfl rfl wd_v_X6_121 rfl (h.room (by first | decide | omega) (by decide)) h.cl (Nat.le_of_ble_eq_true rfl) puI_ok rfl (fun r7 m7 _ => ?_)
  show Go X (Em X puI) 10 [some (.inr (.inr (0, 0))), some (.inl x1), some (.inl x2), some (.inl x3), some (.inl x4), none, none] [.inl r7] m7 _
  refine go_blk h.1 (is := [.istore 5, .iload 5]) (pc' := 14) (ls' := [some (.inr (.inr (0, 0))), some (.inl x1), some (.inl x2), some (.inl x3), some (.inl x4), some (.inl r7), none]) (st' := [.inl r7]) (m' := m7) (by decide +kernel) rfl ?_
  refine go_ifeq h.1 (off := 6) 20 (by decide +kernel) (by decide) (fun c14 => ?_) (fun c14 => ?_)
  · refine go_blk h.1 (is := [.aload_n 0, .iload_n 1, .iload_n 3, .iload 4]) (pc' := 25) (ls' := [some (.inr (.inr (0, 0))), some (.inl x1), some (.inl x2), some (.inl x3), some (.inl x4), some (.inl r7), none]) (st' := [.inl x4, .inl x3, .inl x1, .inr (.inr (0, 0))]) (m' := m7) (by decide +kernel) rfl ?_
    refine go_callV h.1 (index := 125) (n := 3) (t := 0) (i := 0) (ci := 6) (nf := 7) (cz := (RX6, TX6, 7)) (as := [.inl x1, .inl x3, .inl x4]) (rest := []) (ctr_X6_walkAsTold (xl X) (xA X) (xC X) (xI X) (xk X) x1 x3 x4 m7) (by decide +kernel) rfl rfl wd_v_X6_125 rfl (h.room (by first | decide | omega) (by decide)) h.cl (Nat.le_of_ble_eq_true rfl) puI_ok rfl (fun r25 m25 _ => ?_)
    show Go X (Em X puI) 28 [some (.inr (.inr (0, 0))), some (.inl x1), some (.inl x2), some (.inl x3), some (.inl x4), some (.inl r7), none] [.inl r25] m25 _
    refine go_blk h.1 (is := [.istore 6, .iload 6, .bipush (-9)]) (pc' := 34) (ls' := [some (.inr (.inr (0, 0))), some (.inl x1), some (.inl x2), some (.inl x3), some (.inl x4), some (.inl r7), some (.inl r25)]) (st' := [.inl (-9 : Int32), .inl r25]) (m' := m25) (by decide +kernel) rfl ?_
    refine go_icmpeq h.1 (off := 11) 45 (by decide +kernel) (by decide) (fun c34 => ?_) (fun c34 => ?_)
    · refine go_blk h.1 (is := [.aload_n 0, .getfield 28]) (pc' := 49) (ls' := [some (.inr (.inr (0, 0))), some (.inl x1), some (.inl x2), some (.inl x3), some (.inl x4), some (.inl r7), some (.inl r25)]) (st' := [.inr (.inr (7, 0))]) (m' := m25) (by decide +kernel) rfl ?_
      refine go_callV h.1 (index := 167) (n := 0) (t := 7) (i := 0) (ci := 0) (nf := 14) (cz := (RX0, TX0, 14)) (as := []) (rest := []) (ctr_X0_fewestPayments (xl X) (xA X) (xC X) (xI X) (xk X) 0 m25) (by decide +kernel) rfl rfl wd_v_X6_167 rfl (h.room (by first | decide | omega) (by decide)) h.cl (Nat.le_of_ble_eq_true rfl) puI_ok rfl (fun r49 m49 _ => ?_)
      show Go X (Em X puI) 52 [some (.inr (.inr (0, 0))), some (.inl x1), some (.inl x2), some (.inl x3), some (.inl x4), some (.inl r7), some (.inl r25)] [.inl r49] m49 _
      exact go_iret h.1 h.2.2.2.2 (by decide +kernel)
    · refine go_blk h.1 (is := [.bipush (-100), .iload 6, .isub]) (pc' := 42) (ls' := [some (.inr (.inr (0, 0))), some (.inl x1), some (.inl x2), some (.inl x3), some (.inl x4), some (.inl r7), some (.inl r25)]) (st' := [.inl ((-100 : Int32) - r25)]) (m' := m25) (by decide +kernel) rfl ?_
      refine go_goto h.1 (off := 10) 52 (by decide +kernel) (by decide) ?_
      exact go_iret h.1 h.2.2.2.2 (by decide +kernel)
  · refine go_blk h.1 (is := [.iload 5]) (pc' := 19) (ls' := [some (.inr (.inr (0, 0))), some (.inl x1), some (.inl x2), some (.inl x3), some (.inl x4), some (.inl r7), none]) (st' := [.inl r7]) (m' := m7) (by decide +kernel) rfl ?_
    exact go_iret h.1 h.2.2.2.2 (by decide +kernel)
theorem ctr_X6_payments (l : Launch) (A : AR → Nat) (dC : Nat → ClassId) (dI : Nat → Nat → Nat) (cs : Nat → ClassId) (x1 : Int32) (x2 : Int32) (x3 : Int32) (x4 : Int32) (m : Mem) : Ctr l A dC dI cs yX6_payments prog_1_method_11_code 7 (some .int) 6 puI [.inr (.inr (0, 0)), .inl x1, .inl x2, .inl x3, .inl x4] m (f_X6_payments x1 x2 x3 x4 m) :=
  ctr_of (P := P_X6) (by decide +kernel) rfl pt_X6 rfl rfl (fun X hC _ _ _ _ _ hR h0 h1 hr => g_X6_payments ⟨hC, hR, h0, h1, hr⟩ x1 x2 x3 x4 m)

def f_X6_wants_b24 (x1 : Int32) (x2 : Int32) (x4 : Int32) (x5 : Int32) (next : Int32 × Mem → Option (Int32 × Mem)) (exit : Mem → Option (Int32 × Mem)) (s : Int32 × Mem) : Option (Int32 × Mem) :=
  if (99 : Int32) < s.1 then
    exit (s.2)
  else
    bnd (f_X0_start 0 s.2) (fun _ m39 =>
      if inB x1 5 = true then
        if inB x1 5 = true then
          if inB x2 4 = true then
            bnd (f_X0_walk 0 (ix x2) x4 x5 (mset m39 10 0 (ix x1) ((m39 10 0 (ix x1)) + s.1))) (fun r70 m70 =>
              if r70 = (-9 : Int32) then
                some (s.1, m70)
              else
                next ((s.1 + (1 : Int32)), m70))
          else none
        else none
      else none)
theorem g_X6_wants_b24 {X : XT} (h : MX X prog_1_method_12_code P_X6 5 (some .int)) (x1 : Int32) (x2 : Int32) (x4 : Int32) (x5 : Int32) (next : Int32 × Mem → Option (Int32 × Mem)) (exit : Mem → Option (Int32 × Mem)) (hn : ∀ (s : Int32 × Mem) (o3 : Option AV) (o6 : Option AV), Go X (Em X puI) 24 [some (.inr (.inr (0, 0))), some (.inl x1), some (.inl x2), o3, some (.inl x4), some (.inl x5), o6, some (.inl s.1)] [] s.2 (next s)) (hx : ∀ (t : Mem) (o0 : Option AV) (o1 : Option AV) (o2 : Option AV) (o3 : Option AV) (o4 : Option AV) (o5 : Option AV) (o6 : Option AV) (o7 : Option AV), Go X (Em X puI) 87 [o0, o1, o2, o3, o4, o5, o6, o7] [] t (exit t)) (s : Int32 × Mem) (o3 : Option AV) (o6 : Option AV) : Go X (Em X puI) 24 [some (.inr (.inr (0, 0))), some (.inl x1), some (.inl x2), o3, some (.inl x4), some (.inl x5), o6, some (.inl s.1)] [] s.2 (f_X6_wants_b24 x1 x2 x4 x5 next exit s) := by
  unfold f_X6_wants_b24
  refine go_blk h.1 (is := [.iload 7, .bipush 99]) (pc' := 28) (ls' := [some (.inr (.inr (0, 0))), some (.inl x1), some (.inl x2), o3, some (.inl x4), some (.inl x5), o6, some (.inl s.1)]) (st' := [.inl (99 : Int32), .inl s.1]) (m' := s.2) (by decide +kernel) rfl ?_
  refine go_icmpgt h.1 (off := 59) 87 (by decide +kernel) (by decide) (fun c28 => ?_) (fun c28 => ?_)
  · exact hx (s.2) (some (.inr (.inr (0, 0)))) (some (.inl x1)) (some (.inl x2)) (o3) (some (.inl x4)) (some (.inl x5)) (o6) (some (.inl s.1))
  · refine go_blk h.1 (is := [.aload_n 0, .getfield 28, .aload_n 0, .getfield 21]) (pc' := 39) (ls' := [some (.inr (.inr (0, 0))), some (.inl x1), some (.inl x2), o3, some (.inl x4), some (.inl x5), o6, some (.inl s.1)]) (st' := [.inr (.inr (4, 0)), .inr (.inr (7, 0))]) (m' := s.2) (by decide +kernel) rfl ?_
    refine go_callV h.1 (index := 170) (n := 1) (t := 7) (i := 0) (ci := 0) (nf := 14) (cz := (RX0, TX0, 14)) (as := [.inr (.inr (4, 0))]) (rest := []) (ctr_X0_start (xl X) (xA X) (xC X) (xI X) (xk X) 0 s.2) (by decide +kernel) rfl rfl wd_v_X6_170 rfl (h.room (by first | decide | omega) (by decide)) h.cl (Nat.le_of_ble_eq_true rfl) puV_ok rfl (fun r39 m39 _ => ?_)
    show Go X (Em X puI) 42 [some (.inr (.inr (0, 0))), some (.inl x1), some (.inl x2), o3, some (.inl x4), some (.inl x5), o6, some (.inl s.1)] [] m39 _
    refine go_blk h.1 (is := [.aload_n 0, .getfield 28, .getfield 138, .iload_n 1, .dup2]) (pc' := 51) (ls' := [some (.inr (.inr (0, 0))), some (.inl x1), some (.inl x2), o3, some (.inl x4), some (.inl x5), o6, some (.inl s.1)]) (st' := [.inl x1, .inr (.inr (10, 0)), .inl x1, .inr (.inr (10, 0))]) (m' := m39) (by decide +kernel) rfl ?_
    refine go_iald h.1 (by decide +kernel) rfl rfl (fun b51 => ?_)
    show Go X (Em X puI) 52 [some (.inr (.inr (0, 0))), some (.inl x1), some (.inl x2), o3, some (.inl x4), some (.inl x5), o6, some (.inl s.1)] [.inl (m39 10 0 (ix x1)), .inl x1, .inr (.inr (10, 0))] m39 _
    refine go_blk h.1 (is := [.iload 7, .iadd]) (pc' := 55) (ls' := [some (.inr (.inr (0, 0))), some (.inl x1), some (.inl x2), o3, some (.inl x4), some (.inl x5), o6, some (.inl s.1)]) (st' := [.inl ((m39 10 0 (ix x1)) + s.1), .inl x1, .inr (.inr (10, 0))]) (m' := m39) (by decide +kernel) rfl ?_
    refine go_iast h.1 (by decide +kernel) rfl rfl (fun b55 => ?_)
    refine go_blk h.1 (is := [.aload_n 0, .getfield 28, .aload_n 0, .getfield 13, .iload_n 2]) (pc' := 65) (ls' := [some (.inr (.inr (0, 0))), some (.inl x1), some (.inl x2), o3, some (.inl x4), some (.inl x5), o6, some (.inl s.1)]) (st' := [.inl x2, .inr (.inr (1, 0)), .inr (.inr (7, 0))]) (m' := (mset m39 10 0 (ix x1) ((m39 10 0 (ix x1)) + s.1))) (by decide +kernel) rfl ?_
    refine go_aald h.1 (kd := 0) (z := (2, (ix x2))) (by decide +kernel) rfl rfl (by decide) rfl (fun b65 => ?_)
    refine go_blk h.1 (is := [.iload 4, .iload 5]) (pc' := 70) (ls' := [some (.inr (.inr (0, 0))), some (.inl x1), some (.inl x2), o3, some (.inl x4), some (.inl x5), o6, some (.inl s.1)]) (st' := [.inl x5, .inl x4, .inr (.inr (2, (ix x2))), .inr (.inr (7, 0))]) (m' := (mset m39 10 0 (ix x1) ((m39 10 0 (ix x1)) + s.1))) (by decide +kernel) rfl ?_
    refine go_callV h.1 (index := 174) (n := 3) (t := 7) (i := 0) (ci := 0) (nf := 14) (cz := (RX0, TX0, 14)) (as := [.inr (.inr (2, (ix x2))), .inl x4, .inl x5]) (rest := []) (ctr_X0_walk (xl X) (xA X) (xC X) (xI X) (xk X) 0 (ix x2) x4 x5 (mset m39 10 0 (ix x1) ((m39 10 0 (ix x1)) + s.1))) (by decide +kernel) rfl rfl wd_v_X6_174 rfl (h.room (by first | decide | omega) (by decide)) h.cl (Nat.le_of_ble_eq_true rfl) puI_ok rfl (fun r70 m70 _ => ?_)
    show Go X (Em X puI) 73 [some (.inr (.inr (0, 0))), some (.inl x1), some (.inl x2), o3, some (.inl x4), some (.inl x5), o6, some (.inl s.1)] [.inl r70] m70 _
    refine go_blk h.1 (is := [.bipush (-9)]) (pc' := 75) (ls' := [some (.inr (.inr (0, 0))), some (.inl x1), some (.inl x2), o3, some (.inl x4), some (.inl x5), o6, some (.inl s.1)]) (st' := [.inl (-9 : Int32), .inl r70]) (m' := m70) (by decide +kernel) rfl ?_
    refine go_icmpne h.1 (off := 6) 81 (by decide +kernel) (by decide) (fun c75 => ?_) (fun c75 => ?_)
    · refine go_blk h.1 (is := [.iinc 7 1]) (pc' := 84) (ls' := [some (.inr (.inr (0, 0))), some (.inl x1), some (.inl x2), o3, some (.inl x4), some (.inl x5), (clrL o6), some (.inl (s.1 + (1 : Int32)))]) (st' := []) (m' := m70) (by decide +kernel) rfl ?_
      refine go_goto h.1 (off := -60) 24 (by decide +kernel) (by decide) ?_
      exact hn ((s.1 + (1 : Int32)), m70) (o3) ((clrL o6))
    · refine go_blk h.1 (is := [.iload 7]) (pc' := 80) (ls' := [some (.inr (.inr (0, 0))), some (.inl x1), some (.inl x2), o3, some (.inl x4), some (.inl x5), o6, some (.inl s.1)]) (st' := [.inl s.1]) (m' := m70) (by decide +kernel) rfl ?_
      exact go_iret h.1 h.2.2.2.2 (by decide +kernel)

def f_X6_wants (x1 : Int32) (x2 : Int32) (x3 : Int32) (x4 : Int32) (x5 : Int32) (m : Mem) : Option (Int32 × Mem) :=
  bnd (f_X6_refusalWithFish x1 x2 x3 x4 x5 m) (fun r8 m8 =>
    if r8 = 0 then
      lpk (f_X6_wants_b24 x1 x2 x4 x5) fuelN ((0 : Int32), m8) (fun t24 =>
        some ((-9 : Int32), t24))
    else
      some (r8, m8))
theorem g_X6_wants {X : XT} (h : MX X prog_1_method_12_code P_X6 5 (some .int)) (x1 : Int32) (x2 : Int32) (x3 : Int32) (x4 : Int32) (x5 : Int32) (m : Mem) : Go X (Em X puI) 0 [some (.inr (.inr (0, 0))), some (.inl x1), some (.inl x2), some (.inl x3), some (.inl x4), some (.inl x5), none, none] [] m (f_X6_wants x1 x2 x3 x4 x5 m) := by
  unfold f_X6_wants
  refine go_blk h.1 (is := [.aload_n 0, .iload_n 1, .iload_n 2, .iload_n 3, .iload 4, .iload 5]) (pc' := 8) (ls' := [some (.inr (.inr (0, 0))), some (.inl x1), some (.inl x2), some (.inl x3), some (.inl x4), some (.inl x5), none, none]) (st' := [.inl x5, .inl x4, .inl x3, .inl x2, .inl x1, .inr (.inr (0, 0))]) (m' := m) (by decide +kernel) rfl ?_
  refine go_callV h.1 (index := 141) (n := 5) (t := 0) (i := 0) (ci := 6) (nf := 7) (cz := (RX6, TX6, 7)) (as := [.inl x1, .inl x2, .inl x3, .inl x4, .inl x5]) (rest := []) (ctr_X6_refusalWithFish (xl X) (xA X) (xC X) (xI X) (xk X) x1 x2 x3 x4 x5 m) (by decide +kernel) rfl rfl wd_v_X6_141 rfl (h.room (by first | decide | omega) (by decide)) h.cl (Nat.le_of_ble_eq_true rfl) puI_ok rfl (fun r8 m8 _ => ?_)
  show Go X (Em X puI) 11 [some (.inr (.inr (0, 0))), some (.inl x1), some (.inl x2), some (.inl x3), some (.inl x4), some (.inl x5), none, none] [.inl r8] m8 _
  refine go_blk h.1 (is := [.istore 6, .iload 6]) (pc' := 15) (ls' := [some (.inr (.inr (0, 0))), some (.inl x1), some (.inl x2), some (.inl x3), some (.inl x4), some (.inl x5), some (.inl r8), none]) (st' := [.inl r8]) (m' := m8) (by decide +kernel) rfl ?_
  refine go_ifeq h.1 (off := 6) 21 (by decide +kernel) (by decide) (fun c15 => ?_) (fun c15 => ?_)
  · refine go_blk h.1 (is := [.iconst 0, .istore 7]) (pc' := 24) (ls' := [some (.inr (.inr (0, 0))), some (.inl x1), some (.inl x2), some (.inl x3), some (.inl x4), some (.inl x5), some (.inl r8), some (.inl (0 : Int32))]) (st' := []) (m' := m8) (by decide +kernel) rfl ?_
    refine go_loop (hd := fun (s24 : Int32 × Mem) o => ∀ (o3 : Option AV) (o6 : Option AV), Go X (Em X puI) 24 [some (.inr (.inr (0, 0))), some (.inl x1), some (.inl x2), o3, some (.inl x4), some (.inl x5), o6, some (.inl s24.1)] [] s24.2 o) (fun s _ _ => go_none) (fun s24 nx_ hn_ => g_X6_wants_b24 h x1 x2 x4 x5 nx_ _ hn_ ?_ s24) fuelN ((0 : Int32), m8) (some (.inl x3)) (some (.inl r8))
    intro t24 o0_24 o1_24 o2_24 o3_24 o4_24 o5_24 o6_24 o7_24
    refine go_blk h.1 (is := [.bipush (-9)]) (pc' := 89) (ls' := [o0_24, o1_24, o2_24, o3_24, o4_24, o5_24, o6_24, o7_24]) (st' := [.inl (-9 : Int32)]) (m' := t24) (by decide +kernel) rfl ?_
    exact go_iret h.1 h.2.2.2.2 (by decide +kernel)
  · refine go_blk h.1 (is := [.iload 6]) (pc' := 20) (ls' := [some (.inr (.inr (0, 0))), some (.inl x1), some (.inl x2), some (.inl x3), some (.inl x4), some (.inl x5), some (.inl r8), none]) (st' := [.inl r8]) (m' := m8) (by decide +kernel) rfl ?_
    exact go_iret h.1 h.2.2.2.2 (by decide +kernel)
theorem ctr_X6_wants (l : Launch) (A : AR → Nat) (dC : Nat → ClassId) (dI : Nat → Nat → Nat) (cs : Nat → ClassId) (x1 : Int32) (x2 : Int32) (x3 : Int32) (x4 : Int32) (x5 : Int32) (m : Mem) : Ctr l A dC dI cs yX6_wants prog_1_method_12_code 8 (some .int) 5 puI [.inr (.inr (0, 0)), .inl x1, .inl x2, .inl x3, .inl x4, .inl x5] m (f_X6_wants x1 x2 x3 x4 x5 m) :=
  ctr_of (P := P_X6) (by decide +kernel) rfl pt_X6 rfl rfl (fun X hC _ _ _ _ _ hR h0 h1 hr => g_X6_wants ⟨hC, hR, h0, h1, hr⟩ x1 x2 x3 x4 x5 m)

def f_X2_add (x1 : Int32) (x2 : Int32) (m : Mem) : Option (Int32 × Mem) :=
  if (m 20 0 2) < (8 : Int32) then
    if inB (m 20 0 2) 8 = true then
      if inB (m 20 0 2) 8 = true then
        some ((((mset (mset (mset m 21 0 (ix (m 20 0 2)) x1) 22 0 (ix (m 20 0 2)) x2) 20 0 2 ((m 20 0 2) + (1 : Int32))) 20 0 2) - (1 : Int32)), (mset (mset (mset m 21 0 (ix (m 20 0 2)) x1) 22 0 (ix (m 20 0 2)) x2) 20 0 2 ((m 20 0 2) + (1 : Int32))))
      else none
    else none
  else
    some ((-4 : Int32), m)
theorem g_X2_add {X : XT} (h : MX X prog_4_method_2_code P_X2 0 (some .int)) (x1 : Int32) (x2 : Int32) (m : Mem) : Go X (Em X puI) 0 [some (.inr (.inr (20, 0))), some (.inl x1), some (.inl x2)] [] m (f_X2_add x1 x2 m) := by
  unfold f_X2_add
  refine go_blk h.1 (is := [.aload_n 0, .getfield 18, .bipush 8]) (pc' := 6) (ls' := [some (.inr (.inr (20, 0))), some (.inl x1), some (.inl x2)]) (st' := [.inl (8 : Int32), .inl (m 20 0 2)]) (m' := m) (by decide +kernel) rfl ?_
  refine go_icmplt h.1 (off := 6) 12 (by decide +kernel) (by decide) (fun c6 => ?_) (fun c6 => ?_)
  · refine go_blk h.1 (is := [.aload_n 0, .getfield 9, .aload_n 0, .getfield 18, .iload_n 1]) (pc' := 21) (ls' := [some (.inr (.inr (20, 0))), some (.inl x1), some (.inl x2)]) (st' := [.inl x1, .inl (m 20 0 2), .inr (.inr (21, 0))]) (m' := m) (by decide +kernel) rfl ?_
    refine go_iast h.1 (by decide +kernel) rfl rfl (fun b21 => ?_)
    refine go_blk h.1 (is := [.aload_n 0, .getfield 15, .aload_n 0, .getfield 18, .iload_n 2]) (pc' := 31) (ls' := [some (.inr (.inr (20, 0))), some (.inl x1), some (.inl x2)]) (st' := [.inl x2, .inl (m 20 0 2), .inr (.inr (22, 0))]) (m' := (mset m 21 0 (ix (m 20 0 2)) x1)) (by decide +kernel) rfl ?_
    refine go_iast h.1 (by decide +kernel) rfl rfl (fun b31 => ?_)
    refine go_blk h.1 (is := [.aload_n 0, .dup, .getfield 18, .iconst 1, .iadd, .putfield 18, .aload_n 0, .getfield 18, .iconst 1, .isub]) (pc' := 48) (ls' := [some (.inr (.inr (20, 0))), some (.inl x1), some (.inl x2)]) (st' := [.inl (((mset (mset (mset m 21 0 (ix (m 20 0 2)) x1) 22 0 (ix (m 20 0 2)) x2) 20 0 2 ((m 20 0 2) + (1 : Int32))) 20 0 2) - (1 : Int32))]) (m' := (mset (mset (mset m 21 0 (ix (m 20 0 2)) x1) 22 0 (ix (m 20 0 2)) x2) 20 0 2 ((m 20 0 2) + (1 : Int32)))) (by decide +kernel) rfl ?_
    exact go_iret h.1 h.2.2.2.2 (by decide +kernel)
  · refine go_blk h.1 (is := [.bipush (-4)]) (pc' := 11) (ls' := [some (.inr (.inr (20, 0))), some (.inl x1), some (.inl x2)]) (st' := [.inl (-4 : Int32)]) (m' := m) (by decide +kernel) rfl ?_
    exact go_iret h.1 h.2.2.2.2 (by decide +kernel)
theorem ctr_X2_add (l : Launch) (A : AR → Nat) (dC : Nat → ClassId) (dI : Nat → Nat → Nat) (cs : Nat → ClassId) (x1 : Int32) (x2 : Int32) (m : Mem) : Ctr l A dC dI cs yX2_add prog_4_method_2_code 3 (some .int) 0 puI [.inr (.inr (20, 0)), .inl x1, .inl x2] m (f_X2_add x1 x2 m) :=
  ctr_of (P := P_X2) (by decide +kernel) rfl pt_X2 rfl rfl (fun X hC _ _ _ _ _ hR h0 h1 hr => g_X2_add ⟨hC, hR, h0, h1, hr⟩ x1 x2 m)

def f_X6_reading (x1 : Int32) (x2 : Int32) (m : Mem) : Option (Int32 × Mem) :=
  bnd (f_X5_has x1 m) (fun r5 m5 =>
    if r5 = 0 then
      some ((-1 : Int32), m5)
    else
      bnd (f_X6_isWithin x2 (0 : Int32) (99 : Int32) m5) (fun r17 m17 =>
        if r17 = 0 then
          some ((-2 : Int32), m17)
        else
          bnd (f_X2_add x1 x2 m17) (fun r32 m32 =>
            some (r32, m32))))
theorem g_X6_reading {X : XT} (h : MX X prog_1_method_13_code P_X6 1 (some .int)) (x1 : Int32) (x2 : Int32) (m : Mem) : Go X (Em X puI) 0 [some (.inr (.inr (0, 0))), some (.inl x1), some (.inl x2)] [] m (f_X6_reading x1 x2 m) := by
  unfold f_X6_reading
  refine go_blk h.1 (is := [.aload_n 0, .getfield 21, .iload_n 1]) (pc' := 5) (ls' := [some (.inr (.inr (0, 0))), some (.inl x1), some (.inl x2)]) (st' := [.inl x1, .inr (.inr (4, 0))]) (m' := m) (by decide +kernel) rfl ?_
  refine go_callV h.1 (index := 83) (n := 1) (t := 4) (i := 0) (ci := 5) (nf := 4) (cz := (RX5, TX5, 4)) (as := [.inl x1]) (rest := []) (ctr_X5_has (xl X) (xA X) (xC X) (xI X) (xk X) x1 m) (by decide +kernel) rfl rfl wd_v_X6_83 rfl (h.room (by first | decide | omega) (by decide)) h.cl (Nat.le_of_ble_eq_true rfl) puI_ok rfl (fun r5 m5 _ => ?_)
  show Go X (Em X puI) 8 [some (.inr (.inr (0, 0))), some (.inl x1), some (.inl x2)] [.inl r5] m5 _
  refine go_ifne h.1 (off := 5) 13 (by decide +kernel) (by decide) (fun c8 => ?_) (fun c8 => ?_)
  · refine go_blk h.1 (is := [.iload_n 2, .iconst 0, .bipush 99]) (pc' := 17) (ls' := [some (.inr (.inr (0, 0))), some (.inl x1), some (.inl x2)]) (st' := [.inl (99 : Int32), .inl (0 : Int32), .inl x2]) (m' := m5) (by decide +kernel) rfl ?_
    refine go_callS h.1 (index := 111) (n := 3) (as := [.inl x2, .inl (0 : Int32), .inl (99 : Int32)]) (rest := []) (ctr_X6_isWithin (xl X) (xA X) (xC X) (xI X) (xk X) x2 (0 : Int32) (99 : Int32) m5) (by decide +kernel) wd_s_X6_111 rfl (h.room (by first | decide | omega) (by decide)) h.cl (Nat.le_of_ble_eq_true rfl) puI_ok rfl (fun r17 m17 _ => ?_)
    show Go X (Em X puI) 20 [some (.inr (.inr (0, 0))), some (.inl x1), some (.inl x2)] [.inl r17] m17 _
    refine go_ifne h.1 (off := 6) 26 (by decide +kernel) (by decide) (fun c20 => ?_) (fun c20 => ?_)
    · refine go_blk h.1 (is := [.aload_n 0, .getfield 42, .iload_n 1, .iload_n 2]) (pc' := 32) (ls' := [some (.inr (.inr (0, 0))), some (.inl x1), some (.inl x2)]) (st' := [.inl x2, .inl x1, .inr (.inr (20, 0))]) (m' := m17) (by decide +kernel) rfl ?_
      refine go_callV h.1 (index := 177) (n := 2) (t := 20) (i := 0) (ci := 2) (nf := 3) (cz := (RX2, TX2, 3)) (as := [.inl x1, .inl x2]) (rest := []) (ctr_X2_add (xl X) (xA X) (xC X) (xI X) (xk X) x1 x2 m17) (by decide +kernel) rfl rfl wd_v_X6_177 rfl (h.room (by first | decide | omega) (by decide)) h.cl (Nat.le_of_ble_eq_true rfl) puI_ok rfl (fun r32 m32 _ => ?_)
      show Go X (Em X puI) 35 [some (.inr (.inr (0, 0))), some (.inl x1), some (.inl x2)] [.inl r32] m32 _
      exact go_iret h.1 h.2.2.2.2 (by decide +kernel)
    · refine go_blk h.1 (is := [.bipush (-2)]) (pc' := 25) (ls' := [some (.inr (.inr (0, 0))), some (.inl x1), some (.inl x2)]) (st' := [.inl (-2 : Int32)]) (m' := m17) (by decide +kernel) rfl ?_
      exact go_iret h.1 h.2.2.2.2 (by decide +kernel)
  · refine go_blk h.1 (is := [.iconst (-1)]) (pc' := 12) (ls' := [some (.inr (.inr (0, 0))), some (.inl x1), some (.inl x2)]) (st' := [.inl (-1 : Int32)]) (m' := m5) (by decide +kernel) rfl ?_
    exact go_iret h.1 h.2.2.2.2 (by decide +kernel)
theorem ctr_X6_reading (l : Launch) (A : AR → Nat) (dC : Nat → ClassId) (dI : Nat → Nat → Nat) (cs : Nat → ClassId) (x1 : Int32) (x2 : Int32) (m : Mem) : Ctr l A dC dI cs yX6_reading prog_1_method_13_code 3 (some .int) 1 puI [.inr (.inr (0, 0)), .inl x1, .inl x2] m (f_X6_reading x1 x2 m) :=
  ctr_of (P := P_X6) (by decide +kernel) rfl pt_X6 rfl rfl (fun X hC _ _ _ _ _ hR h0 h1 hr => g_X6_reading ⟨hC, hR, h0, h1, hr⟩ x1 x2 m)

def f_X6_back (x1 : Int32) (m : Mem) : Option (Int32 × Mem) :=
  bnd (f_X6_isWithin x1 (0 : Int32) (m 20 0 2) m) (fun r9 m9 =>
    if r9 = 0 then
      some ((-2 : Int32), m9)
    else
      some (((mset m9 20 0 2 ((m9 20 0 2) - x1)) 20 0 2), (mset m9 20 0 2 ((m9 20 0 2) - x1))))
theorem g_X6_back {X : XT} (h : MX X prog_1_method_14_code P_X6 1 (some .int)) (x1 : Int32) (m : Mem) : Go X (Em X puI) 0 [some (.inr (.inr (0, 0))), some (.inl x1)] [] m (f_X6_back x1 m) := by
  unfold f_X6_back
  refine go_blk h.1 (is := [.iload_n 1, .iconst 0, .aload_n 0, .getfield 42, .getfield 76]) (pc' := 9) (ls' := [some (.inr (.inr (0, 0))), some (.inl x1)]) (st' := [.inl (m 20 0 2), .inl (0 : Int32), .inl x1]) (m' := m) (by decide +kernel) rfl ?_
  refine go_callS h.1 (index := 111) (n := 3) (as := [.inl x1, .inl (0 : Int32), .inl (m 20 0 2)]) (rest := []) (ctr_X6_isWithin (xl X) (xA X) (xC X) (xI X) (xk X) x1 (0 : Int32) (m 20 0 2) m) (by decide +kernel) wd_s_X6_111 rfl (h.room (by first | decide | omega) (by decide)) h.cl (Nat.le_of_ble_eq_true rfl) puI_ok rfl (fun r9 m9 _ => ?_)
  show Go X (Em X puI) 12 [some (.inr (.inr (0, 0))), some (.inl x1)] [.inl r9] m9 _
  refine go_ifne h.1 (off := 6) 18 (by decide +kernel) (by decide) (fun c12 => ?_) (fun c12 => ?_)
  · refine go_blk h.1 (is := [.aload_n 0, .getfield 42, .dup, .getfield 76, .iload_n 1, .isub, .putfield 76, .aload_n 0, .getfield 42, .getfield 76]) (pc' := 38) (ls' := [some (.inr (.inr (0, 0))), some (.inl x1)]) (st' := [.inl ((mset m9 20 0 2 ((m9 20 0 2) - x1)) 20 0 2)]) (m' := (mset m9 20 0 2 ((m9 20 0 2) - x1))) (by decide +kernel) rfl ?_
    exact go_iret h.1 h.2.2.2.2 (by decide +kernel)
  · refine go_blk h.1 (is := [.bipush (-2)]) (pc' := 17) (ls' := [some (.inr (.inr (0, 0))), some (.inl x1)]) (st' := [.inl (-2 : Int32)]) (m' := m9) (by decide +kernel) rfl ?_
    exact go_iret h.1 h.2.2.2.2 (by decide +kernel)
theorem ctr_X6_back (l : Launch) (A : AR → Nat) (dC : Nat → ClassId) (dI : Nat → Nat → Nat) (cs : Nat → ClassId) (x1 : Int32) (m : Mem) : Ctr l A dC dI cs yX6_back prog_1_method_14_code 2 (some .int) 1 puI [.inr (.inr (0, 0)), .inl x1] m (f_X6_back x1 m) :=
  ctr_of (P := P_X6) (by decide +kernel) rfl pt_X6 rfl rfl (fun X hC _ _ _ _ _ hR h0 h1 hr => g_X6_back ⟨hC, hR, h0, h1, hr⟩ x1 m)

def f_X2_areSo_b2 (w : Nat) (next : Int32 × Mem → Option (Int32 × Mem)) (exit : Mem → Option (Int32 × Mem)) (s : Int32 × Mem) : Option (Int32 × Mem) :=
  if (s.2 20 0 2) ≤ s.1 then
    exit (s.2)
  else
    if inB s.1 8 = true then
      if inB (s.2 21 0 (ix s.1)) 5 = true then
        if inB s.1 8 = true then
          if (s.2 10 w (ix (s.2 21 0 (ix s.1)))) = (s.2 22 0 (ix s.1)) then
            next ((s.1 + (1 : Int32)), s.2)
          else
            some ((0 : Int32), s.2)
        else none
      else none
    else none
theorem g_X2_areSo_b2 {X : XT} (h : MX X prog_4_method_3_code P_X2 0 (some .boolean)) (w : Nat) (next : Int32 × Mem → Option (Int32 × Mem)) (exit : Mem → Option (Int32 × Mem)) (hn : ∀ (s : Int32 × Mem), Go X (Em X puI) 2 [some (.inr (.inr (20, 0))), some (.inr (.inr (7, w))), some (.inl s.1)] [] s.2 (next s)) (hx : ∀ (t : Mem) (o0 : Option AV) (o1 : Option AV) (o2 : Option AV), Go X (Em X puI) 38 [o0, o1, o2] [] t (exit t)) (s : Int32 × Mem) : Go X (Em X puI) 2 [some (.inr (.inr (20, 0))), some (.inr (.inr (7, w))), some (.inl s.1)] [] s.2 (f_X2_areSo_b2 w next exit s) := by
  unfold f_X2_areSo_b2
  refine go_blk h.1 (is := [.iload_n 2, .aload_n 0, .getfield 18]) (pc' := 7) (ls' := [some (.inr (.inr (20, 0))), some (.inr (.inr (7, w))), some (.inl s.1)]) (st' := [.inl (s.2 20 0 2), .inl s.1]) (m' := s.2) (by decide +kernel) rfl ?_
  refine go_icmpge h.1 (off := 31) 38 (by decide +kernel) (by decide) (fun c7 => ?_) (fun c7 => ?_)
  · exact hx (s.2) (some (.inr (.inr (20, 0)))) (some (.inr (.inr (7, w)))) (some (.inl s.1))
  · refine go_blk h.1 (is := [.aload_n 1, .getfield 22, .aload_n 0, .getfield 9, .iload_n 2]) (pc' := 19) (ls' := [some (.inr (.inr (20, 0))), some (.inr (.inr (7, w))), some (.inl s.1)]) (st' := [.inl s.1, .inr (.inr (21, 0)), .inr (.inr (10, w))]) (m' := s.2) (by decide +kernel) rfl ?_
    refine go_iald h.1 (by decide +kernel) rfl rfl (fun b19 => ?_)
    show Go X (Em X puI) 20 [some (.inr (.inr (20, 0))), some (.inr (.inr (7, w))), some (.inl s.1)] [.inl (s.2 21 0 (ix s.1)), .inr (.inr (10, w))] s.2 _
    refine go_iald h.1 (by decide +kernel) rfl rfl (fun b20 => ?_)
    show Go X (Em X puI) 21 [some (.inr (.inr (20, 0))), some (.inr (.inr (7, w))), some (.inl s.1)] [.inl (s.2 10 w (ix (s.2 21 0 (ix s.1))))] s.2 _
    refine go_blk h.1 (is := [.aload_n 0, .getfield 15, .iload_n 2]) (pc' := 26) (ls' := [some (.inr (.inr (20, 0))), some (.inr (.inr (7, w))), some (.inl s.1)]) (st' := [.inl s.1, .inr (.inr (22, 0)), .inl (s.2 10 w (ix (s.2 21 0 (ix s.1))))]) (m' := s.2) (by decide +kernel) rfl ?_
    refine go_iald h.1 (by decide +kernel) rfl rfl (fun b26 => ?_)
    show Go X (Em X puI) 27 [some (.inr (.inr (20, 0))), some (.inr (.inr (7, w))), some (.inl s.1)] [.inl (s.2 22 0 (ix s.1)), .inl (s.2 10 w (ix (s.2 21 0 (ix s.1))))] s.2 _
    refine go_icmpeq h.1 (off := 5) 32 (by decide +kernel) (by decide) (fun c27 => ?_) (fun c27 => ?_)
    · refine go_blk h.1 (is := [.iinc 2 1]) (pc' := 35) (ls' := [some (.inr (.inr (20, 0))), some (.inr (.inr (7, w))), some (.inl (s.1 + (1 : Int32)))]) (st' := []) (m' := s.2) (by decide +kernel) rfl ?_
      refine go_goto h.1 (off := -33) 2 (by decide +kernel) (by decide) ?_
      exact hn ((s.1 + (1 : Int32)), s.2)
    · refine go_blk h.1 (is := [.iconst 0]) (pc' := 31) (ls' := [some (.inr (.inr (20, 0))), some (.inr (.inr (7, w))), some (.inl s.1)]) (st' := [.inl (0 : Int32)]) (m' := s.2) (by decide +kernel) rfl ?_
      exact go_zret h.1 h.2.2.2.2 (Or.inl rfl) (by decide +kernel)

def f_X2_areSo (w : Nat) (m : Mem) : Option (Int32 × Mem) :=
  lpk (f_X2_areSo_b2 w) fuelN ((0 : Int32), m) (fun t2 =>
    some ((1 : Int32), t2))
theorem g_X2_areSo {X : XT} (h : MX X prog_4_method_3_code P_X2 0 (some .boolean)) (w : Nat) (m : Mem) : Go X (Em X puI) 0 [some (.inr (.inr (20, 0))), some (.inr (.inr (7, w))), none] [] m (f_X2_areSo w m) := by
  unfold f_X2_areSo
  refine go_blk h.1 (is := [.iconst 0, .istore_n 2]) (pc' := 2) (ls' := [some (.inr (.inr (20, 0))), some (.inr (.inr (7, w))), some (.inl (0 : Int32))]) (st' := []) (m' := m) (by decide +kernel) rfl ?_
  refine go_loop (hd := fun (s2 : Int32 × Mem) o => Go X (Em X puI) 2 [some (.inr (.inr (20, 0))), some (.inr (.inr (7, w))), some (.inl s2.1)] [] s2.2 o) (fun s => go_none) (fun s2 nx_ hn_ => g_X2_areSo_b2 h w nx_ _ hn_ ?_ s2) fuelN ((0 : Int32), m)
  intro t2 o0_2 o1_2 o2_2
  refine go_blk h.1 (is := [.iconst 1]) (pc' := 39) (ls' := [o0_2, o1_2, o2_2]) (st' := [.inl (1 : Int32)]) (m' := t2) (by decide +kernel) rfl ?_
  exact go_zret h.1 h.2.2.2.2 (Or.inr rfl) (by decide +kernel)
theorem ctr_X2_areSo (l : Launch) (A : AR → Nat) (dC : Nat → ClassId) (dI : Nat → Nat → Nat) (cs : Nat → ClassId) (w : Nat) (m : Mem) : Ctr l A dC dI cs yX2_areSo prog_4_method_3_code 3 (some .boolean) 0 puI [.inr (.inr (20, 0)), .inr (.inr (7, w))] m (f_X2_areSo w m) :=
  ctr_of (P := P_X2) (by decide +kernel) rfl pt_X2 rfl rfl (fun X hC _ _ _ _ _ hR h0 h1 hr => g_X2_areSo ⟨hC, hR, h0, h1, hr⟩ w m)

def f_X6_fits (x1 : Int32) (x2 : Int32) (x3 : Int32) (m : Mem) : Option (Int32 × Mem) :=
  if inB x1 4 = true then
    bnd (f_X0_walk 0 (ix x1) x2 x3 m) (fun r12 m12 =>
      if r12 = (-9 : Int32) then
        bnd (f_X2_areSo 0 m12) (fun r28 m28 =>
          if r28 = 0 then
            some ((0 : Int32), m28)
          else
            some ((1 : Int32), m28))
      else
        some ((0 : Int32), m12))
  else none
theorem g_X6_fits {X : XT} (h : MX X prog_1_method_41_code P_X6 5 (some .boolean)) (x1 : Int32) (x2 : Int32) (x3 : Int32) (m : Mem) : Go X (Em X puI) 0 [some (.inr (.inr (0, 0))), some (.inl x1), some (.inl x2), some (.inl x3)] [] m (f_X6_fits x1 x2 x3 m) := by
  unfold f_X6_fits
  refine go_blk h.1 (is := [.aload_n 0, .getfield 28, .aload_n 0, .getfield 13, .iload_n 1]) (pc' := 9) (ls' := [some (.inr (.inr (0, 0))), some (.inl x1), some (.inl x2), some (.inl x3)]) (st' := [.inl x1, .inr (.inr (1, 0)), .inr (.inr (7, 0))]) (m' := m) (by decide +kernel) rfl ?_
  refine go_aald h.1 (kd := 0) (z := (2, (ix x1))) (by decide +kernel) rfl rfl (by decide) rfl (fun b9 => ?_)
  refine go_blk h.1 (is := [.iload_n 2, .iload_n 3]) (pc' := 12) (ls' := [some (.inr (.inr (0, 0))), some (.inl x1), some (.inl x2), some (.inl x3)]) (st' := [.inl x3, .inl x2, .inr (.inr (2, (ix x1))), .inr (.inr (7, 0))]) (m' := m) (by decide +kernel) rfl ?_
  refine go_callV h.1 (index := 174) (n := 3) (t := 7) (i := 0) (ci := 0) (nf := 14) (cz := (RX0, TX0, 14)) (as := [.inr (.inr (2, (ix x1))), .inl x2, .inl x3]) (rest := []) (ctr_X0_walk (xl X) (xA X) (xC X) (xI X) (xk X) 0 (ix x1) x2 x3 m) (by decide +kernel) rfl rfl wd_v_X6_174 rfl (h.room (by first | decide | omega) (by decide)) h.cl (Nat.le_of_ble_eq_true rfl) puI_ok rfl (fun r12 m12 _ => ?_)
  show Go X (Em X puI) 15 [some (.inr (.inr (0, 0))), some (.inl x1), some (.inl x2), some (.inl x3)] [.inl r12] m12 _
  refine go_blk h.1 (is := [.bipush (-9)]) (pc' := 17) (ls' := [some (.inr (.inr (0, 0))), some (.inl x1), some (.inl x2), some (.inl x3)]) (st' := [.inl (-9 : Int32), .inl r12]) (m' := m12) (by decide +kernel) rfl ?_
  refine go_icmpne h.1 (off := 21) 38 (by decide +kernel) (by decide) (fun c17 => ?_) (fun c17 => ?_)
  · refine go_blk h.1 (is := [.iconst 0]) (pc' := 39) (ls' := [some (.inr (.inr (0, 0))), some (.inl x1), some (.inl x2), some (.inl x3)]) (st' := [.inl (0 : Int32)]) (m' := m12) (by decide +kernel) rfl ?_
    exact go_zret h.1 h.2.2.2.2 (Or.inl rfl) (by decide +kernel)
  · refine go_blk h.1 (is := [.aload_n 0, .getfield 42, .aload_n 0, .getfield 28]) (pc' := 28) (ls' := [some (.inr (.inr (0, 0))), some (.inl x1), some (.inl x2), some (.inl x3)]) (st' := [.inr (.inr (7, 0)), .inr (.inr (20, 0))]) (m' := m12) (by decide +kernel) rfl ?_
    refine go_callV h.1 (index := 236) (n := 1) (t := 20) (i := 0) (ci := 2) (nf := 3) (cz := (RX2, TX2, 3)) (as := [.inr (.inr (7, 0))]) (rest := []) (ctr_X2_areSo (xl X) (xA X) (xC X) (xI X) (xk X) 0 m12) (by decide +kernel) rfl rfl wd_v_X6_236 rfl (h.room (by first | decide | omega) (by decide)) h.cl (Nat.le_of_ble_eq_true rfl) puI_ok rfl (fun r28 m28 _ => ?_)
    show Go X (Em X puI) 31 [some (.inr (.inr (0, 0))), some (.inl x1), some (.inl x2), some (.inl x3)] [.inl r28] m28 _
    refine go_ifeq h.1 (off := 7) 38 (by decide +kernel) (by decide) (fun c31 => ?_) (fun c31 => ?_)
    · refine go_blk h.1 (is := [.iconst 0]) (pc' := 39) (ls' := [some (.inr (.inr (0, 0))), some (.inl x1), some (.inl x2), some (.inl x3)]) (st' := [.inl (0 : Int32)]) (m' := m28) (by decide +kernel) rfl ?_
      exact go_zret h.1 h.2.2.2.2 (Or.inl rfl) (by decide +kernel)
    · refine go_blk h.1 (is := [.iconst 1]) (pc' := 35) (ls' := [some (.inr (.inr (0, 0))), some (.inl x1), some (.inl x2), some (.inl x3)]) (st' := [.inl (1 : Int32)]) (m' := m28) (by decide +kernel) rfl ?_
      refine go_goto h.1 (off := 4) 39 (by decide +kernel) (by decide) ?_
      exact go_zret h.1 h.2.2.2.2 (Or.inr rfl) (by decide +kernel)
theorem ctr_X6_fits (l : Launch) (A : AR → Nat) (dC : Nat → ClassId) (dI : Nat → Nat → Nat) (cs : Nat → ClassId) (x1 : Int32) (x2 : Int32) (x3 : Int32) (m : Mem) : Ctr l A dC dI cs yX6_fits prog_1_method_41_code 4 (some .boolean) 5 puI [.inr (.inr (0, 0)), .inl x1, .inl x2, .inl x3] m (f_X6_fits x1 x2 x3 m) :=
  ctr_of (P := P_X6) (by decide +kernel) rfl pt_X6 rfl rfl (fun X hC _ _ _ _ _ hR h0 h1 hr => g_X6_fits ⟨hC, hR, h0, h1, hr⟩ x1 x2 x3 m)

def f_X6_bitIf (x0 : Int32) (x1 : Int32) (m : Mem) : Option (Int32 × Mem) :=
  if x0 = 0 then
    some ((0 : Int32), m)
  else
    some (((1 : Int32) <<< (x1 &&& 31)), m)
theorem g_X6_bitIf {X : XT} (h : MX X prog_1_method_34_code P_X6 0 (some .int)) (x0 : Int32) (x1 : Int32) (m : Mem) : Go X (Em X puI) 0 [some (.inl x0), some (.inl x1)] [] m (f_X6_bitIf x0 x1 m) := by
  unfold f_X6_bitIf
  refine go_blk h.1 (is := [.iload_n 0]) (pc' := 1) (ls' := [some (.inl x0), some (.inl x1)]) (st' := [.inl x0]) (m' := m) (by decide +kernel) rfl ?_
  refine go_ifeq h.1 (off := 9) 10 (by decide +kernel) (by decide) (fun c1 => ?_) (fun c1 => ?_)
  · refine go_blk h.1 (is := [.iconst 0]) (pc' := 11) (ls' := [some (.inl x0), some (.inl x1)]) (st' := [.inl (0 : Int32)]) (m' := m) (by decide +kernel) rfl ?_
    exact go_iret h.1 h.2.2.2.2 (by decide +kernel)
  · refine go_blk h.1 (is := [.iconst 1, .iload_n 1, .ishl]) (pc' := 7) (ls' := [some (.inl x0), some (.inl x1)]) (st' := [.inl ((1 : Int32) <<< (x1 &&& 31))]) (m' := m) (by decide +kernel) rfl ?_
    refine go_goto h.1 (off := 4) 11 (by decide +kernel) (by decide) ?_
    exact go_iret h.1 h.2.2.2.2 (by decide +kernel)
theorem ctr_X6_bitIf (l : Launch) (A : AR → Nat) (dC : Nat → ClassId) (dI : Nat → Nat → Nat) (cs : Nat → ClassId) (x0 : Int32) (x1 : Int32) (m : Mem) : Ctr l A dC dI cs yX6_bitIf prog_1_method_34_code 2 (some .int) 0 puI [.inl x0, .inl x1] m (f_X6_bitIf x0 x1 m) :=
  ctr_of (P := P_X6) (by decide +kernel) rfl pt_X6 rfl rfl (fun X hC _ _ _ _ _ hR h0 h1 hr => g_X6_bitIf ⟨hC, hR, h0, h1, hr⟩ x0 x1 m)

def f_X6_had_b27 (x1 : Int32) (x2 : Int32) (x4 : Int32) (x5 : Int32) (next : Int32 × Int32 × Mem → Option (Int32 × Mem)) (exit : Int32 × Mem → Option (Int32 × Mem)) (s : Int32 × Int32 × Mem) : Option (Int32 × Mem) :=
  if (9 : Int32) < s.2.1 then
    exit (s.1, s.2.2)
  else
    bnd (f_X0_start 0 s.2.2) (fun _ m42 =>
      if inB x1 5 = true then
        bnd (f_X6_fits x2 x4 x5 (mset m42 10 0 (ix x1) s.2.1)) (fun r64 m64 =>
          bnd (f_X6_bitIf r64 s.2.1 m64) (fun r69 m69 =>
            next ((s.1 ||| r69), (s.2.1 + (1 : Int32)), m69)))
      else none)
theorem g_X6_had_b27 {X : XT} (h : MX X prog_1_method_15_code P_X6 6 (some .int)) (x1 : Int32) (x2 : Int32) (x4 : Int32) (x5 : Int32) (next : Int32 × Int32 × Mem → Option (Int32 × Mem)) (exit : Int32 × Mem → Option (Int32 × Mem)) (hn : ∀ (s : Int32 × Int32 × Mem) (o3 : Option AV) (o6 : Option AV), Go X (Em X puI) 27 [some (.inr (.inr (0, 0))), some (.inl x1), some (.inl x2), o3, some (.inl x4), some (.inl x5), o6, some (.inl s.1), some (.inl s.2.1)] [] s.2.2 (next s)) (hx : ∀ (t : Int32 × Mem) (o0 : Option AV) (o1 : Option AV) (o2 : Option AV) (o3 : Option AV) (o4 : Option AV) (o5 : Option AV) (o6 : Option AV) (o8 : Option AV), Go X (Em X puI) 81 [o0, o1, o2, o3, o4, o5, o6, some (.inl t.1), o8] [] t.2 (exit t)) (s : Int32 × Int32 × Mem) (o3 : Option AV) (o6 : Option AV) : Go X (Em X puI) 27 [some (.inr (.inr (0, 0))), some (.inl x1), some (.inl x2), o3, some (.inl x4), some (.inl x5), o6, some (.inl s.1), some (.inl s.2.1)] [] s.2.2 (f_X6_had_b27 x1 x2 x4 x5 next exit s) := by
  unfold f_X6_had_b27
  refine go_blk h.1 (is := [.iload 8, .bipush 9]) (pc' := 31) (ls' := [some (.inr (.inr (0, 0))), some (.inl x1), some (.inl x2), o3, some (.inl x4), some (.inl x5), o6, some (.inl s.1), some (.inl s.2.1)]) (st' := [.inl (9 : Int32), .inl s.2.1]) (m' := s.2.2) (by decide +kernel) rfl ?_
  refine go_icmpgt h.1 (off := 50) 81 (by decide +kernel) (by decide) (fun c31 => ?_) (fun c31 => ?_)
  · exact hx (s.1, s.2.2) (some (.inr (.inr (0, 0)))) (some (.inl x1)) (some (.inl x2)) (o3) (some (.inl x4)) (some (.inl x5)) (o6) (some (.inl s.2.1))
  · refine go_blk h.1 (is := [.aload_n 0, .getfield 28, .aload_n 0, .getfield 21]) (pc' := 42) (ls' := [some (.inr (.inr (0, 0))), some (.inl x1), some (.inl x2), o3, some (.inl x4), some (.inl x5), o6, some (.inl s.1), some (.inl s.2.1)]) (st' := [.inr (.inr (4, 0)), .inr (.inr (7, 0))]) (m' := s.2.2) (by decide +kernel) rfl ?_
    refine go_callV h.1 (index := 170) (n := 1) (t := 7) (i := 0) (ci := 0) (nf := 14) (cz := (RX0, TX0, 14)) (as := [.inr (.inr (4, 0))]) (rest := []) (ctr_X0_start (xl X) (xA X) (xC X) (xI X) (xk X) 0 s.2.2) (by decide +kernel) rfl rfl wd_v_X6_170 rfl (h.room (by first | decide | omega) (by decide)) h.cl (Nat.le_of_ble_eq_true rfl) puV_ok rfl (fun r42 m42 _ => ?_)
    show Go X (Em X puI) 45 [some (.inr (.inr (0, 0))), some (.inl x1), some (.inl x2), o3, some (.inl x4), some (.inl x5), o6, some (.inl s.1), some (.inl s.2.1)] [] m42 _
    refine go_blk h.1 (is := [.aload_n 0, .getfield 28, .getfield 138, .iload_n 1, .iload 8]) (pc' := 55) (ls' := [some (.inr (.inr (0, 0))), some (.inl x1), some (.inl x2), o3, some (.inl x4), some (.inl x5), o6, some (.inl s.1), some (.inl s.2.1)]) (st' := [.inl s.2.1, .inl x1, .inr (.inr (10, 0))]) (m' := m42) (by decide +kernel) rfl ?_
    refine go_iast h.1 (by decide +kernel) rfl rfl (fun b55 => ?_)
    refine go_blk h.1 (is := [.iload 7, .aload_n 0, .iload_n 2, .iload 4, .iload 5]) (pc' := 64) (ls' := [some (.inr (.inr (0, 0))), some (.inl x1), some (.inl x2), o3, some (.inl x4), some (.inl x5), o6, some (.inl s.1), some (.inl s.2.1)]) (st' := [.inl x5, .inl x4, .inl x2, .inr (.inr (0, 0)), .inl s.1]) (m' := (mset m42 10 0 (ix x1) s.2.1)) (by decide +kernel) rfl ?_
    refine go_callV h.1 (index := 180) (n := 3) (t := 0) (i := 0) (ci := 6) (nf := 7) (cz := (RX6, TX6, 7)) (as := [.inl x2, .inl x4, .inl x5]) (rest := [.inl s.1]) (ctr_X6_fits (xl X) (xA X) (xC X) (xI X) (xk X) x2 x4 x5 (mset m42 10 0 (ix x1) s.2.1)) (by decide +kernel) rfl rfl wd_v_X6_180 rfl (h.room (by first | decide | omega) (by decide)) h.cl (Nat.le_of_ble_eq_true rfl) puI_ok rfl (fun r64 m64 _ => ?_)
    show Go X (Em X puI) 67 [some (.inr (.inr (0, 0))), some (.inl x1), some (.inl x2), o3, some (.inl x4), some (.inl x5), o6, some (.inl s.1), some (.inl s.2.1)] [.inl r64, .inl s.1] m64 _
    refine go_blk h.1 (is := [.iload 8]) (pc' := 69) (ls' := [some (.inr (.inr (0, 0))), some (.inl x1), some (.inl x2), o3, some (.inl x4), some (.inl x5), o6, some (.inl s.1), some (.inl s.2.1)]) (st' := [.inl s.2.1, .inl r64, .inl s.1]) (m' := m64) (by decide +kernel) rfl ?_
    refine go_callS h.1 (index := 183) (n := 2) (as := [.inl r64, .inl s.2.1]) (rest := [.inl s.1]) (ctr_X6_bitIf (xl X) (xA X) (xC X) (xI X) (xk X) r64 s.2.1 m64) (by decide +kernel) wd_s_X6_183 rfl (h.room (by first | decide | omega) (by decide)) h.cl (Nat.le_of_ble_eq_true rfl) puI_ok rfl (fun r69 m69 _ => ?_)
    show Go X (Em X puI) 72 [some (.inr (.inr (0, 0))), some (.inl x1), some (.inl x2), o3, some (.inl x4), some (.inl x5), o6, some (.inl s.1), some (.inl s.2.1)] [.inl r69, .inl s.1] m69 _
    refine go_blk h.1 (is := [.ior, .istore 7, .iinc 8 1]) (pc' := 78) (ls' := [some (.inr (.inr (0, 0))), some (.inl x1), some (.inl x2), o3, some (.inl x4), some (.inl x5), (clrL o6), some (.inl (s.1 ||| r69)), some (.inl (s.2.1 + (1 : Int32)))]) (st' := []) (m' := m69) (by decide +kernel) rfl ?_
    refine go_goto h.1 (off := -51) 27 (by decide +kernel) (by decide) ?_
    exact hn ((s.1 ||| r69), (s.2.1 + (1 : Int32)), m69) (o3) ((clrL o6))

def f_X6_had (x1 : Int32) (x2 : Int32) (x3 : Int32) (x4 : Int32) (x5 : Int32) (m : Mem) : Option (Int32 × Mem) :=
  bnd (f_X6_refusalWithFish x1 x2 x3 x4 x5 m) (fun r8 m8 =>
    if r8 = 0 then
      lpk (f_X6_had_b27 x1 x2 x4 x5) fuelN ((0 : Int32), (0 : Int32), m8) (fun t27 =>
        some (t27.1, t27.2))
    else
      some (r8, m8))
theorem g_X6_had {X : XT} (h : MX X prog_1_method_15_code P_X6 6 (some .int)) (x1 : Int32) (x2 : Int32) (x3 : Int32) (x4 : Int32) (x5 : Int32) (m : Mem) : Go X (Em X puI) 0 [some (.inr (.inr (0, 0))), some (.inl x1), some (.inl x2), some (.inl x3), some (.inl x4), some (.inl x5), none, none, none] [] m (f_X6_had x1 x2 x3 x4 x5 m) := by
  unfold f_X6_had
  refine go_blk h.1 (is := [.aload_n 0, .iload_n 1, .iload_n 2, .iload_n 3, .iload 4, .iload 5]) (pc' := 8) (ls' := [some (.inr (.inr (0, 0))), some (.inl x1), some (.inl x2), some (.inl x3), some (.inl x4), some (.inl x5), none, none, none]) (st' := [.inl x5, .inl x4, .inl x3, .inl x2, .inl x1, .inr (.inr (0, 0))]) (m' := m) (by decide +kernel) rfl ?_
  refine go_callV h.1 (index := 141) (n := 5) (t := 0) (i := 0) (ci := 6) (nf := 7) (cz := (RX6, TX6, 7)) (as := [.inl x1, .inl x2, .inl x3, .inl x4, .inl x5]) (rest := []) (ctr_X6_refusalWithFish (xl X) (xA X) (xC X) (xI X) (xk X) x1 x2 x3 x4 x5 m) (by decide +kernel) rfl rfl wd_v_X6_141 rfl (h.room (by first | decide | omega) (by decide)) h.cl (Nat.le_of_ble_eq_true rfl) puI_ok rfl (fun r8 m8 _ => ?_)
  show Go X (Em X puI) 11 [some (.inr (.inr (0, 0))), some (.inl x1), some (.inl x2), some (.inl x3), some (.inl x4), some (.inl x5), none, none, none] [.inl r8] m8 _
  refine go_blk h.1 (is := [.istore 6, .iload 6]) (pc' := 15) (ls' := [some (.inr (.inr (0, 0))), some (.inl x1), some (.inl x2), some (.inl x3), some (.inl x4), some (.inl x5), some (.inl r8), none, none]) (st' := [.inl r8]) (m' := m8) (by decide +kernel) rfl ?_
  refine go_ifeq h.1 (off := 6) 21 (by decide +kernel) (by decide) (fun c15 => ?_) (fun c15 => ?_)
  · refine go_blk h.1 (is := [.iconst 0, .istore 7, .iconst 0, .istore 8]) (pc' := 27) (ls' := [some (.inr (.inr (0, 0))), some (.inl x1), some (.inl x2), some (.inl x3), some (.inl x4), some (.inl x5), some (.inl r8), some (.inl (0 : Int32)), some (.inl (0 : Int32))]) (st' := []) (m' := m8) (by decide +kernel) rfl ?_
    refine go_loop (hd := fun (s27 : Int32 × Int32 × Mem) o => ∀ (o3 : Option AV) (o6 : Option AV), Go X (Em X puI) 27 [some (.inr (.inr (0, 0))), some (.inl x1), some (.inl x2), o3, some (.inl x4), some (.inl x5), o6, some (.inl s27.1), some (.inl s27.2.1)] [] s27.2.2 o) (fun s _ _ => go_none) (fun s27 nx_ hn_ => g_X6_had_b27 h x1 x2 x4 x5 nx_ _ hn_ ?_ s27) fuelN ((0 : Int32), (0 : Int32), m8) (some (.inl x3)) (some (.inl r8))
    intro t27 o0_27 o1_27 o2_27 o3_27 o4_27 o5_27 o6_27 o8_27
    refine go_blk h.1 (is := [.iload 7]) (pc' := 83) (ls' := [o0_27, o1_27, o2_27, o3_27, o4_27, o5_27, o6_27, some (.inl t27.1), o8_27]) (st' := [.inl t27.1]) (m' := t27.2) (by decide +kernel) rfl ?_
    exact go_iret h.1 h.2.2.2.2 (by decide +kernel)
  · refine go_blk h.1 (is := [.iload 6]) (pc' := 20) (ls' := [some (.inr (.inr (0, 0))), some (.inl x1), some (.inl x2), some (.inl x3), some (.inl x4), some (.inl x5), some (.inl r8), none, none]) (st' := [.inl r8]) (m' := m8) (by decide +kernel) rfl ?_
    exact go_iret h.1 h.2.2.2.2 (by decide +kernel)
theorem ctr_X6_had (l : Launch) (A : AR → Nat) (dC : Nat → ClassId) (dI : Nat → Nat → Nat) (cs : Nat → ClassId) (x1 : Int32) (x2 : Int32) (x3 : Int32) (x4 : Int32) (x5 : Int32) (m : Mem) : Ctr l A dC dI cs yX6_had prog_1_method_15_code 9 (some .int) 6 puI [.inr (.inr (0, 0)), .inl x1, .inl x2, .inl x3, .inl x4, .inl x5] m (f_X6_had x1 x2 x3 x4 x5 m) :=
  ctr_of (P := P_X6) (by decide +kernel) rfl pt_X6 rfl rfl (fun X hC _ _ _ _ _ hR h0 h1 hr => g_X6_had ⟨hC, hR, h0, h1, hr⟩ x1 x2 x3 x4 x5 m)

def f_X6_dears_b26 (x1 : Int32) (x3 : Int32) (x4 : Int32) (next : Int32 × Int32 × Mem → Option (Int32 × Mem)) (exit : Int32 × Mem → Option (Int32 × Mem)) (s : Int32 × Int32 × Mem) : Option (Int32 × Mem) :=
  if (9 : Int32) < s.2.1 then
    exit (s.1, s.2.2)
  else
    bnd (f_X0_start 0 s.2.2) (fun _ m41 =>
      bnd (f_X6_fits x1 x3 x4 (mset m41 7 0 9 s.2.1)) (fun r60 m60 =>
        bnd (f_X6_bitIf r60 s.2.1 m60) (fun r65 m65 =>
          next ((s.1 ||| r65), (s.2.1 + (1 : Int32)), m65))))
theorem g_X6_dears_b26 {X : XT} (h : MX X prog_1_method_16_code P_X6 6 (some .int)) (x1 : Int32) (x3 : Int32) (x4 : Int32) (next : Int32 × Int32 × Mem → Option (Int32 × Mem)) (exit : Int32 × Mem → Option (Int32 × Mem)) (hn : ∀ (s : Int32 × Int32 × Mem) (o2 : Option AV) (o5 : Option AV), Go X (Em X puI) 26 [some (.inr (.inr (0, 0))), some (.inl x1), o2, some (.inl x3), some (.inl x4), o5, some (.inl s.1), some (.inl s.2.1)] [] s.2.2 (next s)) (hx : ∀ (t : Int32 × Mem) (o0 : Option AV) (o1 : Option AV) (o2 : Option AV) (o3 : Option AV) (o4 : Option AV) (o5 : Option AV) (o7 : Option AV), Go X (Em X puI) 77 [o0, o1, o2, o3, o4, o5, some (.inl t.1), o7] [] t.2 (exit t)) (s : Int32 × Int32 × Mem) (o2 : Option AV) (o5 : Option AV) : Go X (Em X puI) 26 [some (.inr (.inr (0, 0))), some (.inl x1), o2, some (.inl x3), some (.inl x4), o5, some (.inl s.1), some (.inl s.2.1)] [] s.2.2 (f_X6_dears_b26 x1 x3 x4 next exit s) := by
  unfold f_X6_dears_b26
  refine go_blk h.1 (is := [.iload 7, .bipush 9]) (pc' := 30) (ls' := [some (.inr (.inr (0, 0))), some (.inl x1), o2, some (.inl x3), some (.inl x4), o5, some (.inl s.1), some (.inl s.2.1)]) (st' := [.inl (9 : Int32), .inl s.2.1]) (m' := s.2.2) (by decide +kernel) rfl ?_
  refine go_icmpgt h.1 (off := 47) 77 (by decide +kernel) (by decide) (fun c30 => ?_) (fun c30 => ?_)
  · exact hx (s.1, s.2.2) (some (.inr (.inr (0, 0)))) (some (.inl x1)) (o2) (some (.inl x3)) (some (.inl x4)) (o5) (some (.inl s.2.1))
  · refine go_blk h.1 (is := [.aload_n 0, .getfield 28, .aload_n 0, .getfield 21]) (pc' := 41) (ls' := [some (.inr (.inr (0, 0))), some (.inl x1), o2, some (.inl x3), some (.inl x4), o5, some (.inl s.1), some (.inl s.2.1)]) (st' := [.inr (.inr (4, 0)), .inr (.inr (7, 0))]) (m' := s.2.2) (by decide +kernel) rfl ?_
    refine go_callV h.1 (index := 170) (n := 1) (t := 7) (i := 0) (ci := 0) (nf := 14) (cz := (RX0, TX0, 14)) (as := [.inr (.inr (4, 0))]) (rest := []) (ctr_X0_start (xl X) (xA X) (xC X) (xI X) (xk X) 0 s.2.2) (by decide +kernel) rfl rfl wd_v_X6_170 rfl (h.room (by first | decide | omega) (by decide)) h.cl (Nat.le_of_ble_eq_true rfl) puV_ok rfl (fun r41 m41 _ => ?_)
    show Go X (Em X puI) 44 [some (.inr (.inr (0, 0))), some (.inl x1), o2, some (.inl x3), some (.inl x4), o5, some (.inl s.1), some (.inl s.2.1)] [] m41 _
    refine go_blk h.1 (is := [.aload_n 0, .getfield 28, .iload 7, .putfield 187, .iload 6, .aload_n 0, .iload_n 1, .iload_n 3, .iload 4]) (pc' := 60) (ls' := [some (.inr (.inr (0, 0))), some (.inl x1), o2, some (.inl x3), some (.inl x4), o5, some (.inl s.1), some (.inl s.2.1)]) (st' := [.inl x4, .inl x3, .inl x1, .inr (.inr (0, 0)), .inl s.1]) (m' := (mset m41 7 0 9 s.2.1)) (by decide +kernel) rfl ?_
    refine go_callV h.1 (index := 180) (n := 3) (t := 0) (i := 0) (ci := 6) (nf := 7) (cz := (RX6, TX6, 7)) (as := [.inl x1, .inl x3, .inl x4]) (rest := [.inl s.1]) (ctr_X6_fits (xl X) (xA X) (xC X) (xI X) (xk X) x1 x3 x4 (mset m41 7 0 9 s.2.1)) (by decide +kernel) rfl rfl wd_v_X6_180 rfl (h.room (by first | decide | omega) (by decide)) h.cl (Nat.le_of_ble_eq_true rfl) puI_ok rfl (fun r60 m60 _ => ?_)
    show Go X (Em X puI) 63 [some (.inr (.inr (0, 0))), some (.inl x1), o2, some (.inl x3), some (.inl x4), o5, some (.inl s.1), some (.inl s.2.1)] [.inl r60, .inl s.1] m60 _
    refine go_blk h.1 (is := [.iload 7]) (pc' := 65) (ls' := [some (.inr (.inr (0, 0))), some (.inl x1), o2, some (.inl x3), some (.inl x4), o5, some (.inl s.1), some (.inl s.2.1)]) (st' := [.inl s.2.1, .inl r60, .inl s.1]) (m' := m60) (by decide +kernel) rfl ?_
    refine go_callS h.1 (index := 183) (n := 2) (as := [.inl r60, .inl s.2.1]) (rest := [.inl s.1]) (ctr_X6_bitIf (xl X) (xA X) (xC X) (xI X) (xk X) r60 s.2.1 m60) (by decide +kernel) wd_s_X6_183 rfl (h.room (by first | decide | omega) (by decide)) h.cl (Nat.le_of_ble_eq_true rfl) puI_ok rfl (fun r65 m65 _ => ?_)
    show Go X (Em X puI) 68 [some (.inr (.inr (0, 0))), some (.inl x1), o2, some (.inl x3), some (.inl x4), o5, some (.inl s.1), some (.inl s.2.1)] [.inl r65, .inl s.1] m65 _
    refine go_blk h.1 (is := [.ior, .istore 6, .iinc 7 1]) (pc' := 74) (ls' := [some (.inr (.inr (0, 0))), some (.inl x1), o2, some (.inl x3), some (.inl x4), (clrL o5), some (.inl (s.1 ||| r65)), some (.inl (s.2.1 + (1 : Int32)))]) (st' := []) (m' := m65) (by decide +kernel) rfl ?_
    refine go_goto h.1 (off := -48) 26 (by decide +kernel) (by decide) ?_
    exact hn ((s.1 ||| r65), (s.2.1 + (1 : Int32)), m65) (o2) ((clrL o5))

def f_X6_dears (x1 : Int32) (x2 : Int32) (x3 : Int32) (x4 : Int32) (m : Mem) : Option (Int32 × Mem) :=
  bnd (f_X6_refusalOf x1 x2 x3 x4 (1 : Int32) m) (fun r7 m7 =>
    if r7 = 0 then
      lpk (f_X6_dears_b26 x1 x3 x4) fuelN ((0 : Int32), (0 : Int32), m7) (fun t26 =>
        some (t26.1, t26.2))
    else
      some (r7, m7))
theorem g_X6_dears {X : XT} (h : MX X prog_1_method_16_code P_X6 6 (some .int)) (x1 : Int32) (x2 : Int32) (x3 : Int32) (x4 : Int32) (m : Mem) : Go X (Em X puI) 0 [some (.inr (.inr (0, 0))), some (.inl x1), some (.inl x2), some (.inl x3), some (.inl x4), none, none, none] [] m (f_X6_dears x1 x2 x3 x4 m) := by
  unfold f_X6_dears
  refine go_blk h.1 (is := [.aload_n 0, .iload_n 1, .iload_n 2, .iload_n 3, .iload 4, .iconst 1]) (pc' := 7) (ls' := [some (.inr (.inr (0, 0))), some (.inl x1), some (.inl x2), some (.inl x3), some (.inl x4), none, none, none]) (st' := [.inl (1 : Int32), .inl x4, .inl x3, .inl x2, .inl x1, .inr (.inr (0, 0))]) (m' := m) (by decide +kernel) rfl ?_
  refine go_callV h.1 (index := 121) (n := 5) (t := 0) (i := 0) (ci := 6) (nf := 7) (cz := (RX6, TX6, 7)) (as := [.inl x1, .inl x2, .inl x3, .inl x4, .inl (1 : Int32)]) (rest := []) (ctr_X6_refusalOf (xl X) (xA X) (xC X) (xI X) (xk X) x1 x2 x3 x4 (1 : Int32) m) (by decide +kernel) rfl rfl wd_v_X6_121 rfl (h.room (by first | decide | omega) (by decide)) h.cl (Nat.le_of_ble_eq_true rfl) puI_ok rfl (fun r7 m7 _ => ?_)
  show Go X (Em X puI) 10 [some (.inr (.inr (0, 0))), some (.inl x1), some (.inl x2), some (.inl x3), some (.inl x4), none, none, none] [.inl r7] m7 _
  refine go_blk h.1 (is := [.istore 5, .iload 5]) (pc' := 14) (ls' := [some (.inr (.inr (0, 0))), some (.inl x1), some (.inl x2), some (.inl x3), some (.inl x4), some (.inl r7), none, none]) (st' := [.inl r7]) (m' := m7) (by decide +kernel) rfl ?_
  refine go_ifeq h.1 (off := 6) 20 (by decide +kernel) (by decide) (fun c14 => ?_) (fun c14 => ?_)
  · refine go_blk h.1 (is := [.iconst 0, .istore 6, .iconst 0, .istore 7]) (pc' := 26) (ls' := [some (.inr (.inr (0, 0))), some (.inl x1), some (.inl x2), some (.inl x3), some (.inl x4), some (.inl r7), some (.inl (0 : Int32)), some (.inl (0 : Int32))]) (st' := []) (m' := m7) (by decide +kernel) rfl ?_
    refine go_loop (hd := fun (s26 : Int32 × Int32 × Mem) o => ∀ (o2 : Option AV) (o5 : Option AV), Go X (Em X puI) 26 [some (.inr (.inr (0, 0))), some (.inl x1), o2, some (.inl x3), some (.inl x4), o5, some (.inl s26.1), some (.inl s26.2.1)] [] s26.2.2 o) (fun s _ _ => go_none) (fun s26 nx_ hn_ => g_X6_dears_b26 h x1 x3 x4 nx_ _ hn_ ?_ s26) fuelN ((0 : Int32), (0 : Int32), m7) (some (.inl x2)) (some (.inl r7))
    intro t26 o0_26 o1_26 o2_26 o3_26 o4_26 o5_26 o7_26
    refine go_blk h.1 (is := [.iload 6]) (pc' := 79) (ls' := [o0_26, o1_26, o2_26, o3_26, o4_26, o5_26, some (.inl t26.1), o7_26]) (st' := [.inl t26.1]) (m' := t26.2) (by decide +kernel) rfl ?_
    exact go_iret h.1 h.2.2.2.2 (by decide +kernel)
  · refine go_blk h.1 (is := [.iload 5]) (pc' := 19) (ls' := [some (.inr (.inr (0, 0))), some (.inl x1), some (.inl x2), some (.inl x3), some (.inl x4), some (.inl r7), none, none]) (st' := [.inl r7]) (m' := m7) (by decide +kernel) rfl ?_
    exact go_iret h.1 h.2.2.2.2 (by decide +kernel)
theorem ctr_X6_dears (l : Launch) (A : AR → Nat) (dC : Nat → ClassId) (dI : Nat → Nat → Nat) (cs : Nat → ClassId) (x1 : Int32) (x2 : Int32) (x3 : Int32) (x4 : Int32) (m : Mem) : Ctr l A dC dI cs yX6_dears prog_1_method_16_code 8 (some .int) 6 puI [.inr (.inr (0, 0)), .inl x1, .inl x2, .inl x3, .inl x4] m (f_X6_dears x1 x2 x3 x4 m) :=
  ctr_of (P := P_X6) (by decide +kernel) rfl pt_X6 rfl rfl (fun X hC _ _ _ _ _ hR h0 h1 hr => g_X6_dears ⟨hC, hR, h0, h1, hr⟩ x1 x2 x3 x4 m)
end
section
/-! ===== printed by wip/whole/tr.py out of the listing ===== -/
def f_X6_kinds_b27 (x1 : Int32) (x2 : Int32) (x4 : Int32) (x5 : Int32) (next : Int32 × Int32 × Mem → Option (Int32 × Mem)) (exit : Int32 × Mem → Option (Int32 × Mem)) (s : Int32 × Int32 × Mem) : Option (Int32 × Mem) :=
  if (2 : Int32) < s.2.1 then
    exit (s.1, s.2.2)
  else
    bnd (f_X0_start 0 s.2.2) (fun _ m41 =>
      if inB x1 5 = true then
        bnd (f_X6_fits x2 x4 x5 (mset m41 8 0 (ix x1) s.2.1)) (fun r63 m63 =>
          bnd (f_X6_bitIf r63 s.2.1 m63) (fun r68 m68 =>
            next ((s.1 ||| r68), (s.2.1 + (1 : Int32)), m68)))
      else none)
theorem g_X6_kinds_b27 {X : XT} (h : MX X prog_1_method_17_code P_X6 6 (some .int)) (x1 : Int32) (x2 : Int32) (x4 : Int32) (x5 : Int32) (next : Int32 × Int32 × Mem → Option (Int32 × Mem)) (exit : Int32 × Mem → Option (Int32 × Mem)) (hn : ∀ (s : Int32 × Int32 × Mem) (o3 : Option AV) (o6 : Option AV), Go X (Em X puI) 27 [some (.inr (.inr (0, 0))), some (.inl x1), some (.inl x2), o3, some (.inl x4), some (.inl x5), o6, some (.inl s.1), some (.inl s.2.1)] [] s.2.2 (next s)) (hx : ∀ (t : Int32 × Mem) (o0 : Option AV) (o1 : Option AV) (o2 : Option AV) (o3 : Option AV) (o4 : Option AV) (o5 : Option AV) (o6 : Option AV) (o8 : Option AV), Go X (Em X puI) 80 [o0, o1, o2, o3, o4, o5, o6, some (.inl t.1), o8] [] t.2 (exit t)) (s : Int32 × Int32 × Mem) (o3 : Option AV) (o6 : Option AV) : Go X (Em X puI) 27 [some (.inr (.inr (0, 0))), some (.inl x1), some (.inl x2), o3, some (.inl x4), some (.inl x5), o6, some (.inl s.1), some (.inl s.2.1)] [] s.2.2 (f_X6_kinds_b27 x1 x2 x4 x5 next exit s) := by
  unfold f_X6_kinds_b27
  refine go_blk h.1 (is := [.iload 8, .iconst 2]) (pc' := 30) (ls' := [some (.inr (.inr (0, 0))), some (.inl x1), some (.inl x2), o3, some (.inl x4), some (.inl x5), o6, some (.inl s.1), some (.inl s.2.1)]) (st' := [.inl (2 : Int32), .inl s.2.1]) (m' := s.2.2) (by decide +kernel) rfl ?_
  refine go_icmpgt h.1 (off := 50) 80 (by decide +kernel) (by decide) (fun c30 => ?_) (fun c30 => ?_)
  · exact hx (s.1, s.2.2) (some (.inr (.inr (0, 0)))) (some (.inl x1)) (some (.inl x2)) (o3) (some (.inl x4)) (some (.inl x5)) (o6) (some (.inl s.2.1))
  · refine go_blk h.1 (is := [.aload_n 0, .getfield 28, .aload_n 0, .getfield 21]) (pc' := 41) (ls' := [some (.inr (.inr (0, 0))), some (.inl x1), some (.inl x2), o3, some (.inl x4), some (.inl x5), o6, some (.inl s.1), some (.inl s.2.1)]) (st' := [.inr (.inr (4, 0)), .inr (.inr (7, 0))]) (m' := s.2.2) (by decide +kernel) rfl ?_
    refine go_callV h.1 (index := 170) (n := 1) (t := 7) (i := 0) (ci := 0) (nf := 14) (cz := (RX0, TX0, 14)) (as := [.inr (.inr (4, 0))]) (rest := []) (ctr_X0_start (xl X) (xA X) (xC X) (xI X) (xk X) 0 s.2.2) (by decide +kernel) rfl rfl wd_v_X6_170 rfl (h.room (by first | decide | omega) (by decide)) h.cl (Nat.le_of_ble_eq_true rfl) puV_ok rfl (fun r41 m41 _ => ?_)
    show Go X (Em X puI) 44 [some (.inr (.inr (0, 0))), some (.inl x1), some (.inl x2), o3, some (.inl x4), some (.inl x5), o6, some (.inl s.1), some (.inl s.2.1)] [] m41 _
    refine go_blk h.1 (is := [.aload_n 0, .getfield 28, .getfield 188, .iload_n 1, .iload 8]) (pc' := 54) (ls' := [some (.inr (.inr (0, 0))), some (.inl x1), some (.inl x2), o3, some (.inl x4), some (.inl x5), o6, some (.inl s.1), some (.inl s.2.1)]) (st' := [.inl s.2.1, .inl x1, .inr (.inr (8, 0))]) (m' := m41) (by decide +kernel) rfl ?_
    refine go_iast h.1 (by decide +kernel) rfl rfl (fun b54 => ?_)
    refine go_blk h.1 (is := [.iload 7, .aload_n 0, .iload_n 2, .iload 4, .iload 5]) (pc' := 63) (ls' := [some (.inr (.inr (0, 0))), some (.inl x1), some (.inl x2), o3, some (.inl x4), some (.inl x5), o6, some (.inl s.1), some (.inl s.2.1)]) (st' := [.inl x5, .inl x4, .inl x2, .inr (.inr (0, 0)), .inl s.1]) (m' := (mset m41 8 0 (ix x1) s.2.1)) (by decide +kernel) rfl ?_
    refine go_callV h.1 (index := 180) (n := 3) (t := 0) (i := 0) (ci := 6) (nf := 7) (cz := (RX6, TX6, 7)) (as := [.inl x2, .inl x4, .inl x5]) (rest := [.inl s.1]) (ctr_X6_fits (xl X) (xA X) (xC X) (xI X) (xk X) x2 x4 x5 (mset m41 8 0 (ix x1) s.2.1)) (by decide +kernel) rfl rfl wd_v_X6_180 rfl (h.room (by first | decide | omega) (by decide)) h.cl (Nat.le_of_ble_eq_true rfl) puI_ok rfl (fun r63 m63 _ => ?_)
    show Go X (Em X puI) 66 [some (.inr (.inr (0, 0))), some (.inl x1), some (.inl x2), o3, some (.inl x4), some (.inl x5), o6, some (.inl s.1), some (.inl s.2.1)] [.inl r63, .inl s.1] m63 _
    refine go_blk h.1 (is := [.iload 8]) (pc' := 68) (ls' := [some (.inr (.inr (0, 0))), some (.inl x1), some (.inl x2), o3, some (.inl x4), some (.inl x5), o6, some (.inl s.1), some (.inl s.2.1)]) (st' := [.inl s.2.1, .inl r63, .inl s.1]) (m' := m63) (by decide +kernel) rfl ?_
    refine go_callS h.1 (index := 183) (n := 2) (as := [.inl r63, .inl s.2.1]) (rest := [.inl s.1]) (ctr_X6_bitIf (xl X) (xA X) (xC X) (xI X) (xk X) r63 s.2.1 m63) (by decide +kernel) wd_s_X6_183 rfl (h.room (by first | decide | omega) (by decide)) h.cl (Nat.le_of_ble_eq_true rfl) puI_ok rfl (fun r68 m68 _ => ?_)
    show Go X (Em X puI) 71 [some (.inr (.inr (0, 0))), some (.inl x1), some (.inl x2), o3, some (.inl x4), some (.inl x5), o6, some (.inl s.1), some (.inl s.2.1)] [.inl r68, .inl s.1] m68 _
    refine go_blk h.1 (is := [.ior, .istore 7, .iinc 8 1]) (pc' := 77) (ls' := [some (.inr (.inr (0, 0))), some (.inl x1), some (.inl x2), o3, some (.inl x4), some (.inl x5), (clrL o6), some (.inl (s.1 ||| r68)), some (.inl (s.2.1 + (1 : Int32)))]) (st' := []) (m' := m68) (by decide +kernel) rfl ?_
    refine go_goto h.1 (off := -50) 27 (by decide +kernel) (by decide) ?_
    exact hn ((s.1 ||| r68), (s.2.1 + (1 : Int32)), m68) (o3) ((clrL o6))

def f_X6_kinds (x1 : Int32) (x2 : Int32) (x3 : Int32) (x4 : Int32) (x5 : Int32) (m : Mem) : Option (Int32 × Mem) :=
  bnd (f_X6_refusalWithFish x1 x2 x3 x4 x5 m) (fun r8 m8 =>
    if r8 = 0 then
      lpk (f_X6_kinds_b27 x1 x2 x4 x5) fuelN ((0 : Int32), (0 : Int32), m8) (fun t27 =>
        some (t27.1, t27.2))
    else
      some (r8, m8))
theorem g_X6_kinds {X : XT} (h : MX X prog_1_method_17_code P_X6 6 (some .int)) (x1 : Int32) (x2 : Int32) (x3 : Int32) (x4 : Int32) (x5 : Int32) (m : Mem) : Go X (Em X puI) 0 [some (.inr (.inr (0, 0))), some (.inl x1), some (.inl x2), some (.inl x3), some (.inl x4), some (.inl x5), none, none, none] [] m (f_X6_kinds x1 x2 x3 x4 x5 m) := by
  unfold f_X6_kinds
  refine go_blk h.1 (is := [.aload_n 0, .iload_n 1, .iload_n 2, .iload_n 3, .iload 4, .iload 5]) (pc' := 8) (ls' := [some (.inr (.inr (0, 0))), some (.inl x1), some (.inl x2), some (.inl x3), some (.inl x4), some (.inl x5), none, none, none]) (st' := [.inl x5, .inl x4, .inl x3, .inl x2, .inl x1, .inr (.inr (0, 0))]) (m' := m) (by decide +kernel) rfl ?_
  refine go_callV h.1 (index := 141) (n := 5) (t := 0) (i := 0) (ci := 6) (nf := 7) (cz := (RX6, TX6, 7)) (as := [.inl x1, .inl x2, .inl x3, .inl x4, .inl x5]) (rest := []) (ctr_X6_refusalWithFish (xl X) (xA X) (xC X) (xI X) (xk X) x1 x2 x3 x4 x5 m) (by decide +kernel) rfl rfl wd_v_X6_141 rfl (h.room (by first | decide | omega) (by decide)) h.cl (Nat.le_of_ble_eq_true rfl) puI_ok rfl (fun r8 m8 _ => ?_)
  show Go X (Em X puI) 11 [some (.inr (.inr (0, 0))), some (.inl x1), some (.inl x2), some (.inl x3), some (.inl x4), some (.inl x5), none, none, none] [.inl r8] m8 _
  refine go_blk h.1 (is := [.istore 6, .iload 6]) (pc' := 15) (ls' := [some (.inr (.inr (0, 0))), some (.inl x1), some (.inl x2), some (.inl x3), some (.inl x4), some (.inl x5), some (.inl r8), none, none]) (st' := [.inl r8]) (m' := m8) (by decide +kernel) rfl ?_
  refine go_ifeq h.1 (off := 6) 21 (by decide +kernel) (by decide) (fun c15 => ?_) (fun c15 => ?_)
  · refine go_blk h.1 (is := [.iconst 0, .istore 7, .iconst 0, .istore 8]) (pc' := 27) (ls' := [some (.inr (.inr (0, 0))), some (.inl x1), some (.inl x2), some (.inl x3), some (.inl x4), some (.inl x5), some (.inl r8), some (.inl (0 : Int32)), some (.inl (0 : Int32))]) (st' := []) (m' := m8) (by decide +kernel) rfl ?_
    refine go_loop (hd := fun (s27 : Int32 × Int32 × Mem) o => ∀ (o3 : Option AV) (o6 : Option AV), Go X (Em X puI) 27 [some (.inr (.inr (0, 0))), some (.inl x1), some (.inl x2), o3, some (.inl x4), some (.inl x5), o6, some (.inl s27.1), some (.inl s27.2.1)] [] s27.2.2 o) (fun s _ _ => go_none) (fun s27 nx_ hn_ => g_X6_kinds_b27 h x1 x2 x4 x5 nx_ _ hn_ ?_ s27) fuelN ((0 : Int32), (0 : Int32), m8) (some (.inl x3)) (some (.inl r8))
    intro t27 o0_27 o1_27 o2_27 o3_27 o4_27 o5_27 o6_27 o8_27
    refine go_blk h.1 (is := [.iload 7]) (pc' := 82) (ls' := [o0_27, o1_27, o2_27, o3_27, o4_27, o5_27, o6_27, some (.inl t27.1), o8_27]) (st' := [.inl t27.1]) (m' := t27.2) (by decide +kernel) rfl ?_
    exact go_iret h.1 h.2.2.2.2 (by decide +kernel)
  · refine go_blk h.1 (is := [.iload 6]) (pc' := 20) (ls' := [some (.inr (.inr (0, 0))), some (.inl x1), some (.inl x2), some (.inl x3), some (.inl x4), some (.inl x5), some (.inl r8), none, none]) (st' := [.inl r8]) (m' := m8) (by decide +kernel) rfl ?_
    exact go_iret h.1 h.2.2.2.2 (by decide +kernel)
theorem ctr_X6_kinds (l : Launch) (A : AR → Nat) (dC : Nat → ClassId) (dI : Nat → Nat → Nat) (cs : Nat → ClassId) (x1 : Int32) (x2 : Int32) (x3 : Int32) (x4 : Int32) (x5 : Int32) (m : Mem) : Ctr l A dC dI cs yX6_kinds prog_1_method_17_code 9 (some .int) 6 puI [.inr (.inr (0, 0)), .inl x1, .inl x2, .inl x3, .inl x4, .inl x5] m (f_X6_kinds x1 x2 x3 x4 x5 m) :=
  ctr_of (P := P_X6) (by decide +kernel) rfl pt_X6 rfl rfl (fun X hC _ _ _ _ _ hR h0 h1 hr => g_X6_kinds ⟨hC, hR, h0, h1, hr⟩ x1 x2 x3 x4 x5 m)

def f_X6_odds_j84 (next : Int32 × Int32 × Mem → Option (Int64 × Mem)) (exit : Int32 × Mem → Option (Int64 × Mem)) (x1 : Int32) (x3 : Int32) (x4 : Int32) (x5 : Int32) (x6 : Int32) (x7 : Int32) (x8 : Int32) (m : Mem) : Option (Int64 × Mem) :=
  next (x6, (x8 + (1 : Int32)), m)
theorem g_X6_odds_j84 {X : XT} (h : MX X prog_1_method_18_code P_X6 5 (some .long)) (next : Int32 × Int32 × Mem → Option (Int64 × Mem)) (exit : Int32 × Mem → Option (Int64 × Mem)) (x1 : Int32) (x3 : Int32) (x4 : Int32) (x5 : Int32) (x6 : Int32) (x7 : Int32) (x8 : Int32) (m : Mem) (o2 : Option AV) (hn : ∀ (s : Int32 × Int32 × Mem) (o2 : Option AV), Go X (Em X puL) 33 [some (.inr (.inr (0, 0))), some (.inl x1), o2, some (.inl x3), some (.inl x4), some (.inl x5), some (.inl s.1), some (.inl x7), some (.inl s.2.1)] [] s.2.2 (next s)) (hx : ∀ (t : Int32 × Mem) (o0 : Option AV) (o1 : Option AV) (o2 : Option AV) (o3 : Option AV) (o4 : Option AV) (o8 : Option AV), Go X (Em X puL) 90 [o0, o1, o2, o3, o4, some (.inl x5), some (.inl t.1), some (.inl x7), o8] [] t.2 (exit t)) : Go X (Em X puL) 84 [some (.inr (.inr (0, 0))), some (.inl x1), o2, some (.inl x3), some (.inl x4), some (.inl x5), some (.inl x6), some (.inl x7), some (.inl x8)] [] m (f_X6_odds_j84 next exit x1 x3 x4 x5 x6 x7 x8 m) := by
  unfold f_X6_odds_j84
  refine go_blk h.1 (is := [.iinc 8 1]) (pc' := 87) (ls' := [some (.inr (.inr (0, 0))), some (.inl x1), o2, some (.inl x3), some (.inl x4), some (.inl x5), some (.inl x6), some (.inl x7), some (.inl (x8 + (1 : Int32)))]) (st' := []) (m' := m) (by decide +kernel) rfl ?_
  refine go_goto h.1 (off := -54) 33 (by decide +kernel) (by decide) ?_
  exact hn (x6, (x8 + (1 : Int32)), m) (o2)

def f_X6_odds_b33 (x1 : Int32) (x3 : Int32) (x4 : Int32) (x5 : Int32) (x7 : Int32) (next : Int32 × Int32 × Mem → Option (Int64 × Mem)) (exit : Int32 × Mem → Option (Int64 × Mem)) (s : Int32 × Int32 × Mem) : Option (Int64 × Mem) :=
  if (64 : Int32) ≤ s.2.1 then
    exit (s.1, s.2.2)
  else
    bnd (f_X0_start 0 s.2.2) (fun _ m48 =>
      if inB x1 4 = true then
        bnd (f_X0_walk 0 (ix x1) x3 x4 (mset m48 7 0 10 s.2.1)) (fun r73 m73 =>
          if r73 = (-9 : Int32) then
            f_X6_odds_j84 next exit x1 x3 x4 x5 (s.1 + (1 : Int32)) x7 s.2.1 m73
          else
            f_X6_odds_j84 next exit x1 x3 x4 x5 s.1 x7 s.2.1 m73)
      else none)
theorem g_X6_odds_b33 {X : XT} (h : MX X prog_1_method_18_code P_X6 5 (some .long)) (x1 : Int32) (x3 : Int32) (x4 : Int32) (x5 : Int32) (x7 : Int32) (next : Int32 × Int32 × Mem → Option (Int64 × Mem)) (exit : Int32 × Mem → Option (Int64 × Mem)) (hn : ∀ (s : Int32 × Int32 × Mem) (o2 : Option AV), Go X (Em X puL) 33 [some (.inr (.inr (0, 0))), some (.inl x1), o2, some (.inl x3), some (.inl x4), some (.inl x5), some (.inl s.1), some (.inl x7), some (.inl s.2.1)] [] s.2.2 (next s)) (hx : ∀ (t : Int32 × Mem) (o0 : Option AV) (o1 : Option AV) (o2 : Option AV) (o3 : Option AV) (o4 : Option AV) (o8 : Option AV), Go X (Em X puL) 90 [o0, o1, o2, o3, o4, some (.inl x5), some (.inl t.1), some (.inl x7), o8] [] t.2 (exit t)) (s : Int32 × Int32 × Mem) (o2 : Option AV) : Go X (Em X puL) 33 [some (.inr (.inr (0, 0))), some (.inl x1), o2, some (.inl x3), some (.inl x4), some (.inl x5), some (.inl s.1), some (.inl x7), some (.inl s.2.1)] [] s.2.2 (f_X6_odds_b33 x1 x3 x4 x5 x7 next exit s) := by
  unfold f_X6_odds_b33
  refine go_blk h.1 (is := [.iload 8, .bipush 64]) (pc' := 37) (ls' := [some (.inr (.inr (0, 0))), some (.inl x1), o2, some (.inl x3), some (.inl x4), some (.inl x5), some (.inl s.1), some (.inl x7), some (.inl s.2.1)]) (st' := [.inl (64 : Int32), .inl s.2.1]) (m' := s.2.2) (by decide +kernel) rfl ?_
  refine go_icmpge h.1 (off := 53) 90 (by decide +kernel) (by decide) (fun c37 => ?_) (fun c37 => ?_)
  · exact hx (s.1, s.2.2) (some (.inr (.inr (0, 0)))) (some (.inl x1)) (o2) (some (.inl x3)) (some (.inl x4)) (some (.inl s.2.1))
  · refine go_blk h.1 (is := [.aload_n 0, .getfield 28, .aload_n 0, .getfield 21]) (pc' := 48) (ls' := [some (.inr (.inr (0, 0))), some (.inl x1), o2, some (.inl x3), some (.inl x4), some (.inl x5), some (.inl s.1), some (.inl x7), some (.inl s.2.1)]) (st' := [.inr (.inr (4, 0)), .inr (.inr (7, 0))]) (m' := s.2.2) (by decide +kernel) rfl ?_
    refine go_callV h.1 (index := 170) (n := 1) (t := 7) (i := 0) (ci := 0) (nf := 14) (cz := (RX0, TX0, 14)) (as := [.inr (.inr (4, 0))]) (rest := []) (ctr_X0_start (xl X) (xA X) (xC X) (xI X) (xk X) 0 s.2.2) (by decide +kernel) rfl rfl wd_v_X6_170 rfl (h.room (by first | decide | omega) (by decide)) h.cl (Nat.le_of_ble_eq_true rfl) puV_ok rfl (fun r48 m48 _ => ?_)
    show Go X (Em X puL) 51 [some (.inr (.inr (0, 0))), some (.inl x1), o2, some (.inl x3), some (.inl x4), some (.inl x5), some (.inl s.1), some (.inl x7), some (.inl s.2.1)] [] m48 _
    refine go_blk h.1 (is := [.aload_n 0, .getfield 28, .iload 8, .putfield 131, .aload_n 0, .getfield 28, .aload_n 0, .getfield 13, .iload_n 1]) (pc' := 69) (ls' := [some (.inr (.inr (0, 0))), some (.inl x1), o2, some (.inl x3), some (.inl x4), some (.inl x5), some (.inl s.1), some (.inl x7), some (.inl s.2.1)]) (st' := [.inl x1, .inr (.inr (1, 0)), .inr (.inr (7, 0))]) (m' := (mset m48 7 0 10 s.2.1)) (by decide +kernel) rfl ?_
    refine go_aald h.1 (kd := 0) (z := (2, (ix x1))) (by decide +kernel) rfl rfl (by decide) rfl (fun b69 => ?_)
    refine go_blk h.1 (is := [.iload_n 3, .iload 4]) (pc' := 73) (ls' := [some (.inr (.inr (0, 0))), some (.inl x1), o2, some (.inl x3), some (.inl x4), some (.inl x5), some (.inl s.1), some (.inl x7), some (.inl s.2.1)]) (st' := [.inl x4, .inl x3, .inr (.inr (2, (ix x1))), .inr (.inr (7, 0))]) (m' := (mset m48 7 0 10 s.2.1)) (by decide +kernel) rfl ?_
    refine go_callV h.1 (index := 174) (n := 3) (t := 7) (i := 0) (ci := 0) (nf := 14) (cz := (RX0, TX0, 14)) (as := [.inr (.inr (2, (ix x1))), .inl x3, .inl x4]) (rest := []) (ctr_X0_walk (xl X) (xA X) (xC X) (xI X) (xk X) 0 (ix x1) x3 x4 (mset m48 7 0 10 s.2.1)) (by decide +kernel) rfl rfl wd_v_X6_174 rfl (h.room (by first | decide | omega) (by decide)) h.cl (Nat.le_of_ble_eq_true rfl) puI_ok rfl (fun r73 m73 _ => ?_)
    show Go X (Em X puL) 76 [some (.inr (.inr (0, 0))), some (.inl x1), o2, some (.inl x3), some (.inl x4), some (.inl x5), some (.inl s.1), some (.inl x7), some (.inl s.2.1)] [.inl r73] m73 _
    refine go_blk h.1 (is := [.bipush (-9)]) (pc' := 78) (ls' := [some (.inr (.inr (0, 0))), some (.inl x1), o2, some (.inl x3), some (.inl x4), some (.inl x5), some (.inl s.1), some (.inl x7), some (.inl s.2.1)]) (st' := [.inl (-9 : Int32), .inl r73]) (m' := m73) (by decide +kernel) rfl ?_
    refine go_icmpne h.1 (off := 6) 84 (by decide +kernel) (by decide) (fun c78 => ?_) (fun c78 => ?_)
    · exact g_X6_odds_j84 h next exit x1 x3 x4 x5 s.1 x7 s.2.1 m73 (o2) hn hx
    · refine go_blk h.1 (is := [.iinc 6 1]) (pc' := 84) (ls' := [some (.inr (.inr (0, 0))), some (.inl x1), o2, some (.inl x3), some (.inl x4), some (.inl x5), some (.inl (s.1 + (1 : Int32))), some (.inl x7), some (.inl s.2.1)]) (st' := []) (m' := m73) (by decide +kernel) rfl ?_
      exact g_X6_odds_j84 h next exit x1 x3 x4 x5 (s.1 + (1 : Int32)) x7 s.2.1 m73 (o2) hn hx

def f_X6_odds_b93 (x5 : Int32) (next : Int32 × Int32 × Int32 × Mem → Option (Int64 × Mem)) (exit : Int32 × Int32 × Mem → Option (Int64 × Mem)) (s : Int32 × Int32 × Int32 × Mem) : Option (Int64 × Mem) :=
  if (6 : Int32) ≤ s.2.2.1 then
    exit (s.1, s.2.1, s.2.2.2)
  else
    if ¬ (2 : Int32) = 0 then
      if (s.1 - s.1 / (2 : Int32) * (2 : Int32)) = 0 then
        if ¬ (2 : Int32) = 0 then
          if ¬ (2 : Int32) = 0 then
            next ((s.1 / (2 : Int32)), (s.2.1 / (2 : Int32)), (s.2.2.1 + (1 : Int32)), s.2.2.2)
          else none
        else none
      else
        exit (s.1, s.2.1, s.2.2.2)
    else none
theorem g_X6_odds_b93 {X : XT} (h : MX X prog_1_method_18_code P_X6 5 (some .long)) (x5 : Int32) (next : Int32 × Int32 × Int32 × Mem → Option (Int64 × Mem)) (exit : Int32 × Int32 × Mem → Option (Int64 × Mem)) (hn : ∀ (s : Int32 × Int32 × Int32 × Mem) (o0 : Option AV) (o1 : Option AV) (o2 : Option AV) (o3 : Option AV) (o4 : Option AV), Go X (Em X puL) 93 [o0, o1, o2, o3, o4, some (.inl x5), some (.inl s.1), some (.inl s.2.1), some (.inl s.2.2.1)] [] s.2.2.2 (next s)) (hx : ∀ (t : Int32 × Int32 × Mem) (o0 : Option AV) (o1 : Option AV) (o2 : Option AV) (o3 : Option AV) (o4 : Option AV) (o8 : Option AV), Go X (Em X puL) 125 [o0, o1, o2, o3, o4, some (.inl x5), some (.inl t.1), some (.inl t.2.1), o8] [] t.2.2 (exit t)) (s : Int32 × Int32 × Int32 × Mem) (o0 : Option AV) (o1 : Option AV) (o2 : Option AV) (o3 : Option AV) (o4 : Option AV) : Go X (Em X puL) 93 [o0, o1, o2, o3, o4, some (.inl x5), some (.inl s.1), some (.inl s.2.1), some (.inl s.2.2.1)] [] s.2.2.2 (f_X6_odds_b93 x5 next exit s) := by
  unfold f_X6_odds_b93
  refine go_blk h.1 (is := [.iload 8, .bipush 6]) (pc' := 97) (ls' := [o0, o1, o2, o3, o4, some (.inl x5), some (.inl s.1), some (.inl s.2.1), some (.inl s.2.2.1)]) (st' := [.inl (6 : Int32), .inl s.2.2.1]) (m' := s.2.2.2) (by decide +kernel) rfl ?_
  refine go_icmpge h.1 (off := 28) 125 (by decide +kernel) (by decide) (fun c97 => ?_) (fun c97 => ?_)
  · exact hx (s.1, s.2.1, s.2.2.2) (o0) (o1) (o2) (o3) (o4) (some (.inl s.2.2.1))
  · refine go_blk h.1 (is := [.iload 6, .iconst 2]) (pc' := 103) (ls' := [o0, o1, o2, o3, o4, some (.inl x5), some (.inl s.1), some (.inl s.2.1), some (.inl s.2.2.1)]) (st' := [.inl (2 : Int32), .inl s.1]) (m' := s.2.2.2) (by decide +kernel) rfl ?_
    refine go_irem h.1 (by decide +kernel) (fun z103 => ?_)
    refine go_ifne h.1 (off := 21) 125 (by decide +kernel) (by decide) (fun c104 => ?_) (fun c104 => ?_)
    · exact hx (s.1, s.2.1, s.2.2.2) (o0) (o1) (o2) (o3) (o4) (some (.inl s.2.2.1))
    · refine go_blk h.1 (is := [.iload 6, .iconst 2]) (pc' := 110) (ls' := [o0, o1, o2, o3, o4, some (.inl x5), some (.inl s.1), some (.inl s.2.1), some (.inl s.2.2.1)]) (st' := [.inl (2 : Int32), .inl s.1]) (m' := s.2.2.2) (by decide +kernel) rfl ?_
      refine go_idiv h.1 (by decide +kernel) (fun z110 => ?_)
      refine go_blk h.1 (is := [.istore 6, .iload 7, .iconst 2]) (pc' := 116) (ls' := [o0, o1, o2, o3, o4, some (.inl x5), some (.inl (s.1 / (2 : Int32))), some (.inl s.2.1), some (.inl s.2.2.1)]) (st' := [.inl (2 : Int32), .inl s.2.1]) (m' := s.2.2.2) (by decide +kernel) rfl ?_
      refine go_idiv h.1 (by decide +kernel) (fun z116 => ?_)
      refine go_blk h.1 (is := [.istore 7, .iinc 8 1]) (pc' := 122) (ls' := [o0, o1, o2, o3, o4, some (.inl x5), some (.inl (s.1 / (2 : Int32))), some (.inl (s.2.1 / (2 : Int32))), some (.inl (s.2.2.1 + (1 : Int32)))]) (st' := []) (m' := s.2.2.2) (by decide +kernel) rfl ?_
      refine go_goto h.1 (off := -29) 93 (by decide +kernel) (by decide) ?_
      exact hn ((s.1 / (2 : Int32)), (s.2.1 / (2 : Int32)), (s.2.2.1 + (1 : Int32)), s.2.2.2) (o0) (o1) (o2) (o3) (o4)

def f_X6_odds (x1 : Int32) (x2 : Int32) (x3 : Int32) (x4 : Int32) (x5 : Int32) (m : Mem) : Option (Int64 × Mem) :=
  bnd (f_X6_isWithin x5 (0 : Int32) (1 : Int32) m) (fun r10 m10 =>
    bnd (f_X6_refusalOf x1 x2 x3 x4 r10 m10) (fun r13 m13 =>
      if r13 = 0 then
        lpk (f_X6_odds_b33 x1 x3 x4 x5 (64 : Int32)) fuelN ((0 : Int32), (0 : Int32), m13) (fun t33 =>
          lpk (f_X6_odds_b93 x5) fuelN (t33.1, (64 : Int32), (0 : Int32), t33.2) (fun t93 =>
            if x5 = 0 then
              some (t93.1.toInt64, t93.2.2)
            else
              some (t93.2.1.toInt64, t93.2.2)))
      else
        some ((-9223372036854775808 : Int64), m13)))
theorem g_X6_odds {X : XT} (h : MX X prog_1_method_18_code P_X6 5 (some .long)) (x1 : Int32) (x2 : Int32) (x3 : Int32) (x4 : Int32) (x5 : Int32) (m : Mem) : Go X (Em X puL) 0 [some (.inr (.inr (0, 0))), some (.inl x1), some (.inl x2), some (.inl x3), some (.inl x4), some (.inl x5), none, none, none] [] m (f_X6_odds x1 x2 x3 x4 x5 m) := by
  unfold f_X6_odds
  refine go_blk h.1 (is := [.aload_n 0, .iload_n 1, .iload_n 2, .iload_n 3, .iload 4, .iload 5, .iconst 0, .iconst 1]) (pc' := 10) (ls' := [some (.inr (.inr (0, 0))), some (.inl x1), some (.inl x2), some (.inl x3), some (.inl x4), some (.inl x5), none, none, none]) (st' := [.inl (1 : Int32), .inl (0 : Int32), .inl x5, .inl x4, .inl x3, .inl x2, .inl x1, .inr (.inr (0, 0))]) (m' := m) (by decide +kernel) rfl ?_
  refine go_callS h.1 (index := 111) (n := 3) (as := [.inl x5, .inl (0 : Int32), .inl (1 : Int32)]) (rest := [.inl x4, .inl x3, .inl x2, .inl x1, .inr (.inr (0, 0))]) (ctr_X6_isWithin (xl X) (xA X) (xC X) (xI X) (xk X) x5 (0 : Int32) (1 : Int32) m) (by decide +kernel) wd_s_X6_111 rfl (h.room (by first | decide | omega) (by decide)) h.cl (Nat.le_of_ble_eq_true rfl) puI_ok rfl (fun r10 m10 _ => ?_)
  show Go X (Em X puL) 13 [some (.inr (.inr (0, 0))), some (.inl x1), some (.inl x2), some (.inl x3), some (.inl x4), some (.inl x5), none, none, none] [.inl r10, .inl x4, .inl x3, .inl x2, .inl x1, .inr (.inr (0, 0))] m10 _
  refine go_callV h.1 (index := 121) (n := 5) (t := 0) (i := 0) (ci := 6) (nf := 7) (cz := (RX6, TX6, 7)) (as := [.inl x1, .inl x2, .inl x3, .inl x4, .inl r10]) (rest := []) (ctr_X6_refusalOf (xl X) (xA X) (xC X) (xI X) (xk X) x1 x2 x3 x4 r10 m10) (by decide +kernel) rfl rfl wd_v_X6_121 rfl (h.room (by first | decide | omega) (by decide)) h.cl (Nat.le_of_ble_eq_true rfl) puI_ok rfl (fun r13 m13 _ => ?_)
  show Go X (Em X puL) 16 [some (.inr (.inr (0, 0))), some (.inl x1), some (.inl x2), some (.inl x3), some (.inl x4), some (.inl x5), none, none, none] [.inl r13] m13 _
  refine go_ifeq h.1 (off := 7) 23 (by decide +kernel) (by decide) (fun c16 => ?_) (fun c16 => ?_)
  · refine go_blk h.1 (is := [.iconst 0, .istore 6, .bipush 64, .istore 7, .iconst 0, .istore 8]) (pc' := 33) (ls' := [some (.inr (.inr (0, 0))), some (.inl x1), some (.inl x2), some (.inl x3), some (.inl x4), some (.inl x5), some (.inl (0 : Int32)), some (.inl (64 : Int32)), some (.inl (0 : Int32))]) (st' := []) (m' := m13) (by decide +kernel) rfl ?_
    refine go_loop (hd := fun (s33 : Int32 × Int32 × Mem) o => ∀ (o2 : Option AV), Go X (Em X puL) 33 [some (.inr (.inr (0, 0))), some (.inl x1), o2, some (.inl x3), some (.inl x4), some (.inl x5), some (.inl s33.1), some (.inl (64 : Int32)), some (.inl s33.2.1)] [] s33.2.2 o) (fun s _ => go_none) (fun s33 nx_ hn_ => g_X6_odds_b33 h x1 x3 x4 x5 (64 : Int32) nx_ _ hn_ ?_ s33) fuelN ((0 : Int32), (0 : Int32), m13) (some (.inl x2))
    intro t33 o0_33 o1_33 o2_33 o3_33 o4_33 o8_33
    refine go_blk h.1 (is := [.iconst 0, .istore 8]) (pc' := 93) (ls' := [o0_33, o1_33, o2_33, o3_33, o4_33, some (.inl x5), some (.inl t33.1), some (.inl (64 : Int32)), some (.inl (0 : Int32))]) (st' := []) (m' := t33.2) (by decide +kernel) rfl ?_
    refine go_loop (hd := fun (s93 : Int32 × Int32 × Int32 × Mem) o => ∀ (o0 : Option AV) (o1 : Option AV) (o2 : Option AV) (o3 : Option AV) (o4 : Option AV), Go X (Em X puL) 93 [o0, o1, o2, o3, o4, some (.inl x5), some (.inl s93.1), some (.inl s93.2.1), some (.inl s93.2.2.1)] [] s93.2.2.2 o) (fun s _ _ _ _ _ => go_none) (fun s93 nx_ hn_ => g_X6_odds_b93 h x5 nx_ _ hn_ ?_ s93) fuelN (t33.1, (64 : Int32), (0 : Int32), t33.2) (o0_33) (o1_33) (o2_33) (o3_33) (o4_33)
    intro t93 o0_93 o1_93 o2_93 o3_93 o4_93 o8_93
    refine go_blk h.1 (is := [.iload 5]) (pc' := 127) (ls' := [o0_93, o1_93, o2_93, o3_93, o4_93, some (.inl x5), some (.inl t93.1), some (.inl t93.2.1), o8_93]) (st' := [.inl x5]) (m' := t93.2.2) (by decide +kernel) rfl ?_
    refine go_ifne h.1 (off := 9) 136 (by decide +kernel) (by decide) (fun c127 => ?_) (fun c127 => ?_)
    · refine go_blk h.1 (is := [.iload 7, .i2l]) (pc' := 139) (ls' := [o0_93, o1_93, o2_93, o3_93, o4_93, some (.inl x5), some (.inl t93.1), some (.inl t93.2.1), o8_93]) (st' := [.inr (.inl t93.2.1.toInt64)]) (m' := t93.2.2) (by decide +kernel) rfl ?_
      exact go_lret h.1 h.2.2.2.2 (by decide +kernel)
    · refine go_blk h.1 (is := [.iload 6, .i2l]) (pc' := 133) (ls' := [o0_93, o1_93, o2_93, o3_93, o4_93, some (.inl x5), some (.inl t93.1), some (.inl t93.2.1), o8_93]) (st' := [.inr (.inl t93.1.toInt64)]) (m' := t93.2.2) (by decide +kernel) rfl ?_
      refine go_goto h.1 (off := 6) 139 (by decide +kernel) (by decide) ?_
      exact go_lret h.1 h.2.2.2.2 (by decide +kernel)
  · refine go_blk h.1 (is := [.ldc2_w 190]) (pc' := 22) (ls' := [some (.inr (.inr (0, 0))), some (.inl x1), some (.inl x2), some (.inl x3), some (.inl x4), some (.inl x5), none, none, none]) (st' := [.inr (.inl (-9223372036854775808 : Int64))]) (m' := m13) (by decide +kernel) rfl ?_
    exact go_lret h.1 h.2.2.2.2 (by decide +kernel)
theorem ctr_X6_odds (l : Launch) (A : AR → Nat) (dC : Nat → ClassId) (dI : Nat → Nat → Nat) (cs : Nat → ClassId) (x1 : Int32) (x2 : Int32) (x3 : Int32) (x4 : Int32) (x5 : Int32) (m : Mem) : Ctr l A dC dI cs yX6_odds prog_1_method_18_code 9 (some .long) 5 puL [.inr (.inr (0, 0)), .inl x1, .inl x2, .inl x3, .inl x4, .inl x5] m (f_X6_odds x1 x2 x3 x4 x5 m) :=
  ctr_of (P := P_X6) (by decide +kernel) rfl pt_X6 rfl rfl (fun X hC _ _ _ _ _ hR h0 h1 hr => g_X6_odds ⟨hC, hR, h0, h1, hr⟩ x1 x2 x3 x4 x5 m)

def f_J7_fill_53178_t3_b5 (w : Nat) (x1 : Int32) (x3 : Int32) (next : Int32 × Mem → Option (Unit × Mem)) (exit : Mem → Option (Unit × Mem)) (s : Int32 × Mem) : Option (Unit × Mem) :=
  if x3 ≤ s.1 then
    exit (s.2)
  else
    if inB s.1 60 = true then
      next ((s.1 + (1 : Int32)), (mset s.2 3 w (ix s.1) x1))
    else none
theorem g_J7_fill_53178_t3_b5 {X : XT} (h : MX X prog_12_method_103_code P_J7 0 none) (w : Nat) (x1 : Int32) (x3 : Int32) (next : Int32 × Mem → Option (Unit × Mem)) (exit : Mem → Option (Unit × Mem)) (hn : ∀ (s : Int32 × Mem), Go X (Em X puV) 5 [some (.inr (.inr (3, w))), some (.inl x1), some (.inl s.1), some (.inl x3)] [] s.2 (next s)) (hx : ∀ (t : Mem) (o0 : Option AV) (o1 : Option AV) (o2 : Option AV) (o3 : Option AV), Go X (Em X puV) 20 [o0, o1, o2, o3] [] t (exit t)) (s : Int32 × Mem) : Go X (Em X puV) 5 [some (.inr (.inr (3, w))), some (.inl x1), some (.inl s.1), some (.inl x3)] [] s.2 (f_J7_fill_53178_t3_b5 w x1 x3 next exit s) := by
  unfold f_J7_fill_53178_t3_b5
  refine go_blk h.1 (is := [.iload_n 2, .iload_n 3]) (pc' := 7) (ls' := [some (.inr (.inr (3, w))), some (.inl x1), some (.inl s.1), some (.inl x3)]) (st' := [.inl x3, .inl s.1]) (m' := s.2) (by decide +kernel) rfl ?_
  refine go_icmpge h.1 (off := 13) 20 (by decide +kernel) (by decide) (fun c7 => ?_) (fun c7 => ?_)
  · exact hx (s.2) (some (.inr (.inr (3, w)))) (some (.inl x1)) (some (.inl s.1)) (some (.inl x3))
  · refine go_blk h.1 (is := [.aload_n 0, .iload_n 2, .iload_n 1]) (pc' := 13) (ls' := [some (.inr (.inr (3, w))), some (.inl x1), some (.inl s.1), some (.inl x3)]) (st' := [.inl x1, .inl s.1, .inr (.inr (3, w))]) (m' := s.2) (by decide +kernel) rfl ?_
    refine go_iast h.1 (by decide +kernel) rfl rfl (fun b13 => ?_)
    refine go_blk h.1 (is := [.iinc 2 1]) (pc' := 17) (ls' := [some (.inr (.inr (3, w))), some (.inl x1), some (.inl (s.1 + (1 : Int32))), some (.inl x3)]) (st' := []) (m' := (mset s.2 3 w (ix s.1) x1)) (by decide +kernel) rfl ?_
    refine go_goto h.1 (off := -12) 5 (by decide +kernel) (by decide) ?_
    exact hn ((s.1 + (1 : Int32)), (mset s.2 3 w (ix s.1) x1))

def f_J7_fill_53178_t3 (w : Nat) (x1 : Int32) (m : Mem) : Option (Unit × Mem) :=
  lpk (f_J7_fill_53178_t3_b5 w x1 (60 : Int32)) fuelN ((0 : Int32), m) (fun t5 =>
    some ((), t5))
theorem g_J7_fill_53178_t3 {X : XT} (h : MX X prog_12_method_103_code P_J7 0 none) (w : Nat) (x1 : Int32) (m : Mem) : Go X (Em X puV) 0 [some (.inr (.inr (3, w))), some (.inl x1), none, none] [] m (f_J7_fill_53178_t3 w x1 m) := by
  unfold f_J7_fill_53178_t3
  refine go_blk h.1 (is := [.iconst 0, .istore_n 2, .aload_n 0]) (pc' := 3) (ls' := [some (.inr (.inr (3, w))), some (.inl x1), some (.inl (0 : Int32)), none]) (st' := [.inr (.inr (3, w))]) (m' := m) (by decide +kernel) rfl ?_
  refine go_alen h.1 (by decide +kernel) rfl rfl ?_
  show Go X (Em X puV) 4 [some (.inr (.inr (3, w))), some (.inl x1), some (.inl (0 : Int32)), none] [.inl (60 : Int32)] m _
  refine go_blk h.1 (is := [.istore_n 3]) (pc' := 5) (ls' := [some (.inr (.inr (3, w))), some (.inl x1), some (.inl (0 : Int32)), some (.inl (60 : Int32))]) (st' := []) (m' := m) (by decide +kernel) rfl ?_
  refine go_loop (hd := fun (s5 : Int32 × Mem) o => Go X (Em X puV) 5 [some (.inr (.inr (3, w))), some (.inl x1), some (.inl s5.1), some (.inl (60 : Int32))] [] s5.2 o) (fun s => go_none) (fun s5 nx_ hn_ => g_J7_fill_53178_t3_b5 h w x1 (60 : Int32) nx_ _ hn_ ?_ s5) fuelN ((0 : Int32), m)
  intro t5 o0_5 o1_5 o2_5 o3_5
  exact go_vret h.1 h.2.2.2.2 (by decide +kernel)
theorem ctr_J7_fill_53178_t3 (l : Launch) (A : AR → Nat) (dC : Nat → ClassId) (dI : Nat → Nat → Nat) (cs : Nat → ClassId) (w : Nat) (x1 : Int32) (m : Mem) : Ctr l A dC dI cs yJ7_fill_53178 prog_12_method_103_code 4 none 0 puV [.inr (.inr (3, w)), .inl x1] m (f_J7_fill_53178_t3 w x1 m) :=
  ctr_of (P := P_J7) (by decide +kernel) rfl pt_J7 rfl rfl (fun X hC _ _ _ _ _ hR h0 h1 hr => g_J7_fill_53178_t3 ⟨hC, hR, h0, h1, hr⟩ w x1 m)

def f_X4_begin (w : Nat) (x1 : Int32) (x2 : Int32) (m : Mem) : Option (Unit × Mem) :=
  bnd (f_J7_fill_53178_t3 w (0 : Int32) m) (fun _ m5 =>
    some ((), (mset (mset (mset m5 2 w 1 (1 : Int32)) 2 w 2 x1) 2 w 3 (if (60 : Int32) < (if x2 < (0 : Int32) then (0 : Int32) else x2) then (60 : Int32) else (if x2 < (0 : Int32) then (0 : Int32) else x2)))))
theorem g_X4_begin {X : XT} (h : MX X prog_6_method_2_code P_X4 1 none) (w : Nat) (x1 : Int32) (x2 : Int32) (m : Mem) : Go X (Em X puV) 0 [some (.inr (.inr (2, w))), some (.inl x1), some (.inl x2)] [] m (f_X4_begin w x1 x2 m) := by
  unfold f_X4_begin
  refine go_blk h.1 (is := [.aload_n 0, .getfield 9, .iconst 0]) (pc' := 5) (ls' := [some (.inr (.inr (2, w))), some (.inl x1), some (.inl x2)]) (st' := [.inl (0 : Int32), .inr (.inr (3, w))]) (m' := m) (by decide +kernel) rfl ?_
  refine go_callS h.1 (index := 26) (n := 2) (as := [.inr (.inr (3, w)), .inl (0 : Int32)]) (rest := []) (ctr_J7_fill_53178_t3 (xl X) (xA X) (xC X) (xI X) (xk X) w (0 : Int32) m) (by decide +kernel) wd_s_X4_26 rfl (h.room (by first | decide | omega) (by decide)) h.cl (Nat.le_of_ble_eq_true rfl) puV_ok rfl (fun r5 m5 _ => ?_)
  show Go X (Em X puV) 8 [some (.inr (.inr (2, w))), some (.inl x1), some (.inl x2)] [] m5 _
  refine go_blk h.1 (is := [.aload_n 0, .iconst 1, .putfield 15, .aload_n 0, .iload_n 1, .putfield 19, .aload_n 0, .iload_n 2, .iconst 0]) (pc' := 21) (ls' := [some (.inr (.inr (2, w))), some (.inl x1), some (.inl x2)]) (st' := [.inl (0 : Int32), .inl x2, .inr (.inr (2, w))]) (m' := (mset (mset m5 2 w 1 (1 : Int32)) 2 w 2 x1)) (by decide +kernel) rfl ?_
  refine go_max h (index := 32) (by first | decide | omega) (by decide +kernel) wd_ml_X4_32 wd_st_max wd_in_Math wd_co_max (Nat.le_of_ble_eq_true rfl) ?_
  show Go X (Em X puV) 24 [some (.inr (.inr (2, w))), some (.inl x1), some (.inl x2)] [.inl (if x2 < (0 : Int32) then (0 : Int32) else x2), .inr (.inr (2, w))] (mset (mset m5 2 w 1 (1 : Int32)) 2 w 2 x1) _
  refine go_blk h.1 (is := [.bipush 60]) (pc' := 26) (ls' := [some (.inr (.inr (2, w))), some (.inl x1), some (.inl x2)]) (st' := [.inl (60 : Int32), .inl (if x2 < (0 : Int32) then (0 : Int32) else x2), .inr (.inr (2, w))]) (m' := (mset (mset m5 2 w 1 (1 : Int32)) 2 w 2 x1)) (by decide +kernel) rfl ?_
  refine go_min h (index := 38) (by first | decide | omega) (by decide +kernel) wd_ml_X4_38 wd_st_min wd_in_Math wd_co_min (Nat.le_of_ble_eq_true rfl) ?_
  show Go X (Em X puV) 29 [some (.inr (.inr (2, w))), some (.inl x1), some (.inl x2)] [.inl (if (60 : Int32) < (if x2 < (0 : Int32) then (0 : Int32) else x2) then (60 : Int32) else (if x2 < (0 : Int32) then (0 : Int32) else x2)), .inr (.inr (2, w))] (mset (mset m5 2 w 1 (1 : Int32)) 2 w 2 x1) _
  refine go_blk h.1 (is := [.putfield 23]) (pc' := 32) (ls' := [some (.inr (.inr (2, w))), some (.inl x1), some (.inl x2)]) (st' := []) (m' := (mset (mset (mset m5 2 w 1 (1 : Int32)) 2 w 2 x1) 2 w 3 (if (60 : Int32) < (if x2 < (0 : Int32) then (0 : Int32) else x2) then (60 : Int32) else (if x2 < (0 : Int32) then (0 : Int32) else x2)))) (by decide +kernel) rfl ?_
  exact go_vret h.1 h.2.2.2.2 (by decide +kernel)
theorem ctr_X4_begin (l : Launch) (A : AR → Nat) (dC : Nat → ClassId) (dI : Nat → Nat → Nat) (cs : Nat → ClassId) (w : Nat) (x1 : Int32) (x2 : Int32) (m : Mem) : Ctr l A dC dI cs yX4_begin prog_6_method_2_code 3 none 1 puV [.inr (.inr (2, w)), .inl x1, .inl x2] m (f_X4_begin w x1 x2 m) :=
  ctr_of (P := P_X4) (by decide +kernel) rfl pt_X4 rfl rfl (fun X hC _ _ _ _ _ hR h0 h1 hr => g_X4_begin ⟨hC, hR, h0, h1, hr⟩ w x1 x2 m)

def f_X6_sheet (x1 : Int32) (x2 : Int32) (x3 : Int32) (m : Mem) : Option (Int32 × Mem) :=
  bnd (f_X6_isSheet x1 (mset m 0 0 6 (0 : Int32))) (fun r6 m6 =>
    if r6 = 0 then
      some ((-1 : Int32), m6)
    else
      bnd (f_X6_isLane x2 m6) (fun r15 m15 =>
        if r15 = 0 then
          some ((-2 : Int32), m15)
        else
          if x3 ≤ (60 : Int32) then
            if 0 ≤ x3 then
              if inB x1 4 = true then
                bnd (f_X4_begin (ix x1) x2 x3 m15) (fun _ m48 =>
                  some ((1 : Int32), m48))
              else none
            else
              bnd (f_X6_faulty (4 : Int32) m15) (fun r36 m36 =>
                some (r36, m36))
          else
            some ((-2 : Int32), m15)))
theorem g_X6_sheet {X : XT} (h : MX X prog_1_method_19_code P_X6 2 (some .int)) (x1 : Int32) (x2 : Int32) (x3 : Int32) (m : Mem) : Go X (Em X puI) 0 [some (.inr (.inr (0, 0))), some (.inl x1), some (.inl x2), some (.inl x3)] [] m (f_X6_sheet x1 x2 x3 m) := by
  unfold f_X6_sheet
  refine go_blk h.1 (is := [.aload_n 0, .iconst 0, .putfield 50, .iload_n 1]) (pc' := 6) (ls' := [some (.inr (.inr (0, 0))), some (.inl x1), some (.inl x2), some (.inl x3)]) (st' := [.inl x1]) (m' := (mset m 0 0 6 (0 : Int32))) (by decide +kernel) rfl ?_
  refine go_callS h.1 (index := 53) (n := 1) (as := [.inl x1]) (rest := []) (ctr_X6_isSheet (xl X) (xA X) (xC X) (xI X) (xk X) x1 (mset m 0 0 6 (0 : Int32))) (by decide +kernel) wd_s_X6_53 rfl (h.room (by first | decide | omega) (by decide)) h.cl (Nat.le_of_ble_eq_true rfl) puI_ok rfl (fun r6 m6 _ => ?_)
  show Go X (Em X puI) 9 [some (.inr (.inr (0, 0))), some (.inl x1), some (.inl x2), some (.inl x3)] [.inl r6] m6 _
  refine go_ifne h.1 (off := 5) 14 (by decide +kernel) (by decide) (fun c9 => ?_) (fun c9 => ?_)
  · refine go_blk h.1 (is := [.iload_n 2]) (pc' := 15) (ls' := [some (.inr (.inr (0, 0))), some (.inl x1), some (.inl x2), some (.inl x3)]) (st' := [.inl x2]) (m' := m6) (by decide +kernel) rfl ?_
    refine go_callS h.1 (index := 57) (n := 1) (as := [.inl x2]) (rest := []) (ctr_X6_isLane (xl X) (xA X) (xC X) (xI X) (xk X) x2 m6) (by decide +kernel) wd_s_X6_57 rfl (h.room (by first | decide | omega) (by decide)) h.cl (Nat.le_of_ble_eq_true rfl) puI_ok rfl (fun r15 m15 _ => ?_)
    show Go X (Em X puI) 18 [some (.inr (.inr (0, 0))), some (.inl x1), some (.inl x2), some (.inl x3)] [.inl r15] m15 _
    refine go_ifeq h.1 (off := 9) 27 (by decide +kernel) (by decide) (fun c18 => ?_) (fun c18 => ?_)
    · refine go_blk h.1 (is := [.bipush (-2)]) (pc' := 29) (ls' := [some (.inr (.inr (0, 0))), some (.inl x1), some (.inl x2), some (.inl x3)]) (st' := [.inl (-2 : Int32)]) (m' := m15) (by decide +kernel) rfl ?_
      exact go_iret h.1 h.2.2.2.2 (by decide +kernel)
    · refine go_blk h.1 (is := [.iload_n 3, .bipush 60]) (pc' := 24) (ls' := [some (.inr (.inr (0, 0))), some (.inl x1), some (.inl x2), some (.inl x3)]) (st' := [.inl (60 : Int32), .inl x3]) (m' := m15) (by decide +kernel) rfl ?_
      refine go_icmple h.1 (off := 6) 30 (by decide +kernel) (by decide) (fun c24 => ?_) (fun c24 => ?_)
      · refine go_blk h.1 (is := [.iload_n 3]) (pc' := 31) (ls' := [some (.inr (.inr (0, 0))), some (.inl x1), some (.inl x2), some (.inl x3)]) (st' := [.inl x3]) (m' := m15) (by decide +kernel) rfl ?_
        refine go_ifge h.1 (off := 9) 40 (by decide +kernel) (by decide) (fun c31 => ?_) (fun c31 => ?_)
        · refine go_blk h.1 (is := [.aload_n 0, .getfield 13, .iload_n 1]) (pc' := 45) (ls' := [some (.inr (.inr (0, 0))), some (.inl x1), some (.inl x2), some (.inl x3)]) (st' := [.inl x1, .inr (.inr (1, 0))]) (m' := m15) (by decide +kernel) rfl ?_
          refine go_aald h.1 (kd := 0) (z := (2, (ix x1))) (by decide +kernel) rfl rfl (by decide) rfl (fun b45 => ?_)
          refine go_blk h.1 (is := [.iload_n 2, .iload_n 3]) (pc' := 48) (ls' := [some (.inr (.inr (0, 0))), some (.inl x1), some (.inl x2), some (.inl x3)]) (st' := [.inl x3, .inl x2, .inr (.inr (2, (ix x1)))]) (m' := m15) (by decide +kernel) rfl ?_
          refine go_callV h.1 (index := 192) (n := 2) (t := 2) (i := (ix x1)) (ci := 4) (nf := 4) (cz := (RX4, TX4, 4)) (as := [.inl x2, .inl x3]) (rest := []) (ctr_X4_begin (xl X) (xA X) (xC X) (xI X) (xk X) (ix x1) x2 x3 m15) (by decide +kernel) rfl rfl wd_v_X6_192 rfl (h.room (by first | decide | omega) (by decide)) h.cl (Nat.le_of_ble_eq_true rfl) puV_ok rfl (fun r48 m48 _ => ?_)
          show Go X (Em X puI) 51 [some (.inr (.inr (0, 0))), some (.inl x1), some (.inl x2), some (.inl x3)] [] m48 _
          refine go_blk h.1 (is := [.iconst 1]) (pc' := 52) (ls' := [some (.inr (.inr (0, 0))), some (.inl x1), some (.inl x2), some (.inl x3)]) (st' := [.inl (1 : Int32)]) (m' := m48) (by decide +kernel) rfl ?_
          exact go_iret h.1 h.2.2.2.2 (by decide +kernel)
        · refine go_blk h.1 (is := [.aload_n 0, .iconst 4]) (pc' := 36) (ls' := [some (.inr (.inr (0, 0))), some (.inl x1), some (.inl x2), some (.inl x3)]) (st' := [.inl (4 : Int32), .inr (.inr (0, 0))]) (m' := m15) (by decide +kernel) rfl ?_
          refine go_callV h.1 (index := 64) (n := 1) (t := 0) (i := 0) (ci := 6) (nf := 7) (cz := (RX6, TX6, 7)) (as := [.inl (4 : Int32)]) (rest := []) (ctr_X6_faulty (xl X) (xA X) (xC X) (xI X) (xk X) (4 : Int32) m15) (by decide +kernel) rfl rfl wd_v_X6_64 rfl (h.room (by first | decide | omega) (by decide)) h.cl (Nat.le_of_ble_eq_true rfl) puI_ok rfl (fun r36 m36 _ => ?_)
          show Go X (Em X puI) 39 [some (.inr (.inr (0, 0))), some (.inl x1), some (.inl x2), some (.inl x3)] [.inl r36] m36 _
          exact go_iret h.1 h.2.2.2.2 (by decide +kernel)
      · refine go_blk h.1 (is := [.bipush (-2)]) (pc' := 29) (ls' := [some (.inr (.inr (0, 0))), some (.inl x1), some (.inl x2), some (.inl x3)]) (st' := [.inl (-2 : Int32)]) (m' := m15) (by decide +kernel) rfl ?_
        exact go_iret h.1 h.2.2.2.2 (by decide +kernel)
  · refine go_blk h.1 (is := [.iconst (-1)]) (pc' := 13) (ls' := [some (.inr (.inr (0, 0))), some (.inl x1), some (.inl x2), some (.inl x3)]) (st' := [.inl (-1 : Int32)]) (m' := m6) (by decide +kernel) rfl ?_
    exact go_iret h.1 h.2.2.2.2 (by decide +kernel)
theorem ctr_X6_sheet (l : Launch) (A : AR → Nat) (dC : Nat → ClassId) (dI : Nat → Nat → Nat) (cs : Nat → ClassId) (x1 : Int32) (x2 : Int32) (x3 : Int32) (m : Mem) : Ctr l A dC dI cs yX6_sheet prog_1_method_19_code 4 (some .int) 2 puI [.inr (.inr (0, 0)), .inl x1, .inl x2, .inl x3] m (f_X6_sheet x1 x2 x3 m) :=
  ctr_of (P := P_X6) (by decide +kernel) rfl pt_X6 rfl rfl (fun X hC _ _ _ _ _ hR h0 h1 hr => g_X6_sheet ⟨hC, hR, h0, h1, hr⟩ x1 x2 x3 m)

def f_X6_lose_j26 (s0 : Int32) (x1 : Int32) (m : Mem) : Option (Int32 × Mem) :=
  if inB x1 4 = true then
    some (s0, (mset m 2 (ix x1) 1 (0 : Int32)))
  else none
theorem g_X6_lose_j26 {X : XT} (h : MX X prog_1_method_20_code P_X6 2 (some .int)) (s0 : Int32) (x1 : Int32) (m : Mem) (o2 : Option AV) : Go X (Em X puI) 26 [some (.inr (.inr (0, 0))), some (.inl x1), o2] [.inl s0] m (f_X6_lose_j26 s0 x1 m) := by
  unfold f_X6_lose_j26
  refine go_blk h.1 (is := [.istore_n 2, .aload_n 0, .getfield 13, .iload_n 1]) (pc' := 32) (ls' := [some (.inr (.inr (0, 0))), some (.inl x1), some (.inl s0)]) (st' := [.inl x1, .inr (.inr (1, 0))]) (m' := m) (by decide +kernel) rfl ?_
  refine go_aald h.1 (kd := 0) (z := (2, (ix x1))) (by decide +kernel) rfl rfl (by decide) rfl (fun b32 => ?_)
  refine go_blk h.1 (is := [.iconst 0, .putfield 196, .iload_n 2]) (pc' := 38) (ls' := [some (.inr (.inr (0, 0))), some (.inl x1), some (.inl s0)]) (st' := [.inl s0]) (m' := (mset m 2 (ix x1) 1 (0 : Int32))) (by decide +kernel) rfl ?_
  exact go_iret h.1 h.2.2.2.2 (by decide +kernel)

def f_X6_lose (x1 : Int32) (m : Mem) : Option (Int32 × Mem) :=
  bnd (f_X6_isSheet x1 m) (fun r1 m1 =>
    if r1 = 0 then
      some ((-1 : Int32), m1)
    else
      if inB x1 4 = true then
        if (m1 2 (ix x1) 1) = 0 then
          f_X6_lose_j26 (0 : Int32) x1 m1
        else
          f_X6_lose_j26 (1 : Int32) x1 m1
      else none)
theorem g_X6_lose {X : XT} (h : MX X prog_1_method_20_code P_X6 2 (some .int)) (x1 : Int32) (m : Mem) : Go X (Em X puI) 0 [some (.inr (.inr (0, 0))), some (.inl x1), none] [] m (f_X6_lose x1 m) := by
  unfold f_X6_lose
  refine go_blk h.1 (is := [.iload_n 1]) (pc' := 1) (ls' := [some (.inr (.inr (0, 0))), some (.inl x1), none]) (st' := [.inl x1]) (m' := m) (by decide +kernel) rfl ?_
  refine go_callS h.1 (index := 53) (n := 1) (as := [.inl x1]) (rest := []) (ctr_X6_isSheet (xl X) (xA X) (xC X) (xI X) (xk X) x1 m) (by decide +kernel) wd_s_X6_53 rfl (h.room (by first | decide | omega) (by decide)) h.cl (Nat.le_of_ble_eq_true rfl) puI_ok rfl (fun r1 m1 _ => ?_)
  show Go X (Em X puI) 4 [some (.inr (.inr (0, 0))), some (.inl x1), none] [.inl r1] m1 _
  refine go_ifne h.1 (off := 5) 9 (by decide +kernel) (by decide) (fun c4 => ?_) (fun c4 => ?_)
  · refine go_blk h.1 (is := [.aload_n 0, .getfield 13, .iload_n 1]) (pc' := 14) (ls' := [some (.inr (.inr (0, 0))), some (.inl x1), none]) (st' := [.inl x1, .inr (.inr (1, 0))]) (m' := m1) (by decide +kernel) rfl ?_
    refine go_aald h.1 (kd := 0) (z := (2, (ix x1))) (by decide +kernel) rfl rfl (by decide) rfl (fun b14 => ?_)
    refine go_blk h.1 (is := [.getfield 196]) (pc' := 18) (ls' := [some (.inr (.inr (0, 0))), some (.inl x1), none]) (st' := [.inl (m1 2 (ix x1) 1)]) (m' := m1) (by decide +kernel) rfl ?_
    refine go_ifeq h.1 (off := 7) 25 (by decide +kernel) (by decide) (fun c18 => ?_) (fun c18 => ?_)
    · refine go_blk h.1 (is := [.iconst 0]) (pc' := 26) (ls' := [some (.inr (.inr (0, 0))), some (.inl x1), none]) (st' := [.inl (0 : Int32)]) (m' := m1) (by decide +kernel) rfl ?_
      exact g_X6_lose_j26 h (0 : Int32) x1 m1 (none)
    · refine go_blk h.1 (is := [.iconst 1]) (pc' := 22) (ls' := [some (.inr (.inr (0, 0))), some (.inl x1), none]) (st' := [.inl (1 : Int32)]) (m' := m1) (by decide +kernel) rfl ?_
      refine go_goto h.1 (off := 4) 26 (by decide +kernel) (by decide) ?_
      exact g_X6_lose_j26 h (1 : Int32) x1 m1 (none)
  · refine go_blk h.1 (is := [.iconst (-1)]) (pc' := 8) (ls' := [some (.inr (.inr (0, 0))), some (.inl x1), none]) (st' := [.inl (-1 : Int32)]) (m' := m1) (by decide +kernel) rfl ?_
    exact go_iret h.1 h.2.2.2.2 (by decide +kernel)
theorem ctr_X6_lose (l : Launch) (A : AR → Nat) (dC : Nat → ClassId) (dI : Nat → Nat → Nat) (cs : Nat → ClassId) (x1 : Int32) (m : Mem) : Ctr l A dC dI cs yX6_lose prog_1_method_20_code 3 (some .int) 2 puI [.inr (.inr (0, 0)), .inl x1] m (f_X6_lose x1 m) :=
  ctr_of (P := P_X6) (by decide +kernel) rfl pt_X6 rfl rfl (fun X hC _ _ _ _ _ hR h0 h1 hr => g_X6_lose ⟨hC, hR, h0, h1, hr⟩ x1 m)

def f_X4_cut (w : Nat) (x1 : Int32) (m : Mem) : Option (Int32 × Mem) :=
  if (m 2 w 2) = (0 : Int32) then
    some (x1.toInt8.toInt32, m)
  else
    if (m 2 w 2) = (1 : Int32) then
      some (x1.toInt16.toInt32, m)
    else
      some (x1, m)
theorem g_X4_cut {X : XT} (h : MX X prog_6_method_7_code P_X4 0 (some .int)) (w : Nat) (x1 : Int32) (m : Mem) : Go X (Em X puI) 0 [some (.inr (.inr (2, w))), some (.inl x1)] [] m (f_X4_cut w x1 m) := by
  unfold f_X4_cut
  refine go_blk h.1 (is := [.aload_n 0, .getfield 19]) (pc' := 4) (ls' := [some (.inr (.inr (2, w))), some (.inl x1)]) (st' := [.inl (m 2 w 2)]) (m' := m) (by decide +kernel) rfl ?_
  refine go_ite (fun w4_0 => ?_) (fun w4_0 => ?_)
  · refine go_lsIn h.1 (dflt := 34) (ps := #[(0, 28), (1, 31)]) (len := 28) (off := 28) (0 : Int32) 32 w4_0 (by decide +kernel) (by decide) rfl (by decide) ?_
    refine go_blk h.1 (is := [.iload_n 1, .i2b]) (pc' := 34) (ls' := [some (.inr (.inr (2, w))), some (.inl x1)]) (st' := [.inl x1.toInt8.toInt32]) (m' := m) (by decide +kernel) rfl ?_
    exact go_iret h.1 h.2.2.2.2 (by decide +kernel)
  · refine go_ite (fun w4_1 => ?_) (fun w4_1 => ?_)
    · refine go_lsIn h.1 (dflt := 34) (ps := #[(0, 28), (1, 31)]) (len := 28) (off := 31) (1 : Int32) 35 w4_1 (by decide +kernel) (by decide) rfl (by decide) ?_
      refine go_blk h.1 (is := [.iload_n 1, .i2s]) (pc' := 37) (ls' := [some (.inr (.inr (2, w))), some (.inl x1)]) (st' := [.inl x1.toInt16.toInt32]) (m' := m) (by decide +kernel) rfl ?_
      exact go_iret h.1 h.2.2.2.2 (by decide +kernel)
    · refine go_ls h.1 (dflt := 34) (ps := #[(0, 28), (1, 31)]) (len := 28) 38 (off := 34) (by decide +kernel) (by decide) (by simp only [Op.lookupswitch.offset]; rw [if_neg (fun q => toInt_ne w4_0 q.symm)]; rw [if_neg (fun q => toInt_ne w4_1 q.symm)]) (by decide) ?_
      refine go_blk h.1 (is := [.iload_n 1]) (pc' := 39) (ls' := [some (.inr (.inr (2, w))), some (.inl x1)]) (st' := [.inl x1]) (m' := m) (by decide +kernel) rfl ?_
      exact go_iret h.1 h.2.2.2.2 (by decide +kernel)
theorem ctr_X4_cut (l : Launch) (A : AR → Nat) (dC : Nat → ClassId) (dI : Nat → Nat → Nat) (cs : Nat → ClassId) (w : Nat) (x1 : Int32) (m : Mem) : Ctr l A dC dI cs yX4_cut prog_6_method_7_code 2 (some .int) 0 puI [.inr (.inr (2, w)), .inl x1] m (f_X4_cut w x1 m) :=
  ctr_of (P := P_X4) (by decide +kernel) rfl pt_X4 rfl rfl (fun X hC _ _ _ _ _ hR h0 h1 hr => g_X4_cut ⟨hC, hR, h0, h1, hr⟩ w x1 m)

def f_X4_set (w : Nat) (x1 : Int32) (x2 : Int32) (m : Mem) : Option (Unit × Mem) :=
  bnd (f_X4_holds w x1 (1 : Int32) m) (fun r3 m3 =>
    if r3 = 0 then
      some ((), m3)
    else
      bnd (f_X4_cut w x2 m3) (fun r16 m16 =>
        if inB x1 60 = true then
          some ((), (mset m16 3 w (ix x1) r16))
        else none))
theorem g_X4_set {X : XT} (h : MX X prog_6_method_6_code P_X4 1 none) (w : Nat) (x1 : Int32) (x2 : Int32) (m : Mem) : Go X (Em X puV) 0 [some (.inr (.inr (2, w))), some (.inl x1), some (.inl x2)] [] m (f_X4_set w x1 x2 m) := by
  unfold f_X4_set
  refine go_blk h.1 (is := [.aload_n 0, .iload_n 1, .iconst 1]) (pc' := 3) (ls' := [some (.inr (.inr (2, w))), some (.inl x1), some (.inl x2)]) (st' := [.inl (1 : Int32), .inl x1, .inr (.inr (2, w))]) (m' := m) (by decide +kernel) rfl ?_
  refine go_callV h.1 (index := 41) (n := 2) (t := 2) (i := w) (ci := 4) (nf := 4) (cz := (RX4, TX4, 4)) (as := [.inl x1, .inl (1 : Int32)]) (rest := []) (ctr_X4_holds (xl X) (xA X) (xC X) (xI X) (xk X) w x1 (1 : Int32) m) (by decide +kernel) rfl rfl wd_v_X4_41 rfl (h.room (by first | decide | omega) (by decide)) h.cl (Nat.le_of_ble_eq_true rfl) puI_ok rfl (fun r3 m3 _ => ?_)
  show Go X (Em X puV) 6 [some (.inr (.inr (2, w))), some (.inl x1), some (.inl x2)] [.inl r3] m3 _
  refine go_ifeq h.1 (off := 14) 20 (by decide +kernel) (by decide) (fun c6 => ?_) (fun c6 => ?_)
  · exact go_vret h.1 h.2.2.2.2 (by decide +kernel)
  · refine go_blk h.1 (is := [.aload_n 0, .getfield 9, .iload_n 1, .aload_n 0, .iload_n 2]) (pc' := 16) (ls' := [some (.inr (.inr (2, w))), some (.inl x1), some (.inl x2)]) (st' := [.inl x2, .inr (.inr (2, w)), .inl x1, .inr (.inr (3, w))]) (m' := m3) (by decide +kernel) rfl ?_
    refine go_callV h.1 (index := 45) (n := 1) (t := 2) (i := w) (ci := 4) (nf := 4) (cz := (RX4, TX4, 4)) (as := [.inl x2]) (rest := [.inl x1, .inr (.inr (3, w))]) (ctr_X4_cut (xl X) (xA X) (xC X) (xI X) (xk X) w x2 m3) (by decide +kernel) rfl rfl wd_v_X4_45 rfl (h.room (by first | decide | omega) (by decide)) h.cl (Nat.le_of_ble_eq_true rfl) puI_ok rfl (fun r16 m16 _ => ?_)
    show Go X (Em X puV) 19 [some (.inr (.inr (2, w))), some (.inl x1), some (.inl x2)] [.inl r16, .inl x1, .inr (.inr (3, w))] m16 _
    refine go_iast h.1 (by decide +kernel) rfl rfl (fun b19 => ?_)
    exact go_vret h.1 h.2.2.2.2 (by decide +kernel)
theorem ctr_X4_set (l : Launch) (A : AR → Nat) (dC : Nat → ClassId) (dI : Nat → Nat → Nat) (cs : Nat → ClassId) (w : Nat) (x1 : Int32) (x2 : Int32) (m : Mem) : Ctr l A dC dI cs yX4_set prog_6_method_6_code 3 none 1 puV [.inr (.inr (2, w)), .inl x1, .inl x2] m (f_X4_set w x1 x2 m) :=
  ctr_of (P := P_X4) (by decide +kernel) rfl pt_X4 rfl rfl (fun X hC _ _ _ _ _ hR h0 h1 hr => g_X4_set ⟨hC, hR, h0, h1, hr⟩ w x1 x2 m)

def f_X6_put (x1 : Int32) (x2 : Int32) (x3 : Int32) (m : Mem) : Option (Int32 × Mem) :=
  bnd (f_X6_isSheet x1 (mset m 0 0 6 (0 : Int32))) (fun r6 m6 =>
    if r6 = 0 then
      some ((-1 : Int32), m6)
    else
      if inB x1 4 = true then
        if (m6 2 (ix x1) 1) = 0 then
          bnd (f_X6_faulty (1 : Int32) m6) (fun r28 m28 =>
            some (r28, m28))
        else
          if inB x1 4 = true then
            bnd (f_X4_holds (ix x1) x2 (1 : Int32) m6) (fun r40 m40 =>
              if r40 = 0 then
                bnd (f_X6_faulty (3 : Int32) m40) (fun r48 m48 =>
                  some (r48, m48))
              else
                if inB x1 4 = true then
                  bnd (f_X4_set (ix x1) x2 x3 m40) (fun _ m60 =>
                    some ((1 : Int32), m60))
                else none)
          else none
      else none)
theorem g_X6_put {X : XT} (h : MX X prog_1_method_21_code P_X6 2 (some .int)) (x1 : Int32) (x2 : Int32) (x3 : Int32) (m : Mem) : Go X (Em X puI) 0 [some (.inr (.inr (0, 0))), some (.inl x1), some (.inl x2), some (.inl x3)] [] m (f_X6_put x1 x2 x3 m) := by
  unfold f_X6_put
  refine go_blk h.1 (is := [.aload_n 0, .iconst 0, .putfield 50, .iload_n 1]) (pc' := 6) (ls' := [some (.inr (.inr (0, 0))), some (.inl x1), some (.inl x2), some (.inl x3)]) (st' := [.inl x1]) (m' := (mset m 0 0 6 (0 : Int32))) (by decide +kernel) rfl ?_
  refine go_callS h.1 (index := 53) (n := 1) (as := [.inl x1]) (rest := []) (ctr_X6_isSheet (xl X) (xA X) (xC X) (xI X) (xk X) x1 (mset m 0 0 6 (0 : Int32))) (by decide +kernel) wd_s_X6_53 rfl (h.room (by first | decide | omega) (by decide)) h.cl (Nat.le_of_ble_eq_true rfl) puI_ok rfl (fun r6 m6 _ => ?_)
  show Go X (Em X puI) 9 [some (.inr (.inr (0, 0))), some (.inl x1), some (.inl x2), some (.inl x3)] [.inl r6] m6 _
  refine go_ifne h.1 (off := 5) 14 (by decide +kernel) (by decide) (fun c9 => ?_) (fun c9 => ?_)
  · refine go_blk h.1 (is := [.aload_n 0, .getfield 13, .iload_n 1]) (pc' := 19) (ls' := [some (.inr (.inr (0, 0))), some (.inl x1), some (.inl x2), some (.inl x3)]) (st' := [.inl x1, .inr (.inr (1, 0))]) (m' := m6) (by decide +kernel) rfl ?_
    refine go_aald h.1 (kd := 0) (z := (2, (ix x1))) (by decide +kernel) rfl rfl (by decide) rfl (fun b19 => ?_)
    refine go_blk h.1 (is := [.getfield 196]) (pc' := 23) (ls' := [some (.inr (.inr (0, 0))), some (.inl x1), some (.inl x2), some (.inl x3)]) (st' := [.inl (m6 2 (ix x1) 1)]) (m' := m6) (by decide +kernel) rfl ?_
    refine go_ifne h.1 (off := 9) 32 (by decide +kernel) (by decide) (fun c23 => ?_) (fun c23 => ?_)
    · refine go_blk h.1 (is := [.aload_n 0, .getfield 13, .iload_n 1]) (pc' := 37) (ls' := [some (.inr (.inr (0, 0))), some (.inl x1), some (.inl x2), some (.inl x3)]) (st' := [.inl x1, .inr (.inr (1, 0))]) (m' := m6) (by decide +kernel) rfl ?_
      refine go_aald h.1 (kd := 0) (z := (2, (ix x1))) (by decide +kernel) rfl rfl (by decide) rfl (fun b37 => ?_)
      refine go_blk h.1 (is := [.iload_n 2, .iconst 1]) (pc' := 40) (ls' := [some (.inr (.inr (0, 0))), some (.inl x1), some (.inl x2), some (.inl x3)]) (st' := [.inl (1 : Int32), .inl x2, .inr (.inr (2, (ix x1)))]) (m' := m6) (by decide +kernel) rfl ?_
      refine go_callV h.1 (index := 200) (n := 2) (t := 2) (i := (ix x1)) (ci := 4) (nf := 4) (cz := (RX4, TX4, 4)) (as := [.inl x2, .inl (1 : Int32)]) (rest := []) (ctr_X4_holds (xl X) (xA X) (xC X) (xI X) (xk X) (ix x1) x2 (1 : Int32) m6) (by decide +kernel) rfl rfl wd_v_X6_200 rfl (h.room (by first | decide | omega) (by decide)) h.cl (Nat.le_of_ble_eq_true rfl) puI_ok rfl (fun r40 m40 _ => ?_)
      show Go X (Em X puI) 43 [some (.inr (.inr (0, 0))), some (.inl x1), some (.inl x2), some (.inl x3)] [.inl r40] m40 _
      refine go_ifne h.1 (off := 9) 52 (by decide +kernel) (by decide) (fun c43 => ?_) (fun c43 => ?_)
      · refine go_blk h.1 (is := [.aload_n 0, .getfield 13, .iload_n 1]) (pc' := 57) (ls' := [some (.inr (.inr (0, 0))), some (.inl x1), some (.inl x2), some (.inl x3)]) (st' := [.inl x1, .inr (.inr (1, 0))]) (m' := m40) (by decide +kernel) rfl ?_
        refine go_aald h.1 (kd := 0) (z := (2, (ix x1))) (by decide +kernel) rfl rfl (by decide) rfl (fun b57 => ?_)
        refine go_blk h.1 (is := [.iload_n 2, .iload_n 3]) (pc' := 60) (ls' := [some (.inr (.inr (0, 0))), some (.inl x1), some (.inl x2), some (.inl x3)]) (st' := [.inl x3, .inl x2, .inr (.inr (2, (ix x1)))]) (m' := m40) (by decide +kernel) rfl ?_
        refine go_callV h.1 (index := 204) (n := 2) (t := 2) (i := (ix x1)) (ci := 4) (nf := 4) (cz := (RX4, TX4, 4)) (as := [.inl x2, .inl x3]) (rest := []) (ctr_X4_set (xl X) (xA X) (xC X) (xI X) (xk X) (ix x1) x2 x3 m40) (by decide +kernel) rfl rfl wd_v_X6_204 rfl (h.room (by first | decide | omega) (by decide)) h.cl (Nat.le_of_ble_eq_true rfl) puV_ok rfl (fun r60 m60 _ => ?_)
        show Go X (Em X puI) 63 [some (.inr (.inr (0, 0))), some (.inl x1), some (.inl x2), some (.inl x3)] [] m60 _
        refine go_blk h.1 (is := [.iconst 1]) (pc' := 64) (ls' := [some (.inr (.inr (0, 0))), some (.inl x1), some (.inl x2), some (.inl x3)]) (st' := [.inl (1 : Int32)]) (m' := m60) (by decide +kernel) rfl ?_
        exact go_iret h.1 h.2.2.2.2 (by decide +kernel)
      · refine go_blk h.1 (is := [.aload_n 0, .iconst 3]) (pc' := 48) (ls' := [some (.inr (.inr (0, 0))), some (.inl x1), some (.inl x2), some (.inl x3)]) (st' := [.inl (3 : Int32), .inr (.inr (0, 0))]) (m' := m40) (by decide +kernel) rfl ?_
        refine go_callV h.1 (index := 64) (n := 1) (t := 0) (i := 0) (ci := 6) (nf := 7) (cz := (RX6, TX6, 7)) (as := [.inl (3 : Int32)]) (rest := []) (ctr_X6_faulty (xl X) (xA X) (xC X) (xI X) (xk X) (3 : Int32) m40) (by decide +kernel) rfl rfl wd_v_X6_64 rfl (h.room (by first | decide | omega) (by decide)) h.cl (Nat.le_of_ble_eq_true rfl) puI_ok rfl (fun r48 m48 _ => ?_)
        show Go X (Em X puI) 51 [some (.inr (.inr (0, 0))), some (.inl x1), some (.inl x2), some (.inl x3)] [.inl r48] m48 _
        exact go_iret h.1 h.2.2.2.2 (by decide +kernel)
    · refine go_blk h.1 (is := [.aload_n 0, .iconst 1]) (pc' := 28) (ls' := [some (.inr (.inr (0, 0))), some (.inl x1), some (.inl x2), some (.inl x3)]) (st' := [.inl (1 : Int32), .inr (.inr (0, 0))]) (m' := m6) (by decide +kernel) rfl ?_
      refine go_callV h.1 (index := 64) (n := 1) (t := 0) (i := 0) (ci := 6) (nf := 7) (cz := (RX6, TX6, 7)) (as := [.inl (1 : Int32)]) (rest := []) (ctr_X6_faulty (xl X) (xA X) (xC X) (xI X) (xk X) (1 : Int32) m6) (by decide +kernel) rfl rfl wd_v_X6_64 rfl (h.room (by first | decide | omega) (by decide)) h.cl (Nat.le_of_ble_eq_true rfl) puI_ok rfl (fun r28 m28 _ => ?_)
      show Go X (Em X puI) 31 [some (.inr (.inr (0, 0))), some (.inl x1), some (.inl x2), some (.inl x3)] [.inl r28] m28 _
      exact go_iret h.1 h.2.2.2.2 (by decide +kernel)
  · refine go_blk h.1 (is := [.iconst (-1)]) (pc' := 13) (ls' := [some (.inr (.inr (0, 0))), some (.inl x1), some (.inl x2), some (.inl x3)]) (st' := [.inl (-1 : Int32)]) (m' := m6) (by decide +kernel) rfl ?_
    exact go_iret h.1 h.2.2.2.2 (by decide +kernel)
theorem ctr_X6_put (l : Launch) (A : AR → Nat) (dC : Nat → ClassId) (dI : Nat → Nat → Nat) (cs : Nat → ClassId) (x1 : Int32) (x2 : Int32) (x3 : Int32) (m : Mem) : Ctr l A dC dI cs yX6_put prog_1_method_21_code 4 (some .int) 2 puI [.inr (.inr (0, 0)), .inl x1, .inl x2, .inl x3] m (f_X6_put x1 x2 x3 m) :=
  ctr_of (P := P_X6) (by decide +kernel) rfl pt_X6 rfl rfl (fun X hC _ _ _ _ _ hR h0 h1 hr => g_X6_put ⟨hC, hR, h0, h1, hr⟩ x1 x2 x3 m)

def f_X6_cell (x1 : Int32) (x2 : Int32) (x3 : Int32) (m : Mem) : Option (Int64 × Mem) :=
  bnd (f_X6_isSheet x1 (mset m 0 0 6 (0 : Int32))) (fun r6 m6 =>
    if r6 = 0 then
      some ((-9223372036854775808 : Int64), m6)
    else
      bnd (f_X6_isLane x3 m6) (fun r13 m13 =>
        if r13 = 0 then
          some ((-9223372036854775808 : Int64), m13)
        else
          if inB x1 4 = true then
            bnd (f_X4_faultAt (ix x1) x3 x2 (1 : Int32) m13) (fun r33 m33 =>
              if ((mset m33 0 0 6 r33) 0 0 6) = 0 then
                if inB x1 4 = true then
                  bnd (f_X4_at (ix x1) x2 (mset m33 0 0 6 r33)) (fun r59 m59 =>
                    some (r59.toInt64, m59))
                else none
              else
                some ((-9223372036854775808 : Int64), (mset m33 0 0 6 r33)))
          else none))
theorem g_X6_cell {X : XT} (h : MX X prog_1_method_22_code P_X6 2 (some .long)) (x1 : Int32) (x2 : Int32) (x3 : Int32) (m : Mem) : Go X (Em X puL) 0 [some (.inr (.inr (0, 0))), some (.inl x1), some (.inl x2), some (.inl x3)] [] m (f_X6_cell x1 x2 x3 m) := by
  unfold f_X6_cell
  refine go_blk h.1 (is := [.aload_n 0, .iconst 0, .putfield 50, .iload_n 1]) (pc' := 6) (ls' := [some (.inr (.inr (0, 0))), some (.inl x1), some (.inl x2), some (.inl x3)]) (st' := [.inl x1]) (m' := (mset m 0 0 6 (0 : Int32))) (by decide +kernel) rfl ?_
  refine go_callS h.1 (index := 53) (n := 1) (as := [.inl x1]) (rest := []) (ctr_X6_isSheet (xl X) (xA X) (xC X) (xI X) (xk X) x1 (mset m 0 0 6 (0 : Int32))) (by decide +kernel) wd_s_X6_53 rfl (h.room (by first | decide | omega) (by decide)) h.cl (Nat.le_of_ble_eq_true rfl) puI_ok rfl (fun r6 m6 _ => ?_)
  show Go X (Em X puL) 9 [some (.inr (.inr (0, 0))), some (.inl x1), some (.inl x2), some (.inl x3)] [.inl r6] m6 _
  refine go_ifeq h.1 (off := 10) 19 (by decide +kernel) (by decide) (fun c9 => ?_) (fun c9 => ?_)
  · refine go_blk h.1 (is := [.ldc2_w 190]) (pc' := 22) (ls' := [some (.inr (.inr (0, 0))), some (.inl x1), some (.inl x2), some (.inl x3)]) (st' := [.inr (.inl (-9223372036854775808 : Int64))]) (m' := m6) (by decide +kernel) rfl ?_
    exact go_lret h.1 h.2.2.2.2 (by decide +kernel)
  · refine go_blk h.1 (is := [.iload_n 3]) (pc' := 13) (ls' := [some (.inr (.inr (0, 0))), some (.inl x1), some (.inl x2), some (.inl x3)]) (st' := [.inl x3]) (m' := m6) (by decide +kernel) rfl ?_
    refine go_callS h.1 (index := 57) (n := 1) (as := [.inl x3]) (rest := []) (ctr_X6_isLane (xl X) (xA X) (xC X) (xI X) (xk X) x3 m6) (by decide +kernel) wd_s_X6_57 rfl (h.room (by first | decide | omega) (by decide)) h.cl (Nat.le_of_ble_eq_true rfl) puI_ok rfl (fun r13 m13 _ => ?_)
    show Go X (Em X puL) 16 [some (.inr (.inr (0, 0))), some (.inl x1), some (.inl x2), some (.inl x3)] [.inl r13] m13 _
    refine go_ifne h.1 (off := 7) 23 (by decide +kernel) (by decide) (fun c16 => ?_) (fun c16 => ?_)
    · refine go_blk h.1 (is := [.aload_n 0, .aload_n 0, .getfield 13, .iload_n 1]) (pc' := 29) (ls' := [some (.inr (.inr (0, 0))), some (.inl x1), some (.inl x2), some (.inl x3)]) (st' := [.inl x1, .inr (.inr (1, 0)), .inr (.inr (0, 0))]) (m' := m13) (by decide +kernel) rfl ?_
      refine go_aald h.1 (kd := 0) (z := (2, (ix x1))) (by decide +kernel) rfl rfl (by decide) rfl (fun b29 => ?_)
      refine go_blk h.1 (is := [.iload_n 3, .iload_n 2, .iconst 1]) (pc' := 33) (ls' := [some (.inr (.inr (0, 0))), some (.inl x1), some (.inl x2), some (.inl x3)]) (st' := [.inl (1 : Int32), .inl x2, .inl x3, .inr (.inr (2, (ix x1))), .inr (.inr (0, 0))]) (m' := m13) (by decide +kernel) rfl ?_
      refine go_callV h.1 (index := 60) (n := 3) (t := 2) (i := (ix x1)) (ci := 4) (nf := 4) (cz := (RX4, TX4, 4)) (as := [.inl x3, .inl x2, .inl (1 : Int32)]) (rest := [.inr (.inr (0, 0))]) (ctr_X4_faultAt (xl X) (xA X) (xC X) (xI X) (xk X) (ix x1) x3 x2 (1 : Int32) m13) (by decide +kernel) rfl rfl wd_v_X6_60 rfl (h.room (by first | decide | omega) (by decide)) h.cl (Nat.le_of_ble_eq_true rfl) puI_ok rfl (fun r33 m33 _ => ?_)
      show Go X (Em X puL) 36 [some (.inr (.inr (0, 0))), some (.inl x1), some (.inl x2), some (.inl x3)] [.inl r33, .inr (.inr (0, 0))] m33 _
      refine go_blk h.1 (is := [.putfield 50, .aload_n 0, .getfield 50]) (pc' := 43) (ls' := [some (.inr (.inr (0, 0))), some (.inl x1), some (.inl x2), some (.inl x3)]) (st' := [.inl ((mset m33 0 0 6 r33) 0 0 6)]) (m' := (mset m33 0 0 6 r33)) (by decide +kernel) rfl ?_
      refine go_ifeq h.1 (off := 9) 52 (by decide +kernel) (by decide) (fun c43 => ?_) (fun c43 => ?_)
      · refine go_blk h.1 (is := [.aload_n 0, .getfield 13, .iload_n 1]) (pc' := 57) (ls' := [some (.inr (.inr (0, 0))), some (.inl x1), some (.inl x2), some (.inl x3)]) (st' := [.inl x1, .inr (.inr (1, 0))]) (m' := (mset m33 0 0 6 r33)) (by decide +kernel) rfl ?_
        refine go_aald h.1 (kd := 0) (z := (2, (ix x1))) (by decide +kernel) rfl rfl (by decide) rfl (fun b57 => ?_)
        refine go_blk h.1 (is := [.iload_n 2]) (pc' := 59) (ls' := [some (.inr (.inr (0, 0))), some (.inl x1), some (.inl x2), some (.inl x3)]) (st' := [.inl x2, .inr (.inr (2, (ix x1)))]) (m' := (mset m33 0 0 6 r33)) (by decide +kernel) rfl ?_
        refine go_callV h.1 (index := 207) (n := 1) (t := 2) (i := (ix x1)) (ci := 4) (nf := 4) (cz := (RX4, TX4, 4)) (as := [.inl x2]) (rest := []) (ctr_X4_at (xl X) (xA X) (xC X) (xI X) (xk X) (ix x1) x2 (mset m33 0 0 6 r33)) (by decide +kernel) rfl rfl wd_v_X6_207 rfl (h.room (by first | decide | omega) (by decide)) h.cl (Nat.le_of_ble_eq_true rfl) puI_ok rfl (fun r59 m59 _ => ?_)
        show Go X (Em X puL) 62 [some (.inr (.inr (0, 0))), some (.inl x1), some (.inl x2), some (.inl x3)] [.inl r59] m59 _
        refine go_blk h.1 (is := [.i2l]) (pc' := 63) (ls' := [some (.inr (.inr (0, 0))), some (.inl x1), some (.inl x2), some (.inl x3)]) (st' := [.inr (.inl r59.toInt64)]) (m' := m59) (by decide +kernel) rfl ?_
        exact go_lret h.1 h.2.2.2.2 (by decide +kernel)
      · refine go_blk h.1 (is := [.ldc2_w 190]) (pc' := 49) (ls' := [some (.inr (.inr (0, 0))), some (.inl x1), some (.inl x2), some (.inl x3)]) (st' := [.inr (.inl (-9223372036854775808 : Int64))]) (m' := (mset m33 0 0 6 r33)) (by decide +kernel) rfl ?_
        refine go_goto h.1 (off := 14) 63 (by decide +kernel) (by decide) ?_
        exact go_lret h.1 h.2.2.2.2 (by decide +kernel)
    · refine go_blk h.1 (is := [.ldc2_w 190]) (pc' := 22) (ls' := [some (.inr (.inr (0, 0))), some (.inl x1), some (.inl x2), some (.inl x3)]) (st' := [.inr (.inl (-9223372036854775808 : Int64))]) (m' := m13) (by decide +kernel) rfl ?_
      exact go_lret h.1 h.2.2.2.2 (by decide +kernel)
theorem ctr_X6_cell (l : Launch) (A : AR → Nat) (dC : Nat → ClassId) (dI : Nat → Nat → Nat) (cs : Nat → ClassId) (x1 : Int32) (x2 : Int32) (x3 : Int32) (m : Mem) : Ctr l A dC dI cs yX6_cell prog_1_method_22_code 4 (some .long) 2 puL [.inr (.inr (0, 0)), .inl x1, .inl x2, .inl x3] m (f_X6_cell x1 x2 x3 m) :=
  ctr_of (P := P_X6) (by decide +kernel) rfl pt_X6 rfl rfl (fun X hC _ _ _ _ _ hR h0 h1 hr => g_X6_cell ⟨hC, hR, h0, h1, hr⟩ x1 x2 x3 m)

def f_X6_copy_j53 (m : Mem) : Option (Int32 × Mem) :=
  bnd (f_X6_faulty (1 : Int32) m) (fun r55 m55 =>
    some (r55, m55))
theorem g_X6_copy_j53 {X : XT} (h : MX X prog_1_method_23_code P_X6 2 (some .int)) (m : Mem) (o1 : Option AV) (o2 : Option AV) (o3 : Option AV) (o4 : Option AV) (o5 : Option AV) (o6 : Option AV) (o7 : Option AV) : Go X (Em X puI) 53 [some (.inr (.inr (0, 0))), o1, o2, o3, o4, o5, o6, o7] [] m (f_X6_copy_j53 m) := by
  unfold f_X6_copy_j53
  refine go_blk h.1 (is := [.aload_n 0, .iconst 1]) (pc' := 55) (ls' := [some (.inr (.inr (0, 0))), o1, o2, o3, o4, o5, o6, o7]) (st' := [.inl (1 : Int32), .inr (.inr (0, 0))]) (m' := m) (by decide +kernel) rfl ?_
  refine go_callV h.1 (index := 64) (n := 1) (t := 0) (i := 0) (ci := 6) (nf := 7) (cz := (RX6, TX6, 7)) (as := [.inl (1 : Int32)]) (rest := []) (ctr_X6_faulty (xl X) (xA X) (xC X) (xI X) (xk X) (1 : Int32) m) (by decide +kernel) rfl rfl wd_v_X6_64 rfl (h.room (by first | decide | omega) (by decide)) h.cl (Nat.le_of_ble_eq_true rfl) puI_ok rfl (fun r55 m55 _ => ?_)
  show Go X (Em X puI) 58 [some (.inr (.inr (0, 0))), o1, o2, o3, o4, o5, o6, o7] [.inl r55] m55 _
  exact go_iret h.1 h.2.2.2.2 (by decide +kernel)

def f_X6_copy_j101 (m : Mem) : Option (Int32 × Mem) :=
  bnd (f_X6_faulty (3 : Int32) m) (fun r103 m103 =>
    some (r103, m103))
theorem g_X6_copy_j101 {X : XT} (h : MX X prog_1_method_23_code P_X6 2 (some .int)) (m : Mem) (o1 : Option AV) (o2 : Option AV) (o3 : Option AV) (o4 : Option AV) (o5 : Option AV) (o6 : Option AV) (o7 : Option AV) : Go X (Em X puI) 101 [some (.inr (.inr (0, 0))), o1, o2, o3, o4, o5, o6, o7] [] m (f_X6_copy_j101 m) := by
  unfold f_X6_copy_j101
  refine go_blk h.1 (is := [.aload_n 0, .iconst 3]) (pc' := 103) (ls' := [some (.inr (.inr (0, 0))), o1, o2, o3, o4, o5, o6, o7]) (st' := [.inl (3 : Int32), .inr (.inr (0, 0))]) (m' := m) (by decide +kernel) rfl ?_
  refine go_callV h.1 (index := 64) (n := 1) (t := 0) (i := 0) (ci := 6) (nf := 7) (cz := (RX6, TX6, 7)) (as := [.inl (3 : Int32)]) (rest := []) (ctr_X6_faulty (xl X) (xA X) (xC X) (xI X) (xk X) (3 : Int32) m) (by decide +kernel) rfl rfl wd_v_X6_64 rfl (h.room (by first | decide | omega) (by decide)) h.cl (Nat.le_of_ble_eq_true rfl) puI_ok rfl (fun r103 m103 _ => ?_)
  show Go X (Em X puI) 106 [some (.inr (.inr (0, 0))), o1, o2, o3, o4, o5, o6, o7] [.inl r103] m103 _
  exact go_iret h.1 h.2.2.2.2 (by decide +kernel)

def f_X6_copy (x1 : Int32) (x2 : Int32) (x3 : Int32) (x4 : Int32) (x5 : Int32) (m : Mem) : Option (Int32 × Mem) :=
  bnd (f_X6_isSheet x1 (mset m 0 0 6 (0 : Int32))) (fun r6 m6 =>
    if r6 = 0 then
      some ((-1 : Int32), m6)
    else
      bnd (f_X6_isSheet x3 m6) (fun r13 m13 =>
        if r13 = 0 then
          some ((-1 : Int32), m13)
        else
          if inB x1 4 = true then
            if inB x3 4 = true then
              if (m13 2 (ix x1) 1) = 0 then
                f_X6_copy_j53 m13
              else
                if (m13 2 (ix x3) 1) = 0 then
                  f_X6_copy_j53 m13
                else
                  if (m13 2 (ix x1) 2) = (m13 2 (ix x3) 2) then
                    bnd (f_X4_holds (ix x1) x2 x5 m13) (fun r83 m83 =>
                      if r83 = 0 then
                        f_X6_copy_j101 m83
                      else
                        bnd (f_X4_holds (ix x3) x4 x5 m83) (fun r95 m95 =>
                          if r95 = 0 then
                            f_X6_copy_j101 m95
                          else
                            if cpOk x2 x4 x5 60 60 = true then
                              some (x5, (mcopy m95 3 (ix x1) 3 (ix x3) (ix x2) (ix x4) (ix x5)))
                            else none))
                  else
                    bnd (f_X6_faulty (2 : Int32) m13) (fun r74 m74 =>
                      some (r74, m74))
            else none
          else none))
theorem g_X6_copy {X : XT} (h : MX X prog_1_method_23_code P_X6 2 (some .int)) (x1 : Int32) (x2 : Int32) (x3 : Int32) (x4 : Int32) (x5 : Int32) (m : Mem) : Go X (Em X puI) 0 [some (.inr (.inr (0, 0))), some (.inl x1), some (.inl x2), some (.inl x3), some (.inl x4), some (.inl x5), none, none] [] m (f_X6_copy x1 x2 x3 x4 x5 m) := by
  unfold f_X6_copy
  refine go_blk h.1 (is := [.aload_n 0, .iconst 0, .putfield 50, .iload_n 1]) (pc' := 6) (ls' := [some (.inr (.inr (0, 0))), some (.inl x1), some (.inl x2), some (.inl x3), some (.inl x4), some (.inl x5), none, none]) (st' := [.inl x1]) (m' := (mset m 0 0 6 (0 : Int32))) (by decide +kernel) rfl ?_
  refine go_callS h.1 (index := 53) (n := 1) (as := [.inl x1]) (rest := []) (ctr_X6_isSheet (xl X) (xA X) (xC X) (xI X) (xk X) x1 (mset m 0 0 6 (0 : Int32))) (by decide +kernel) wd_s_X6_53 rfl (h.room (by first | decide | omega) (by decide)) h.cl (Nat.le_of_ble_eq_true rfl) puI_ok rfl (fun r6 m6 _ => ?_)
  show Go X (Em X puI) 9 [some (.inr (.inr (0, 0))), some (.inl x1), some (.inl x2), some (.inl x3), some (.inl x4), some (.inl x5), none, none] [.inl r6] m6 _
  refine go_ifeq h.1 (off := 10) 19 (by decide +kernel) (by decide) (fun c9 => ?_) (fun c9 => ?_)
  · refine go_blk h.1 (is := [.iconst (-1)]) (pc' := 20) (ls' := [some (.inr (.inr (0, 0))), some (.inl x1), some (.inl x2), some (.inl x3), some (.inl x4), some (.inl x5), none, none]) (st' := [.inl (-1 : Int32)]) (m' := m6) (by decide +kernel) rfl ?_
    exact go_iret h.1 h.2.2.2.2 (by decide +kernel)
  · refine go_blk h.1 (is := [.iload_n 3]) (pc' := 13) (ls' := [some (.inr (.inr (0, 0))), some (.inl x1), some (.inl x2), some (.inl x3), some (.inl x4), some (.inl x5), none, none]) (st' := [.inl x3]) (m' := m6) (by decide +kernel) rfl ?_
    refine go_callS h.1 (index := 53) (n := 1) (as := [.inl x3]) (rest := []) (ctr_X6_isSheet (xl X) (xA X) (xC X) (xI X) (xk X) x3 m6) (by decide +kernel) wd_s_X6_53 rfl (h.room (by first | decide | omega) (by decide)) h.cl (Nat.le_of_ble_eq_true rfl) puI_ok rfl (fun r13 m13 _ => ?_)
    show Go X (Em X puI) 16 [some (.inr (.inr (0, 0))), some (.inl x1), some (.inl x2), some (.inl x3), some (.inl x4), some (.inl x5), none, none] [.inl r13] m13 _
    refine go_ifne h.1 (off := 5) 21 (by decide +kernel) (by decide) (fun c16 => ?_) (fun c16 => ?_)
    · refine go_blk h.1 (is := [.aload_n 0, .getfield 13, .iload_n 1]) (pc' := 26) (ls' := [some (.inr (.inr (0, 0))), some (.inl x1), some (.inl x2), some (.inl x3), some (.inl x4), some (.inl x5), none, none]) (st' := [.inl x1, .inr (.inr (1, 0))]) (m' := m13) (by decide +kernel) rfl ?_
      refine go_aald h.1 (kd := 0) (z := (2, (ix x1))) (by decide +kernel) rfl rfl (by decide) rfl (fun b26 => ?_)
      refine go_blk h.1 (is := [.astore 6, .aload_n 0, .getfield 13, .iload_n 3]) (pc' := 34) (ls' := [some (.inr (.inr (0, 0))), some (.inl x1), some (.inl x2), some (.inl x3), some (.inl x4), some (.inl x5), some (.inr (.inr (2, (ix x1)))), none]) (st' := [.inl x3, .inr (.inr (1, 0))]) (m' := m13) (by decide +kernel) rfl ?_
      refine go_aald h.1 (kd := 0) (z := (2, (ix x3))) (by decide +kernel) rfl rfl (by decide) rfl (fun b34 => ?_)
      refine go_blk h.1 (is := [.astore 7, .aload 6, .getfield 196]) (pc' := 42) (ls' := [some (.inr (.inr (0, 0))), some (.inl x1), some (.inl x2), some (.inl x3), some (.inl x4), some (.inl x5), some (.inr (.inr (2, (ix x1)))), some (.inr (.inr (2, (ix x3))))]) (st' := [.inl (m13 2 (ix x1) 1)]) (m' := m13) (by decide +kernel) rfl ?_
      refine go_ifeq h.1 (off := 11) 53 (by decide +kernel) (by decide) (fun c42 => ?_) (fun c42 => ?_)
      · exact g_X6_copy_j53 h m13 (some (.inl x1)) (some (.inl x2)) (some (.inl x3)) (some (.inl x4)) (some (.inl x5)) (some (.inr (.inr (2, (ix x1))))) (some (.inr (.inr (2, (ix x3)))))
      · refine go_blk h.1 (is := [.aload 7, .getfield 196]) (pc' := 50) (ls' := [some (.inr (.inr (0, 0))), some (.inl x1), some (.inl x2), some (.inl x3), some (.inl x4), some (.inl x5), some (.inr (.inr (2, (ix x1)))), some (.inr (.inr (2, (ix x3))))]) (st' := [.inl (m13 2 (ix x3) 1)]) (m' := m13) (by decide +kernel) rfl ?_
        refine go_ifne h.1 (off := 9) 59 (by decide +kernel) (by decide) (fun c50 => ?_) (fun c50 => ?_)
        · refine go_blk h.1 (is := [.aload 6, .getfield 210, .aload 7, .getfield 210]) (pc' := 69) (ls' := [some (.inr (.inr (0, 0))), some (.inl x1), some (.inl x2), some (.inl x3), some (.inl x4), some (.inl x5), some (.inr (.inr (2, (ix x1)))), some (.inr (.inr (2, (ix x3))))]) (st' := [.inl (m13 2 (ix x3) 2), .inl (m13 2 (ix x1) 2)]) (m' := m13) (by decide +kernel) rfl ?_
          refine go_icmpeq h.1 (off := 9) 78 (by decide +kernel) (by decide) (fun c69 => ?_) (fun c69 => ?_)
          · refine go_blk h.1 (is := [.aload 6, .iload_n 2, .iload 5]) (pc' := 83) (ls' := [some (.inr (.inr (0, 0))), some (.inl x1), some (.inl x2), some (.inl x3), some (.inl x4), some (.inl x5), some (.inr (.inr (2, (ix x1)))), some (.inr (.inr (2, (ix x3))))]) (st' := [.inl x5, .inl x2, .inr (.inr (2, (ix x1)))]) (m' := m13) (by decide +kernel) rfl ?_
            refine go_callV h.1 (index := 200) (n := 2) (t := 2) (i := (ix x1)) (ci := 4) (nf := 4) (cz := (RX4, TX4, 4)) (as := [.inl x2, .inl x5]) (rest := []) (ctr_X4_holds (xl X) (xA X) (xC X) (xI X) (xk X) (ix x1) x2 x5 m13) (by decide +kernel) rfl rfl wd_v_X6_200 rfl (h.room (by first | decide | omega) (by decide)) h.cl (Nat.le_of_ble_eq_true rfl) puI_ok rfl (fun r83 m83 _ => ?_)
            show Go X (Em X puI) 86 [some (.inr (.inr (0, 0))), some (.inl x1), some (.inl x2), some (.inl x3), some (.inl x4), some (.inl x5), some (.inr (.inr (2, (ix x1)))), some (.inr (.inr (2, (ix x3))))] [.inl r83] m83 _
            refine go_ifeq h.1 (off := 15) 101 (by decide +kernel) (by decide) (fun c86 => ?_) (fun c86 => ?_)
            · exact g_X6_copy_j101 h m83 (some (.inl x1)) (some (.inl x2)) (some (.inl x3)) (some (.inl x4)) (some (.inl x5)) (some (.inr (.inr (2, (ix x1))))) (some (.inr (.inr (2, (ix x3)))))
            · refine go_blk h.1 (is := [.aload 7, .iload 4, .iload 5]) (pc' := 95) (ls' := [some (.inr (.inr (0, 0))), some (.inl x1), some (.inl x2), some (.inl x3), some (.inl x4), some (.inl x5), some (.inr (.inr (2, (ix x1)))), some (.inr (.inr (2, (ix x3))))]) (st' := [.inl x5, .inl x4, .inr (.inr (2, (ix x3)))]) (m' := m83) (by decide +kernel) rfl ?_
              refine go_callV h.1 (index := 200) (n := 2) (t := 2) (i := (ix x3)) (ci := 4) (nf := 4) (cz := (RX4, TX4, 4)) (as := [.inl x4, .inl x5]) (rest := []) (ctr_X4_holds (xl X) (xA X) (xC X) (xI X) (xk X) (ix x3) x4 x5 m83) (by decide +kernel) rfl rfl wd_v_X6_200 rfl (h.room (by first | decide | omega) (by decide)) h.cl (Nat.le_of_ble_eq_true rfl) puI_ok rfl (fun r95 m95 _ => ?_)
              show Go X (Em X puI) 98 [some (.inr (.inr (0, 0))), some (.inl x1), some (.inl x2), some (.inl x3), some (.inl x4), some (.inl x5), some (.inr (.inr (2, (ix x1)))), some (.inr (.inr (2, (ix x3))))] [.inl r95] m95 _
              refine go_ifne h.1 (off := 9) 107 (by decide +kernel) (by decide) (fun c98 => ?_) (fun c98 => ?_)
              · refine go_blk h.1 (is := [.aload 6, .getfield 213, .iload_n 2, .aload 7, .getfield 213, .iload 4, .iload 5]) (pc' := 122) (ls' := [some (.inr (.inr (0, 0))), some (.inl x1), some (.inl x2), some (.inl x3), some (.inl x4), some (.inl x5), some (.inr (.inr (2, (ix x1)))), some (.inr (.inr (2, (ix x3))))]) (st' := [.inl x5, .inl x4, .inr (.inr (3, (ix x3))), .inl x2, .inr (.inr (3, (ix x1)))]) (m' := m95) (by decide +kernel) rfl ?_
                refine go_acopy h (index := 216) (by first | decide | omega) (by decide +kernel) wd_ml_X6_216 wd_na_copy wd_st_copy wd_in_System (Nat.le_of_ble_eq_true rfl) rfl rfl rfl rfl (fun b122 => ?_)
                refine go_blk h.1 (is := [.iload 5]) (pc' := 127) (ls' := [some (.inr (.inr (0, 0))), some (.inl x1), some (.inl x2), some (.inl x3), some (.inl x4), some (.inl x5), some (.inr (.inr (2, (ix x1)))), some (.inr (.inr (2, (ix x3))))]) (st' := [.inl x5]) (m' := (mcopy m95 3 (ix x1) 3 (ix x3) (ix x2) (ix x4) (ix x5))) (by decide +kernel) rfl ?_
                exact go_iret h.1 h.2.2.2.2 (by decide +kernel)
              · exact g_X6_copy_j101 h m95 (some (.inl x1)) (some (.inl x2)) (some (.inl x3)) (some (.inl x4)) (some (.inl x5)) (some (.inr (.inr (2, (ix x1))))) (some (.inr (.inr (2, (ix x3)))))
          · refine go_blk h.1 (is := [.aload_n 0, .iconst 2]) (pc' := 74) (ls' := [some (.inr (.inr (0, 0))), some (.inl x1), some (.inl x2), some (.inl x3), some (.inl x4), some (.inl x5), some (.inr (.inr (2, (ix x1)))), some (.inr (.inr (2, (ix x3))))]) (st' := [.inl (2 : Int32), .inr (.inr (0, 0))]) (m' := m13) (by decide +kernel) rfl ?_
            refine go_callV h.1 (index := 64) (n := 1) (t := 0) (i := 0) (ci := 6) (nf := 7) (cz := (RX6, TX6, 7)) (as := [.inl (2 : Int32)]) (rest := []) (ctr_X6_faulty (xl X) (xA X) (xC X) (xI X) (xk X) (2 : Int32) m13) (by decide +kernel) rfl rfl wd_v_X6_64 rfl (h.room (by first | decide | omega) (by decide)) h.cl (Nat.le_of_ble_eq_true rfl) puI_ok rfl (fun r74 m74 _ => ?_)
            show Go X (Em X puI) 77 [some (.inr (.inr (0, 0))), some (.inl x1), some (.inl x2), some (.inl x3), some (.inl x4), some (.inl x5), some (.inr (.inr (2, (ix x1)))), some (.inr (.inr (2, (ix x3))))] [.inl r74] m74 _
            exact go_iret h.1 h.2.2.2.2 (by decide +kernel)
        · exact g_X6_copy_j53 h m13 (some (.inl x1)) (some (.inl x2)) (some (.inl x3)) (some (.inl x4)) (some (.inl x5)) (some (.inr (.inr (2, (ix x1))))) (some (.inr (.inr (2, (ix x3)))))
    · refine go_blk h.1 (is := [.iconst (-1)]) (pc' := 20) (ls' := [some (.inr (.inr (0, 0))), some (.inl x1), some (.inl x2), some (.inl x3), some (.inl x4), some (.inl x5), none, none]) (st' := [.inl (-1 : Int32)]) (m' := m13) (by decide +kernel) rfl ?_
      exact go_iret h.1 h.2.2.2.2 (by decide +kernel)
theorem ctr_X6_copy (l : Launch) (A : AR → Nat) (dC : Nat → ClassId) (dI : Nat → Nat → Nat) (cs : Nat → ClassId) (x1 : Int32) (x2 : Int32) (x3 : Int32) (x4 : Int32) (x5 : Int32) (m : Mem) : Ctr l A dC dI cs yX6_copy prog_1_method_23_code 8 (some .int) 2 puI [.inr (.inr (0, 0)), .inl x1, .inl x2, .inl x3, .inl x4, .inl x5] m (f_X6_copy x1 x2 x3 x4 x5 m) :=
  ctr_of (P := P_X6) (by decide +kernel) rfl pt_X6 rfl rfl (fun X hC _ _ _ _ _ hR h0 h1 hr => g_X6_copy ⟨hC, hR, h0, h1, hr⟩ x1 x2 x3 x4 x5 m)

def f_X6_leaveTrace (x1 : Int32) (m : Mem) : Option (Unit × Mem) :=
  some ((), (mset m 0 0 5 (((31 : Int32) * (m 0 0 5)) + x1)))
theorem g_X6_leaveTrace {X : XT} (h : MX X prog_1_method_42_code P_X6 0 none) (x1 : Int32) (m : Mem) : Go X (Em X puV) 0 [some (.inr (.inr (0, 0))), some (.inl x1)] [] m (f_X6_leaveTrace x1 m) := by
  unfold f_X6_leaveTrace
  refine go_blk h.1 (is := [.aload_n 0, .bipush 31, .aload_n 0, .getfield 46, .imul, .iload_n 1, .iadd, .putfield 46]) (pc' := 13) (ls' := [some (.inr (.inr (0, 0))), some (.inl x1)]) (st' := []) (m' := (mset m 0 0 5 (((31 : Int32) * (m 0 0 5)) + x1))) (by decide +kernel) rfl ?_
  exact go_vret h.1 h.2.2.2.2 (by decide +kernel)
theorem ctr_X6_leaveTrace (l : Launch) (A : AR → Nat) (dC : Nat → ClassId) (dI : Nat → Nat → Nat) (cs : Nat → ClassId) (x1 : Int32) (m : Mem) : Ctr l A dC dI cs yX6_leaveTrace prog_1_method_42_code 2 none 0 puV [.inr (.inr (0, 0)), .inl x1] m (f_X6_leaveTrace x1 m) :=
  ctr_of (P := P_X6) (by decide +kernel) rfl pt_X6 rfl rfl (fun X hC _ _ _ _ _ hR h0 h1 hr => g_X6_leaveTrace ⟨hC, hR, h0, h1, hr⟩ x1 m)

def f_X6_fishsTelling (w : Nat) (m : Mem) : Option (Int32 × Mem) :=
  bnd (f_X6_leaveTrace (1 : Int32) m) (fun _ m2 =>
    some ((m2 6 w 1), m2))
theorem g_X6_fishsTelling {X : XT} (h : MX X prog_1_method_43_code P_X6 1 (some .int)) (w : Nat) (m : Mem) : Go X (Em X puI) 0 [some (.inr (.inr (0, 0))), some (.inr (.inr (6, w)))] [] m (f_X6_fishsTelling w m) := by
  unfold f_X6_fishsTelling
  refine go_blk h.1 (is := [.aload_n 0, .iconst 1]) (pc' := 2) (ls' := [some (.inr (.inr (0, 0))), some (.inr (.inr (6, w)))]) (st' := [.inl (1 : Int32), .inr (.inr (0, 0))]) (m' := m) (by decide +kernel) rfl ?_
  refine go_callV h.1 (index := 232) (n := 1) (t := 0) (i := 0) (ci := 6) (nf := 7) (cz := (RX6, TX6, 7)) (as := [.inl (1 : Int32)]) (rest := []) (ctr_X6_leaveTrace (xl X) (xA X) (xC X) (xI X) (xk X) (1 : Int32) m) (by decide +kernel) rfl rfl wd_v_X6_232 rfl (h.room (by first | decide | omega) (by decide)) h.cl (Nat.le_of_ble_eq_true rfl) puV_ok rfl (fun r2 m2 _ => ?_)
  show Go X (Em X puI) 5 [some (.inr (.inr (0, 0))), some (.inr (.inr (6, w)))] [] m2 _
  refine go_blk h.1 (is := [.aload_n 1, .getfield 95]) (pc' := 9) (ls' := [some (.inr (.inr (0, 0))), some (.inr (.inr (6, w)))]) (st' := [.inl (m2 6 w 1)]) (m' := m2) (by decide +kernel) rfl ?_
  exact go_iret h.1 h.2.2.2.2 (by decide +kernel)
theorem ctr_X6_fishsTelling (l : Launch) (A : AR → Nat) (dC : Nat → ClassId) (dI : Nat → Nat → Nat) (cs : Nat → ClassId) (w : Nat) (m : Mem) : Ctr l A dC dI cs yX6_fishsTelling prog_1_method_43_code 2 (some .int) 1 puI [.inr (.inr (0, 0)), .inr (.inr (6, w))] m (f_X6_fishsTelling w m) :=
  ctr_of (P := P_X6) (by decide +kernel) rfl pt_X6 rfl rfl (fun X hC _ _ _ _ _ hR h0 h1 hr => g_X6_fishsTelling ⟨hC, hR, h0, h1, hr⟩ w m)

def f_X6_eelsTelling (w : Nat) (m : Mem) : Option (Int32 × Mem) :=
  bnd (f_X6_leaveTrace (2 : Int32) m) (fun _ m2 =>
    bnd (f_X6_fishsTelling w m2) (fun r7 m7 =>
      some ((r7 + (100 : Int32)), m7)))
theorem g_X6_eelsTelling {X : XT} (h : MX X prog_1_method_44_code P_X6 2 (some .int)) (w : Nat) (m : Mem) : Go X (Em X puI) 0 [some (.inr (.inr (0, 0))), some (.inr (.inr (6, w)))] [] m (f_X6_eelsTelling w m) := by
  unfold f_X6_eelsTelling
  refine go_blk h.1 (is := [.aload_n 0, .iconst 2]) (pc' := 2) (ls' := [some (.inr (.inr (0, 0))), some (.inr (.inr (6, w)))]) (st' := [.inl (2 : Int32), .inr (.inr (0, 0))]) (m' := m) (by decide +kernel) rfl ?_
  refine go_callV h.1 (index := 232) (n := 1) (t := 0) (i := 0) (ci := 6) (nf := 7) (cz := (RX6, TX6, 7)) (as := [.inl (2 : Int32)]) (rest := []) (ctr_X6_leaveTrace (xl X) (xA X) (xC X) (xI X) (xk X) (2 : Int32) m) (by decide +kernel) rfl rfl wd_v_X6_232 rfl (h.room (by first | decide | omega) (by decide)) h.cl (Nat.le_of_ble_eq_true rfl) puV_ok rfl (fun r2 m2 _ => ?_)
  show Go X (Em X puI) 5 [some (.inr (.inr (0, 0))), some (.inr (.inr (6, w)))] [] m2 _
  refine go_blk h.1 (is := [.aload_n 0, .aload_n 1]) (pc' := 7) (ls' := [some (.inr (.inr (0, 0))), some (.inr (.inr (6, w)))]) (st' := [.inr (.inr (6, w)), .inr (.inr (0, 0))]) (m' := m2) (by decide +kernel) rfl ?_
  refine go_callV h.1 (index := 229) (n := 1) (t := 0) (i := 0) (ci := 6) (nf := 7) (cz := (RX6, TX6, 7)) (as := [.inr (.inr (6, w))]) (rest := []) (ctr_X6_fishsTelling (xl X) (xA X) (xC X) (xI X) (xk X) w m2) (by decide +kernel) rfl rfl wd_v_X6_229 rfl (h.room (by first | decide | omega) (by decide)) h.cl (Nat.le_of_ble_eq_true rfl) puI_ok rfl (fun r7 m7 _ => ?_)
  show Go X (Em X puI) 10 [some (.inr (.inr (0, 0))), some (.inr (.inr (6, w)))] [.inl r7] m7 _
  refine go_blk h.1 (is := [.bipush 100, .iadd]) (pc' := 13) (ls' := [some (.inr (.inr (0, 0))), some (.inr (.inr (6, w)))]) (st' := [.inl (r7 + (100 : Int32))]) (m' := m7) (by decide +kernel) rfl ?_
  exact go_iret h.1 h.2.2.2.2 (by decide +kernel)
theorem ctr_X6_eelsTelling (l : Launch) (A : AR → Nat) (dC : Nat → ClassId) (dI : Nat → Nat → Nat) (cs : Nat → ClassId) (w : Nat) (m : Mem) : Ctr l A dC dI cs yX6_eelsTelling prog_1_method_44_code 2 (some .int) 2 puI [.inr (.inr (0, 0)), .inr (.inr (6, w))] m (f_X6_eelsTelling w m) :=
  ctr_of (P := P_X6) (by decide +kernel) rfl pt_X6 rfl rfl (fun X hC _ _ _ _ _ hR h0 h1 hr => g_X6_eelsTelling ⟨hC, hR, h0, h1, hr⟩ w m)

def f_X6_pikesTelling (w : Nat) (m : Mem) : Option (Int32 × Mem) :=
  bnd (f_X6_leaveTrace (3 : Int32) m) (fun _ m2 =>
    bnd (f_X6_eelsTelling w m2) (fun r7 m7 =>
      bnd (f_X6_fishsTelling w m7) (fun r14 m14 =>
        some ((r7 + r14), m14))))
theorem g_X6_pikesTelling {X : XT} (h : MX X prog_1_method_45_code P_X6 3 (some .int)) (w : Nat) (m : Mem) : Go X (Em X puI) 0 [some (.inr (.inr (0, 0))), some (.inr (.inr (6, w))), none] [] m (f_X6_pikesTelling w m) := by
  unfold f_X6_pikesTelling
  refine go_blk h.1 (is := [.aload_n 0, .iconst 3]) (pc' := 2) (ls' := [some (.inr (.inr (0, 0))), some (.inr (.inr (6, w))), none]) (st' := [.inl (3 : Int32), .inr (.inr (0, 0))]) (m' := m) (by decide +kernel) rfl ?_
  refine go_callV h.1 (index := 232) (n := 1) (t := 0) (i := 0) (ci := 6) (nf := 7) (cz := (RX6, TX6, 7)) (as := [.inl (3 : Int32)]) (rest := []) (ctr_X6_leaveTrace (xl X) (xA X) (xC X) (xI X) (xk X) (3 : Int32) m) (by decide +kernel) rfl rfl wd_v_X6_232 rfl (h.room (by first | decide | omega) (by decide)) h.cl (Nat.le_of_ble_eq_true rfl) puV_ok rfl (fun r2 m2 _ => ?_)
  show Go X (Em X puI) 5 [some (.inr (.inr (0, 0))), some (.inr (.inr (6, w))), none] [] m2 _
  refine go_blk h.1 (is := [.aload_n 0, .aload_n 1]) (pc' := 7) (ls' := [some (.inr (.inr (0, 0))), some (.inr (.inr (6, w))), none]) (st' := [.inr (.inr (6, w)), .inr (.inr (0, 0))]) (m' := m2) (by decide +kernel) rfl ?_
  refine go_callV h.1 (index := 226) (n := 1) (t := 0) (i := 0) (ci := 6) (nf := 7) (cz := (RX6, TX6, 7)) (as := [.inr (.inr (6, w))]) (rest := []) (ctr_X6_eelsTelling (xl X) (xA X) (xC X) (xI X) (xk X) w m2) (by decide +kernel) rfl rfl wd_v_X6_226 rfl (h.room (by first | decide | omega) (by decide)) h.cl (Nat.le_of_ble_eq_true rfl) puI_ok rfl (fun r7 m7 _ => ?_)
  show Go X (Em X puI) 10 [some (.inr (.inr (0, 0))), some (.inr (.inr (6, w))), none] [.inl r7] m7 _
  refine go_blk h.1 (is := [.istore_n 2, .iload_n 2, .aload_n 0, .aload_n 1]) (pc' := 14) (ls' := [some (.inr (.inr (0, 0))), some (.inr (.inr (6, w))), some (.inl r7)]) (st' := [.inr (.inr (6, w)), .inr (.inr (0, 0)), .inl r7]) (m' := m7) (by decide +kernel) rfl ?_
  refine go_callV h.1 (index := 229) (n := 1) (t := 0) (i := 0) (ci := 6) (nf := 7) (cz := (RX6, TX6, 7)) (as := [.inr (.inr (6, w))]) (rest := [.inl r7]) (ctr_X6_fishsTelling (xl X) (xA X) (xC X) (xI X) (xk X) w m7) (by decide +kernel) rfl rfl wd_v_X6_229 rfl (h.room (by first | decide | omega) (by decide)) h.cl (Nat.le_of_ble_eq_true rfl) puI_ok rfl (fun r14 m14 _ => ?_)
  show Go X (Em X puI) 17 [some (.inr (.inr (0, 0))), some (.inr (.inr (6, w))), some (.inl r7)] [.inl r14, .inl r7] m14 _
  refine go_blk h.1 (is := [.iadd]) (pc' := 18) (ls' := [some (.inr (.inr (0, 0))), some (.inr (.inr (6, w))), some (.inl r7)]) (st' := [.inl (r7 + r14)]) (m' := m14) (by decide +kernel) rfl ?_
  exact go_iret h.1 h.2.2.2.2 (by decide +kernel)
theorem ctr_X6_pikesTelling (l : Launch) (A : AR → Nat) (dC : Nat → ClassId) (dI : Nat → Nat → Nat) (cs : Nat → ClassId) (w : Nat) (m : Mem) : Ctr l A dC dI cs yX6_pikesTelling prog_1_method_45_code 3 (some .int) 3 puI [.inr (.inr (0, 0)), .inr (.inr (6, w))] m (f_X6_pikesTelling w m) :=
  ctr_of (P := P_X6) (by decide +kernel) rfl pt_X6 rfl rfl (fun X hC _ _ _ _ _ hR h0 h1 hr => g_X6_pikesTelling ⟨hC, hR, h0, h1, hr⟩ w m)
end
section
/-! ===== printed by wip/whole/tr.py out of the listing ===== -/
def f_X6_tell (x1 : Int32) (m : Mem) : Option (Int32 × Mem) :=
  bnd (f_X5_has x1 m) (fun r5 m5 =>
    if r5 = 0 then
      some ((-1 : Int32), m5)
    else
      if inB x1 5 = true then
        if (m5 6 (ix x1) 0) = (1 : Int32) then
          bnd (f_X6_eelsTelling (ix x1) m5) (fun r60 m60 =>
            some (r60, m60))
        else
          if (m5 6 (ix x1) 0) = (2 : Int32) then
            bnd (f_X6_pikesTelling (ix x1) m5) (fun r54 m54 =>
              some (r54, m54))
          else
            bnd (f_X6_fishsTelling (ix x1) m5) (fun r66 m66 =>
              some (r66, m66))
      else none)
theorem g_X6_tell {X : XT} (h : MX X prog_1_method_24_code P_X6 4 (some .int)) (x1 : Int32) (m : Mem) : Go X (Em X puI) 0 [some (.inr (.inr (0, 0))), some (.inl x1), none] [] m (f_X6_tell x1 m) := by
  unfold f_X6_tell
  refine go_blk h.1 (is := [.aload_n 0, .getfield 21, .iload_n 1]) (pc' := 5) (ls' := [some (.inr (.inr (0, 0))), some (.inl x1), none]) (st' := [.inl x1, .inr (.inr (4, 0))]) (m' := m) (by decide +kernel) rfl ?_
  refine go_callV h.1 (index := 83) (n := 1) (t := 4) (i := 0) (ci := 5) (nf := 4) (cz := (RX5, TX5, 4)) (as := [.inl x1]) (rest := []) (ctr_X5_has (xl X) (xA X) (xC X) (xI X) (xk X) x1 m) (by decide +kernel) rfl rfl wd_v_X6_83 rfl (h.room (by first | decide | omega) (by decide)) h.cl (Nat.le_of_ble_eq_true rfl) puI_ok rfl (fun r5 m5 _ => ?_)
  show Go X (Em X puI) 8 [some (.inr (.inr (0, 0))), some (.inl x1), none] [.inl r5] m5 _
  refine go_ifne h.1 (off := 5) 13 (by decide +kernel) (by decide) (fun c8 => ?_) (fun c8 => ?_)
  · refine go_blk h.1 (is := [.aload_n 0, .getfield 21, .getfield 86, .iload_n 1]) (pc' := 21) (ls' := [some (.inr (.inr (0, 0))), some (.inl x1), none]) (st' := [.inl x1, .inr (.inr (5, 0))]) (m' := m5) (by decide +kernel) rfl ?_
    refine go_aald h.1 (kd := 1) (z := (6, (ix x1))) (by decide +kernel) rfl rfl (by decide) rfl (fun b21 => ?_)
    refine go_blk h.1 (is := [.astore_n 2, .aload_n 2, .getfield 90]) (pc' := 27) (ls' := [some (.inr (.inr (0, 0))), some (.inl x1), some (.inr (.inr (6, (ix x1))))]) (st' := [.inl (m5 6 (ix x1) 0)]) (m' := m5) (by decide +kernel) rfl ?_
    refine go_ite (fun w27_0 => ?_) (fun w27_0 => ?_)
    · refine go_lsIn h.1 (dflt := 37) (ps := #[(1, 31), (2, 25)]) (len := 25) (off := 31) (1 : Int32) 58 w27_0 (by decide +kernel) (by decide) rfl (by decide) ?_
      refine go_blk h.1 (is := [.aload_n 0, .aload_n 2]) (pc' := 60) (ls' := [some (.inr (.inr (0, 0))), some (.inl x1), some (.inr (.inr (6, (ix x1))))]) (st' := [.inr (.inr (6, (ix x1))), .inr (.inr (0, 0))]) (m' := m5) (by decide +kernel) rfl ?_
      refine go_callV h.1 (index := 226) (n := 1) (t := 0) (i := 0) (ci := 6) (nf := 7) (cz := (RX6, TX6, 7)) (as := [.inr (.inr (6, (ix x1)))]) (rest := []) (ctr_X6_eelsTelling (xl X) (xA X) (xC X) (xI X) (xk X) (ix x1) m5) (by decide +kernel) rfl rfl wd_v_X6_226 rfl (h.room (by first | decide | omega) (by decide)) h.cl (Nat.le_of_ble_eq_true rfl) puI_ok rfl (fun r60 m60 _ => ?_)
      show Go X (Em X puI) 63 [some (.inr (.inr (0, 0))), some (.inl x1), some (.inr (.inr (6, (ix x1))))] [.inl r60] m60 _
      exact go_iret h.1 h.2.2.2.2 (by decide +kernel)
    · refine go_ite (fun w27_1 => ?_) (fun w27_1 => ?_)
      · refine go_lsIn h.1 (dflt := 37) (ps := #[(1, 31), (2, 25)]) (len := 25) (off := 25) (2 : Int32) 52 w27_1 (by decide +kernel) (by decide) rfl (by decide) ?_
        refine go_blk h.1 (is := [.aload_n 0, .aload_n 2]) (pc' := 54) (ls' := [some (.inr (.inr (0, 0))), some (.inl x1), some (.inr (.inr (6, (ix x1))))]) (st' := [.inr (.inr (6, (ix x1))), .inr (.inr (0, 0))]) (m' := m5) (by decide +kernel) rfl ?_
        refine go_callV h.1 (index := 222) (n := 1) (t := 0) (i := 0) (ci := 6) (nf := 7) (cz := (RX6, TX6, 7)) (as := [.inr (.inr (6, (ix x1)))]) (rest := []) (ctr_X6_pikesTelling (xl X) (xA X) (xC X) (xI X) (xk X) (ix x1) m5) (by decide +kernel) rfl rfl wd_v_X6_222 rfl (h.room (by first | decide | omega) (by decide)) h.cl (Nat.le_of_ble_eq_true rfl) puI_ok rfl (fun r54 m54 _ => ?_)
        show Go X (Em X puI) 57 [some (.inr (.inr (0, 0))), some (.inl x1), some (.inr (.inr (6, (ix x1))))] [.inl r54] m54 _
        exact go_iret h.1 h.2.2.2.2 (by decide +kernel)
      · refine go_ls h.1 (dflt := 37) (ps := #[(1, 31), (2, 25)]) (len := 25) 64 (off := 37) (by decide +kernel) (by decide) (by simp only [Op.lookupswitch.offset]; rw [if_neg (fun q => toInt_ne w27_0 q.symm)]; rw [if_neg (fun q => toInt_ne w27_1 q.symm)]) (by decide) ?_
        refine go_blk h.1 (is := [.aload_n 0, .aload_n 2]) (pc' := 66) (ls' := [some (.inr (.inr (0, 0))), some (.inl x1), some (.inr (.inr (6, (ix x1))))]) (st' := [.inr (.inr (6, (ix x1))), .inr (.inr (0, 0))]) (m' := m5) (by decide +kernel) rfl ?_
        refine go_callV h.1 (index := 229) (n := 1) (t := 0) (i := 0) (ci := 6) (nf := 7) (cz := (RX6, TX6, 7)) (as := [.inr (.inr (6, (ix x1)))]) (rest := []) (ctr_X6_fishsTelling (xl X) (xA X) (xC X) (xI X) (xk X) (ix x1) m5) (by decide +kernel) rfl rfl wd_v_X6_229 rfl (h.room (by first | decide | omega) (by decide)) h.cl (Nat.le_of_ble_eq_true rfl) puI_ok rfl (fun r66 m66 _ => ?_)
        show Go X (Em X puI) 69 [some (.inr (.inr (0, 0))), some (.inl x1), some (.inr (.inr (6, (ix x1))))] [.inl r66] m66 _
        exact go_iret h.1 h.2.2.2.2 (by decide +kernel)
  · refine go_blk h.1 (is := [.iconst (-1)]) (pc' := 12) (ls' := [some (.inr (.inr (0, 0))), some (.inl x1), none]) (st' := [.inl (-1 : Int32)]) (m' := m5) (by decide +kernel) rfl ?_
    exact go_iret h.1 h.2.2.2.2 (by decide +kernel)
theorem ctr_X6_tell (l : Launch) (A : AR → Nat) (dC : Nat → ClassId) (dI : Nat → Nat → Nat) (cs : Nat → ClassId) (x1 : Int32) (m : Mem) : Ctr l A dC dI cs yX6_tell prog_1_method_24_code 3 (some .int) 4 puI [.inr (.inr (0, 0)), .inl x1] m (f_X6_tell x1 m) :=
  ctr_of (P := P_X6) (by decide +kernel) rfl pt_X6 rfl rfl (fun X hC _ _ _ _ _ hR h0 h1 hr => g_X6_tell ⟨hC, hR, h0, h1, hr⟩ x1 m)

def f_X6_let (x1 : Int32) (m : Mem) : Option (Int32 × Mem) :=
  bnd (f_X5_has x1 m) (fun r5 m5 =>
    if r5 = 0 then
      some ((-1 : Int32), m5)
    else
      if inB x1 5 = true then
        if (m5 6 (ix x1) 0) = (2 : Int32) then
          bnd (f_X6_leaveTrace (5 : Int32) m5) (fun _ m31 =>
            some ((90 : Int32), m31))
        else
          bnd (f_X6_leaveTrace (4 : Int32) m5) (fun _ m39 =>
            some (x1, m39))
      else none)
theorem g_X6_let {X : XT} (h : MX X prog_1_method_25_code P_X6 1 (some .int)) (x1 : Int32) (m : Mem) : Go X (Em X puI) 0 [some (.inr (.inr (0, 0))), some (.inl x1)] [] m (f_X6_let x1 m) := by
  unfold f_X6_let
  refine go_blk h.1 (is := [.aload_n 0, .getfield 21, .iload_n 1]) (pc' := 5) (ls' := [some (.inr (.inr (0, 0))), some (.inl x1)]) (st' := [.inl x1, .inr (.inr (4, 0))]) (m' := m) (by decide +kernel) rfl ?_
  refine go_callV h.1 (index := 83) (n := 1) (t := 4) (i := 0) (ci := 5) (nf := 4) (cz := (RX5, TX5, 4)) (as := [.inl x1]) (rest := []) (ctr_X5_has (xl X) (xA X) (xC X) (xI X) (xk X) x1 m) (by decide +kernel) rfl rfl wd_v_X6_83 rfl (h.room (by first | decide | omega) (by decide)) h.cl (Nat.le_of_ble_eq_true rfl) puI_ok rfl (fun r5 m5 _ => ?_)
  show Go X (Em X puI) 8 [some (.inr (.inr (0, 0))), some (.inl x1)] [.inl r5] m5 _
  refine go_ifne h.1 (off := 5) 13 (by decide +kernel) (by decide) (fun c8 => ?_) (fun c8 => ?_)
  · refine go_blk h.1 (is := [.aload_n 0, .getfield 21, .getfield 86, .iload_n 1]) (pc' := 21) (ls' := [some (.inr (.inr (0, 0))), some (.inl x1)]) (st' := [.inl x1, .inr (.inr (5, 0))]) (m' := m5) (by decide +kernel) rfl ?_
    refine go_aald h.1 (kd := 1) (z := (6, (ix x1))) (by decide +kernel) rfl rfl (by decide) rfl (fun b21 => ?_)
    refine go_blk h.1 (is := [.getfield 90, .iconst 2]) (pc' := 26) (ls' := [some (.inr (.inr (0, 0))), some (.inl x1)]) (st' := [.inl (2 : Int32), .inl (m5 6 (ix x1) 0)]) (m' := m5) (by decide +kernel) rfl ?_
    refine go_icmpne h.1 (off := 11) 37 (by decide +kernel) (by decide) (fun c26 => ?_) (fun c26 => ?_)
    · refine go_blk h.1 (is := [.aload_n 0, .iconst 4]) (pc' := 39) (ls' := [some (.inr (.inr (0, 0))), some (.inl x1)]) (st' := [.inl (4 : Int32), .inr (.inr (0, 0))]) (m' := m5) (by decide +kernel) rfl ?_
      refine go_callV h.1 (index := 232) (n := 1) (t := 0) (i := 0) (ci := 6) (nf := 7) (cz := (RX6, TX6, 7)) (as := [.inl (4 : Int32)]) (rest := []) (ctr_X6_leaveTrace (xl X) (xA X) (xC X) (xI X) (xk X) (4 : Int32) m5) (by decide +kernel) rfl rfl wd_v_X6_232 rfl (h.room (by first | decide | omega) (by decide)) h.cl (Nat.le_of_ble_eq_true rfl) puV_ok rfl (fun r39 m39 _ => ?_)
      show Go X (Em X puI) 42 [some (.inr (.inr (0, 0))), some (.inl x1)] [] m39 _
      refine go_blk h.1 (is := [.iload_n 1]) (pc' := 43) (ls' := [some (.inr (.inr (0, 0))), some (.inl x1)]) (st' := [.inl x1]) (m' := m39) (by decide +kernel) rfl ?_
      exact go_iret h.1 h.2.2.2.2 (by decide +kernel)
    · refine go_blk h.1 (is := [.aload_n 0, .iconst 5]) (pc' := 31) (ls' := [some (.inr (.inr (0, 0))), some (.inl x1)]) (st' := [.inl (5 : Int32), .inr (.inr (0, 0))]) (m' := m5) (by decide +kernel) rfl ?_
      refine go_callV h.1 (index := 232) (n := 1) (t := 0) (i := 0) (ci := 6) (nf := 7) (cz := (RX6, TX6, 7)) (as := [.inl (5 : Int32)]) (rest := []) (ctr_X6_leaveTrace (xl X) (xA X) (xC X) (xI X) (xk X) (5 : Int32) m5) (by decide +kernel) rfl rfl wd_v_X6_232 rfl (h.room (by first | decide | omega) (by decide)) h.cl (Nat.le_of_ble_eq_true rfl) puV_ok rfl (fun r31 m31 _ => ?_)
      show Go X (Em X puI) 34 [some (.inr (.inr (0, 0))), some (.inl x1)] [] m31 _
      refine go_blk h.1 (is := [.bipush 90]) (pc' := 36) (ls' := [some (.inr (.inr (0, 0))), some (.inl x1)]) (st' := [.inl (90 : Int32)]) (m' := m31) (by decide +kernel) rfl ?_
      exact go_iret h.1 h.2.2.2.2 (by decide +kernel)
  · refine go_blk h.1 (is := [.iconst (-1)]) (pc' := 12) (ls' := [some (.inr (.inr (0, 0))), some (.inl x1)]) (st' := [.inl (-1 : Int32)]) (m' := m5) (by decide +kernel) rfl ?_
    exact go_iret h.1 h.2.2.2.2 (by decide +kernel)
theorem ctr_X6_let (l : Launch) (A : AR → Nat) (dC : Nat → ClassId) (dI : Nat → Nat → Nat) (cs : Nat → ClassId) (x1 : Int32) (m : Mem) : Ctr l A dC dI cs yX6_let prog_1_method_25_code 2 (some .int) 1 puI [.inr (.inr (0, 0)), .inl x1] m (f_X6_let x1 m) :=
  ctr_of (P := P_X6) (by decide +kernel) rfl pt_X6 rfl rfl (fun X hC _ _ _ _ _ hR h0 h1 hr => g_X6_let ⟨hC, hR, h0, h1, hr⟩ x1 m)

def f_X6_as (x1 : Int32) (x2 : Int32) (m : Mem) : Option (Int32 × Mem) :=
  bnd (f_X5_has x1 (mset m 0 0 6 (0 : Int32))) (fun r10 m10 =>
    if r10 = 0 then
      some ((-1 : Int32), m10)
    else
      bnd (f_X6_isWithin x2 (0 : Int32) (2 : Int32) m10) (fun r21 m21 =>
        if r21 = 0 then
          some ((-2 : Int32), m21)
        else
          if inB x1 5 = true then
            if (m21 6 (ix x1) 0) < x2 then
              bnd (f_X6_faulty (2 : Int32) m21) (fun r52 m52 =>
                some (r52, m52))
            else
              some ((1 : Int32), m21)
          else none))
theorem g_X6_as {X : XT} (h : MX X prog_1_method_26_code P_X6 1 (some .int)) (x1 : Int32) (x2 : Int32) (m : Mem) : Go X (Em X puI) 0 [some (.inr (.inr (0, 0))), some (.inl x1), some (.inl x2)] [] m (f_X6_as x1 x2 m) := by
  unfold f_X6_as
  refine go_blk h.1 (is := [.aload_n 0, .iconst 0, .putfield 50, .aload_n 0, .getfield 21, .iload_n 1]) (pc' := 10) (ls' := [some (.inr (.inr (0, 0))), some (.inl x1), some (.inl x2)]) (st' := [.inl x1, .inr (.inr (4, 0))]) (m' := (mset m 0 0 6 (0 : Int32))) (by decide +kernel) rfl ?_
  refine go_callV h.1 (index := 83) (n := 1) (t := 4) (i := 0) (ci := 5) (nf := 4) (cz := (RX5, TX5, 4)) (as := [.inl x1]) (rest := []) (ctr_X5_has (xl X) (xA X) (xC X) (xI X) (xk X) x1 (mset m 0 0 6 (0 : Int32))) (by decide +kernel) rfl rfl wd_v_X6_83 rfl (h.room (by first | decide | omega) (by decide)) h.cl (Nat.le_of_ble_eq_true rfl) puI_ok rfl (fun r10 m10 _ => ?_)
  show Go X (Em X puI) 13 [some (.inr (.inr (0, 0))), some (.inl x1), some (.inl x2)] [.inl r10] m10 _
  refine go_ifne h.1 (off := 5) 18 (by decide +kernel) (by decide) (fun c13 => ?_) (fun c13 => ?_)
  · refine go_blk h.1 (is := [.iload_n 2, .iconst 0, .iconst 2]) (pc' := 21) (ls' := [some (.inr (.inr (0, 0))), some (.inl x1), some (.inl x2)]) (st' := [.inl (2 : Int32), .inl (0 : Int32), .inl x2]) (m' := m10) (by decide +kernel) rfl ?_
    refine go_callS h.1 (index := 111) (n := 3) (as := [.inl x2, .inl (0 : Int32), .inl (2 : Int32)]) (rest := []) (ctr_X6_isWithin (xl X) (xA X) (xC X) (xI X) (xk X) x2 (0 : Int32) (2 : Int32) m10) (by decide +kernel) wd_s_X6_111 rfl (h.room (by first | decide | omega) (by decide)) h.cl (Nat.le_of_ble_eq_true rfl) puI_ok rfl (fun r21 m21 _ => ?_)
    show Go X (Em X puI) 24 [some (.inr (.inr (0, 0))), some (.inl x1), some (.inl x2)] [.inl r21] m21 _
    refine go_ifne h.1 (off := 6) 30 (by decide +kernel) (by decide) (fun c24 => ?_) (fun c24 => ?_)
    · refine go_blk h.1 (is := [.aload_n 0, .getfield 21, .getfield 86, .iload_n 1]) (pc' := 38) (ls' := [some (.inr (.inr (0, 0))), some (.inl x1), some (.inl x2)]) (st' := [.inl x1, .inr (.inr (5, 0))]) (m' := m21) (by decide +kernel) rfl ?_
      refine go_aald h.1 (kd := 1) (z := (6, (ix x1))) (by decide +kernel) rfl rfl (by decide) rfl (fun b38 => ?_)
      refine go_blk h.1 (is := [.getfield 90, .iload_n 2]) (pc' := 43) (ls' := [some (.inr (.inr (0, 0))), some (.inl x1), some (.inl x2)]) (st' := [.inl x2, .inl (m21 6 (ix x1) 0)]) (m' := m21) (by decide +kernel) rfl ?_
      refine go_icmplt h.1 (off := 7) 50 (by decide +kernel) (by decide) (fun c43 => ?_) (fun c43 => ?_)
      · refine go_blk h.1 (is := [.aload_n 0, .iconst 2]) (pc' := 52) (ls' := [some (.inr (.inr (0, 0))), some (.inl x1), some (.inl x2)]) (st' := [.inl (2 : Int32), .inr (.inr (0, 0))]) (m' := m21) (by decide +kernel) rfl ?_
        refine go_callV h.1 (index := 64) (n := 1) (t := 0) (i := 0) (ci := 6) (nf := 7) (cz := (RX6, TX6, 7)) (as := [.inl (2 : Int32)]) (rest := []) (ctr_X6_faulty (xl X) (xA X) (xC X) (xI X) (xk X) (2 : Int32) m21) (by decide +kernel) rfl rfl wd_v_X6_64 rfl (h.room (by first | decide | omega) (by decide)) h.cl (Nat.le_of_ble_eq_true rfl) puI_ok rfl (fun r52 m52 _ => ?_)
        show Go X (Em X puI) 55 [some (.inr (.inr (0, 0))), some (.inl x1), some (.inl x2)] [.inl r52] m52 _
        exact go_iret h.1 h.2.2.2.2 (by decide +kernel)
      · refine go_blk h.1 (is := [.iconst 1]) (pc' := 47) (ls' := [some (.inr (.inr (0, 0))), some (.inl x1), some (.inl x2)]) (st' := [.inl (1 : Int32)]) (m' := m21) (by decide +kernel) rfl ?_
        refine go_goto h.1 (off := 8) 55 (by decide +kernel) (by decide) ?_
        exact go_iret h.1 h.2.2.2.2 (by decide +kernel)
    · refine go_blk h.1 (is := [.bipush (-2)]) (pc' := 29) (ls' := [some (.inr (.inr (0, 0))), some (.inl x1), some (.inl x2)]) (st' := [.inl (-2 : Int32)]) (m' := m21) (by decide +kernel) rfl ?_
      exact go_iret h.1 h.2.2.2.2 (by decide +kernel)
  · refine go_blk h.1 (is := [.iconst (-1)]) (pc' := 17) (ls' := [some (.inr (.inr (0, 0))), some (.inl x1), some (.inl x2)]) (st' := [.inl (-1 : Int32)]) (m' := m10) (by decide +kernel) rfl ?_
    exact go_iret h.1 h.2.2.2.2 (by decide +kernel)
theorem ctr_X6_as (l : Launch) (A : AR → Nat) (dC : Nat → ClassId) (dI : Nat → Nat → Nat) (cs : Nat → ClassId) (x1 : Int32) (x2 : Int32) (m : Mem) : Ctr l A dC dI cs yX6_as prog_1_method_26_code 3 (some .int) 1 puI [.inr (.inr (0, 0)), .inl x1, .inl x2] m (f_X6_as x1 x2 m) :=
  ctr_of (P := P_X6) (by decide +kernel) rfl pt_X6 rfl rfl (fun X hC _ _ _ _ _ hR h0 h1 hr => g_X6_as ⟨hC, hR, h0, h1, hr⟩ x1 x2 m)

def f_X6_trace (m : Mem) : Option (Int32 × Mem) :=
  some ((m 0 0 5), m)
theorem g_X6_trace {X : XT} (h : MX X prog_1_method_27_code P_X6 0 (some .int)) (m : Mem) : Go X (Em X puI) 0 [some (.inr (.inr (0, 0)))] [] m (f_X6_trace m) := by
  unfold f_X6_trace
  refine go_blk h.1 (is := [.aload_n 0, .getfield 46]) (pc' := 4) (ls' := [some (.inr (.inr (0, 0)))]) (st' := [.inl (m 0 0 5)]) (m' := m) (by decide +kernel) rfl ?_
  exact go_iret h.1 h.2.2.2.2 (by decide +kernel)
theorem ctr_X6_trace (l : Launch) (A : AR → Nat) (dC : Nat → ClassId) (dI : Nat → Nat → Nat) (cs : Nat → ClassId) (m : Mem) : Ctr l A dC dI cs yX6_trace prog_1_method_27_code 1 (some .int) 0 puI [.inr (.inr (0, 0))] m (f_X6_trace m) :=
  ctr_of (P := P_X6) (by decide +kernel) rfl pt_X6 rfl rfl (fun X hC _ _ _ _ _ hR h0 h1 hr => g_X6_trace ⟨hC, hR, h0, h1, hr⟩ m)

def f_X6_fault (m : Mem) : Option (Int32 × Mem) :=
  some ((m 0 0 6), m)
theorem g_X6_fault {X : XT} (h : MX X prog_1_method_28_code P_X6 0 (some .int)) (m : Mem) : Go X (Em X puI) 0 [some (.inr (.inr (0, 0)))] [] m (f_X6_fault m) := by
  unfold f_X6_fault
  refine go_blk h.1 (is := [.aload_n 0, .getfield 50]) (pc' := 4) (ls' := [some (.inr (.inr (0, 0)))]) (st' := [.inl (m 0 0 6)]) (m' := m) (by decide +kernel) rfl ?_
  exact go_iret h.1 h.2.2.2.2 (by decide +kernel)
theorem ctr_X6_fault (l : Launch) (A : AR → Nat) (dC : Nat → ClassId) (dI : Nat → Nat → Nat) (cs : Nat → ClassId) (m : Mem) : Ctr l A dC dI cs yX6_fault prog_1_method_28_code 1 (some .int) 0 puI [.inr (.inr (0, 0))] m (f_X6_fault m) :=
  ctr_of (P := P_X6) (by decide +kernel) rfl pt_X6 rfl rfl (fun X hC _ _ _ _ _ hR h0 h1 hr => g_X6_fault ⟨hC, hR, h0, h1, hr⟩ m)

def f_X6_many (x1 : Int32) (m : Mem) : Option (Int32 × Mem) :=
  if x1 = (0 : Int32) then
    some ((m 4 0 1), m)
  else
    if x1 = (1 : Int32) then
      some ((m 4 0 2), m)
    else
      if x1 = (2 : Int32) then
        some ((m 4 0 3), m)
      else
        if x1 = (3 : Int32) then
          some ((m 20 0 2), m)
        else
          some ((-2 : Int32), m)
theorem g_X6_many {X : XT} (h : MX X prog_1_method_29_code P_X6 0 (some .int)) (x1 : Int32) (m : Mem) : Go X (Em X puI) 0 [some (.inr (.inr (0, 0))), some (.inl x1)] [] m (f_X6_many x1 m) := by
  unfold f_X6_many
  refine go_blk h.1 (is := [.iload_n 1]) (pc' := 1) (ls' := [some (.inr (.inr (0, 0))), some (.inl x1)]) (st' := [.inl x1]) (m' := m) (by decide +kernel) rfl ?_
  refine go_ite (fun w1_0 => ?_) (fun w1_0 => ?_)
  · refine go_tsIn h.1 (dflt := 63) (lo := 0) (hi := 3) (offs := #[31, 39, 47, 55]) (len := 31) (off := 31) (0 : Int32) 32 w1_0 (by decide +kernel) (by decide) rfl (by decide) ?_
    refine go_blk h.1 (is := [.aload_n 0, .getfield 21, .getfield 82]) (pc' := 39) (ls' := [some (.inr (.inr (0, 0))), some (.inl x1)]) (st' := [.inl (m 4 0 1)]) (m' := m) (by decide +kernel) rfl ?_
    exact go_iret h.1 h.2.2.2.2 (by decide +kernel)
  · refine go_ite (fun w1_1 => ?_) (fun w1_1 => ?_)
    · refine go_tsIn h.1 (dflt := 63) (lo := 0) (hi := 3) (offs := #[31, 39, 47, 55]) (len := 31) (off := 39) (1 : Int32) 40 w1_1 (by decide +kernel) (by decide) rfl (by decide) ?_
      refine go_blk h.1 (is := [.aload_n 0, .getfield 21, .getfield 115]) (pc' := 47) (ls' := [some (.inr (.inr (0, 0))), some (.inl x1)]) (st' := [.inl (m 4 0 2)]) (m' := m) (by decide +kernel) rfl ?_
      exact go_iret h.1 h.2.2.2.2 (by decide +kernel)
    · refine go_ite (fun w1_2 => ?_) (fun w1_2 => ?_)
      · refine go_tsIn h.1 (dflt := 63) (lo := 0) (hi := 3) (offs := #[31, 39, 47, 55]) (len := 31) (off := 47) (2 : Int32) 48 w1_2 (by decide +kernel) (by decide) rfl (by decide) ?_
        refine go_blk h.1 (is := [.aload_n 0, .getfield 21, .getfield 118]) (pc' := 55) (ls' := [some (.inr (.inr (0, 0))), some (.inl x1)]) (st' := [.inl (m 4 0 3)]) (m' := m) (by decide +kernel) rfl ?_
        exact go_iret h.1 h.2.2.2.2 (by decide +kernel)
      · refine go_ite (fun w1_3 => ?_) (fun w1_3 => ?_)
        · refine go_tsIn h.1 (dflt := 63) (lo := 0) (hi := 3) (offs := #[31, 39, 47, 55]) (len := 31) (off := 55) (3 : Int32) 56 w1_3 (by decide +kernel) (by decide) rfl (by decide) ?_
          refine go_blk h.1 (is := [.aload_n 0, .getfield 42, .getfield 76]) (pc' := 63) (ls' := [some (.inr (.inr (0, 0))), some (.inl x1)]) (st' := [.inl (m 20 0 2)]) (m' := m) (by decide +kernel) rfl ?_
          exact go_iret h.1 h.2.2.2.2 (by decide +kernel)
        · refine go_tsOut h.1 (dflt := 63) (lo := 0) (hi := 3) (offs := #[31, 39, 47, 55]) (len := 31) 64 (by decide +kernel) (sw_out (n := 4) (by decide) ((lt_s (lt_s (lt_s (lt_s lt_0 w1_0) w1_1) w1_2) w1_3) : ∀ j : Nat, j < 4 → ¬ x1 = Int32.ofInt (0 + (j : Int)))) (by decide) ?_
          refine go_blk h.1 (is := [.bipush (-2)]) (pc' := 66) (ls' := [some (.inr (.inr (0, 0))), some (.inl x1)]) (st' := [.inl (-2 : Int32)]) (m' := m) (by decide +kernel) rfl ?_
          exact go_iret h.1 h.2.2.2.2 (by decide +kernel)
theorem ctr_X6_many (l : Launch) (A : AR → Nat) (dC : Nat → ClassId) (dI : Nat → Nat → Nat) (cs : Nat → ClassId) (x1 : Int32) (m : Mem) : Ctr l A dC dI cs yX6_many prog_1_method_29_code 2 (some .int) 0 puI [.inr (.inr (0, 0)), .inl x1] m (f_X6_many x1 m) :=
  ctr_of (P := P_X6) (by decide +kernel) rfl pt_X6 rfl rfl (fun X hC _ _ _ _ _ hR h0 h1 hr => g_X6_many ⟨hC, hR, h0, h1, hr⟩ x1 m)
end
