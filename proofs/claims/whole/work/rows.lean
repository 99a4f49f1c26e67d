section
-- ===== PART A: goes FIRST, ahead of the names: the tables' words, and 'selects' of the private methods out of them =====
/-- a private method of a class that the tables say can be made, by its rows of tables_1 -/
def lw_okq (q : MethodName × Nat) : Prop := (q.1.cls ≠ "java/lang/invoke/MethodHandle" ∧ q.1.cls ≠ "java/lang/invoke/VarHandle") ∧ Cond.instantiable q.1.cls q.2 ∈ tables_1 ∧ Cond.privateMethod q.1 ∈ tables_1 ∧ Cond.instanceMethod q.1 ∈ tables_1
theorem lw_p0 : lw_okq (⟨"HeronFord", "faulty", "(I)I"⟩, 7) := ⟨⟨by decide +kernel, by decide +kernel⟩, List.mem_of_getElem? (i := 13) (by decide +kernel), List.mem_of_getElem? (i := 254) (by decide +kernel), List.mem_of_getElem? (i := 255) (by decide +kernel)⟩
theorem lw_p1 : lw_okq (⟨"HeronFord", "refusalOf", "(IIIIZ)I"⟩, 7) := ⟨⟨by decide +kernel, by decide +kernel⟩, List.mem_of_getElem? (i := 13) (by decide +kernel), List.mem_of_getElem? (i := 318) (by decide +kernel), List.mem_of_getElem? (i := 319) (by decide +kernel)⟩
theorem lw_p2 : lw_okq (⟨"HeronFord", "walkAsTold", "(III)I"⟩, 7) := ⟨⟨by decide +kernel, by decide +kernel⟩, List.mem_of_getElem? (i := 13) (by decide +kernel), List.mem_of_getElem? (i := 322) (by decide +kernel), List.mem_of_getElem? (i := 323) (by decide +kernel)⟩
theorem lw_p3 : lw_okq (⟨"HeronFord$Crossing", "payerOf", "(II)I"⟩, 14) := ⟨⟨by decide +kernel, by decide +kernel⟩, List.mem_of_getElem? (i := 105) (by decide +kernel), List.mem_of_getElem? (i := 342) (by decide +kernel), List.mem_of_getElem? (i := 343) (by decide +kernel)⟩
theorem lw_p4 : lw_okq (⟨"HeronFord$Crossing", "hasNewSong", "(I)Z"⟩, 14) := ⟨⟨by decide +kernel, by decide +kernel⟩, List.mem_of_getElem? (i := 105) (by decide +kernel), List.mem_of_getElem? (i := 355) (by decide +kernel), List.mem_of_getElem? (i := 356) (by decide +kernel)⟩
theorem lw_p5 : lw_okq (⟨"HeronFord$Crossing", "hasSecret", "(I)Z"⟩, 14) := ⟨⟨by decide +kernel, by decide +kernel⟩, List.mem_of_getElem? (i := 105) (by decide +kernel), List.mem_of_getElem? (i := 359) (by decide +kernel), List.mem_of_getElem? (i := 360) (by decide +kernel)⟩
theorem lw_p6 : lw_okq (⟨"HeronFord$Crossing", "lenderFor", "(II)I"⟩, 14) := ⟨⟨by decide +kernel, by decide +kernel⟩, List.mem_of_getElem? (i := 105) (by decide +kernel), List.mem_of_getElem? (i := 363) (by decide +kernel), List.mem_of_getElem? (i := 364) (by decide +kernel)⟩
theorem lw_p7 : lw_okq (⟨"HeronFord$Crossing", "pay", "(III)V"⟩, 14) := ⟨⟨by decide +kernel, by decide +kernel⟩, List.mem_of_getElem? (i := 105) (by decide +kernel), List.mem_of_getElem? (i := 367) (by decide +kernel), List.mem_of_getElem? (i := 368) (by decide +kernel)⟩
theorem lw_p8 : lw_okq (⟨"HeronFord$Crossing", "turnWord", "(II)V"⟩, 14) := ⟨⟨by decide +kernel, by decide +kernel⟩, List.mem_of_getElem? (i := 105) (by decide +kernel), List.mem_of_getElem? (i := 371) (by decide +kernel), List.mem_of_getElem? (i := 372) (by decide +kernel)⟩
theorem lw_p9 : lw_okq (⟨"HeronFord", "refusalWithFish", "(IIIII)I"⟩, 7) := ⟨⟨by decide +kernel, by decide +kernel⟩, List.mem_of_getElem? (i := 13) (by decide +kernel), List.mem_of_getElem? (i := 379) (by decide +kernel), List.mem_of_getElem? (i := 380) (by decide +kernel)⟩
theorem lw_p10 : lw_okq (⟨"HeronFord", "unknownFish", "()I"⟩, 7) := ⟨⟨by decide +kernel, by decide +kernel⟩, List.mem_of_getElem? (i := 13) (by decide +kernel), List.mem_of_getElem? (i := 383) (by decide +kernel), List.mem_of_getElem? (i := 384) (by decide +kernel)⟩
theorem lw_p11 : lw_okq (⟨"HeronFord$Crossing", "cheapest", "(II)I"⟩, 14) := ⟨⟨by decide +kernel, by decide +kernel⟩, List.mem_of_getElem? (i := 105) (by decide +kernel), List.mem_of_getElem? (i := 408) (by decide +kernel), List.mem_of_getElem? (i := 409) (by decide +kernel)⟩
theorem lw_p12 : lw_okq (⟨"HeronFord$Crossing", "netOf", "(I)I"⟩, 14) := ⟨⟨by decide +kernel, by decide +kernel⟩, List.mem_of_getElem? (i := 105) (by decide +kernel), List.mem_of_getElem? (i := 435) (by decide +kernel), List.mem_of_getElem? (i := 436) (by decide +kernel)⟩
theorem lw_p13 : lw_okq (⟨"HeronFord", "fits", "(III)Z"⟩, 7) := ⟨⟨by decide +kernel, by decide +kernel⟩, List.mem_of_getElem? (i := 13) (by decide +kernel), List.mem_of_getElem? (i := 462) (by decide +kernel), List.mem_of_getElem? (i := 463) (by decide +kernel)⟩
theorem lw_p14 : lw_okq (⟨"HeronFord$Sheet", "cut", "(I)I"⟩, 4) := ⟨⟨by decide +kernel, by decide +kernel⟩, List.mem_of_getElem? (i := 22) (by decide +kernel), List.mem_of_getElem? (i := 510) (by decide +kernel), List.mem_of_getElem? (i := 511) (by decide +kernel)⟩
theorem lw_p15 : lw_okq (⟨"HeronFord", "pikesTelling", "(LHeronFord$Fish;)I"⟩, 7) := ⟨⟨by decide +kernel, by decide +kernel⟩, List.mem_of_getElem? (i := 13) (by decide +kernel), List.mem_of_getElem? (i := 527) (by decide +kernel), List.mem_of_getElem? (i := 528) (by decide +kernel)⟩
def lw_privs_1 : List (MethodName × Nat) := [(⟨"HeronFord", "faulty", "(I)I"⟩, 7), (⟨"HeronFord", "refusalOf", "(IIIIZ)I"⟩, 7), (⟨"HeronFord", "walkAsTold", "(III)I"⟩, 7), (⟨"HeronFord$Crossing", "payerOf", "(II)I"⟩, 14), (⟨"HeronFord$Crossing", "hasNewSong", "(I)Z"⟩, 14), (⟨"HeronFord$Crossing", "hasSecret", "(I)Z"⟩, 14), (⟨"HeronFord$Crossing", "lenderFor", "(II)I"⟩, 14), (⟨"HeronFord$Crossing", "pay", "(III)V"⟩, 14), (⟨"HeronFord$Crossing", "turnWord", "(II)V"⟩, 14), (⟨"HeronFord", "refusalWithFish", "(IIIII)I"⟩, 7), (⟨"HeronFord", "unknownFish", "()I"⟩, 7), (⟨"HeronFord$Crossing", "cheapest", "(II)I"⟩, 14), (⟨"HeronFord$Crossing", "netOf", "(I)I"⟩, 14), (⟨"HeronFord", "fits", "(III)Z"⟩, 7), (⟨"HeronFord$Sheet", "cut", "(I)I"⟩, 4), (⟨"HeronFord", "pikesTelling", "(LHeronFord$Fish;)I"⟩, 7)]
theorem lw_r1 : ∀ q ∈ lw_privs_1, lw_okq q := List.forall_mem_cons.mpr ⟨lw_p0, List.forall_mem_cons.mpr ⟨lw_p1, List.forall_mem_cons.mpr ⟨lw_p2, List.forall_mem_cons.mpr ⟨lw_p3, List.forall_mem_cons.mpr ⟨lw_p4, List.forall_mem_cons.mpr ⟨lw_p5, List.forall_mem_cons.mpr ⟨lw_p6, List.forall_mem_cons.mpr ⟨lw_p7, List.forall_mem_cons.mpr ⟨lw_p8, List.forall_mem_cons.mpr ⟨lw_p9, List.forall_mem_cons.mpr ⟨lw_p10, List.forall_mem_cons.mpr ⟨lw_p11, List.forall_mem_cons.mpr ⟨lw_p12, List.forall_mem_cons.mpr ⟨lw_p13, List.forall_mem_cons.mpr ⟨lw_p14, List.forall_mem_cons.mpr ⟨lw_p15, fun _ h => absurd h List.not_mem_nil⟩⟩⟩⟩⟩⟩⟩⟩⟩⟩⟩⟩⟩⟩⟩⟩
theorem lw_p16 : lw_okq (⟨"HeronFord", "leaveTrace", "(I)V"⟩, 7) := ⟨⟨by decide +kernel, by decide +kernel⟩, List.mem_of_getElem? (i := 13) (by decide +kernel), List.mem_of_getElem? (i := 531) (by decide +kernel), List.mem_of_getElem? (i := 532) (by decide +kernel)⟩
theorem lw_p17 : lw_okq (⟨"HeronFord", "eelsTelling", "(LHeronFord$Fish;)I"⟩, 7) := ⟨⟨by decide +kernel, by decide +kernel⟩, List.mem_of_getElem? (i := 13) (by decide +kernel), List.mem_of_getElem? (i := 535) (by decide +kernel), List.mem_of_getElem? (i := 536) (by decide +kernel)⟩
theorem lw_p18 : lw_okq (⟨"HeronFord", "fishsTelling", "(LHeronFord$Fish;)I"⟩, 7) := ⟨⟨by decide +kernel, by decide +kernel⟩, List.mem_of_getElem? (i := 13) (by decide +kernel), List.mem_of_getElem? (i := 539) (by decide +kernel), List.mem_of_getElem? (i := 540) (by decide +kernel)⟩
theorem lw_p19 : lw_okq (⟨"HeronFordModel", "against", "(IIII)I"⟩, 35) := ⟨⟨by decide +kernel, by decide +kernel⟩, List.mem_of_getElem? (i := 563) (by decide +kernel), List.mem_of_getElem? (i := 688) (by decide +kernel), List.mem_of_getElem? (i := 689) (by decide +kernel)⟩
theorem lw_p20 : lw_okq (⟨"HeronFordModel", "fails", "(I)I"⟩, 35) := ⟨⟨by decide +kernel, by decide +kernel⟩, List.mem_of_getElem? (i := 563) (by decide +kernel), List.mem_of_getElem? (i := 692) (by decide +kernel), List.mem_of_getElem? (i := 693) (by decide +kernel)⟩
theorem lw_p21 : lw_okq (⟨"HeronFordModel", "readFord", "(I)Z"⟩, 35) := ⟨⟨by decide +kernel, by decide +kernel⟩, List.mem_of_getElem? (i := 563) (by decide +kernel), List.mem_of_getElem? (i := 696) (by decide +kernel), List.mem_of_getElem? (i := 697) (by decide +kernel)⟩
theorem lw_p22 : lw_okq (⟨"HeronFordModel", "isSign", "(II)Z"⟩, 35) := ⟨⟨by decide +kernel, by decide +kernel⟩, List.mem_of_getElem? (i := 563) (by decide +kernel), List.mem_of_getElem? (i := 700) (by decide +kernel), List.mem_of_getElem? (i := 701) (by decide +kernel)⟩
theorem lw_p23 : lw_okq (⟨"HeronFordModel", "digit", "(III)I"⟩, 35) := ⟨⟨by decide +kernel, by decide +kernel⟩, List.mem_of_getElem? (i := 563) (by decide +kernel), List.mem_of_getElem? (i := 704) (by decide +kernel), List.mem_of_getElem? (i := 705) (by decide +kernel)⟩
theorem lw_p24 : lw_okq (⟨"HeronFordModel", "readFish", "(I)Z"⟩, 35) := ⟨⟨by decide +kernel, by decide +kernel⟩, List.mem_of_getElem? (i := 563) (by decide +kernel), List.mem_of_getElem? (i := 708) (by decide +kernel), List.mem_of_getElem? (i := 709) (by decide +kernel)⟩
theorem lw_p25 : lw_okq (⟨"HeronFordModel", "isFish", "(I)Z"⟩, 35) := ⟨⟨by decide +kernel, by decide +kernel⟩, List.mem_of_getElem? (i := 563) (by decide +kernel), List.mem_of_getElem? (i := 716) (by decide +kernel), List.mem_of_getElem? (i := 717) (by decide +kernel)⟩
theorem lw_p26 : lw_okq (⟨"HeronFordModel", "share", "(I)I"⟩, 35) := ⟨⟨by decide +kernel, by decide +kernel⟩, List.mem_of_getElem? (i := 563) (by decide +kernel), List.mem_of_getElem? (i := 720) (by decide +kernel), List.mem_of_getElem? (i := 721) (by decide +kernel)⟩
theorem lw_p27 : lw_okq (⟨"HeronFordModel", "layPasses", "(IIII)I"⟩, 35) := ⟨⟨by decide +kernel, by decide +kernel⟩, List.mem_of_getElem? (i := 563) (by decide +kernel), List.mem_of_getElem? (i := 743) (by decide +kernel), List.mem_of_getElem? (i := 744) (by decide +kernel)⟩
theorem lw_p28 : lw_okq (⟨"HeronFordModel", "go", "()I"⟩, 35) := ⟨⟨by decide +kernel, by decide +kernel⟩, List.mem_of_getElem? (i := 563) (by decide +kernel), List.mem_of_getElem? (i := 747) (by decide +kernel), List.mem_of_getElem? (i := 748) (by decide +kernel)⟩
theorem lw_p29 : lw_okq (⟨"HeronFordModel", "begin", "()V"⟩, 35) := ⟨⟨by decide +kernel, by decide +kernel⟩, List.mem_of_getElem? (i := 563) (by decide +kernel), List.mem_of_getElem? (i := 751) (by decide +kernel), List.mem_of_getElem? (i := 752) (by decide +kernel)⟩
theorem lw_p30 : lw_okq (⟨"HeronFordModel", "pass", "(II)Z"⟩, 35) := ⟨⟨by decide +kernel, by decide +kernel⟩, List.mem_of_getElem? (i := 563) (by decide +kernel), List.mem_of_getElem? (i := 755) (by decide +kernel), List.mem_of_getElem? (i := 756) (by decide +kernel)⟩
theorem lw_p31 : lw_okq (⟨"HeronFordModel", "payScales", "(I)Z"⟩, 35) := ⟨⟨by decide +kernel, by decide +kernel⟩, List.mem_of_getElem? (i := 563) (by decide +kernel), List.mem_of_getElem? (i := 759) (by decide +kernel), List.mem_of_getElem? (i := 760) (by decide +kernel)⟩
def lw_privs_2 : List (MethodName × Nat) := [(⟨"HeronFord", "leaveTrace", "(I)V"⟩, 7), (⟨"HeronFord", "eelsTelling", "(LHeronFord$Fish;)I"⟩, 7), (⟨"HeronFord", "fishsTelling", "(LHeronFord$Fish;)I"⟩, 7), (⟨"HeronFordModel", "against", "(IIII)I"⟩, 35), (⟨"HeronFordModel", "fails", "(I)I"⟩, 35), (⟨"HeronFordModel", "readFord", "(I)Z"⟩, 35), (⟨"HeronFordModel", "isSign", "(II)Z"⟩, 35), (⟨"HeronFordModel", "digit", "(III)I"⟩, 35), (⟨"HeronFordModel", "readFish", "(I)Z"⟩, 35), (⟨"HeronFordModel", "isFish", "(I)Z"⟩, 35), (⟨"HeronFordModel", "share", "(I)I"⟩, 35), (⟨"HeronFordModel", "layPasses", "(IIII)I"⟩, 35), (⟨"HeronFordModel", "go", "()I"⟩, 35), (⟨"HeronFordModel", "begin", "()V"⟩, 35), (⟨"HeronFordModel", "pass", "(II)Z"⟩, 35), (⟨"HeronFordModel", "payScales", "(I)Z"⟩, 35)]
theorem lw_r2 : ∀ q ∈ lw_privs_2, lw_okq q := List.forall_mem_cons.mpr ⟨lw_p16, List.forall_mem_cons.mpr ⟨lw_p17, List.forall_mem_cons.mpr ⟨lw_p18, List.forall_mem_cons.mpr ⟨lw_p19, List.forall_mem_cons.mpr ⟨lw_p20, List.forall_mem_cons.mpr ⟨lw_p21, List.forall_mem_cons.mpr ⟨lw_p22, List.forall_mem_cons.mpr ⟨lw_p23, List.forall_mem_cons.mpr ⟨lw_p24, List.forall_mem_cons.mpr ⟨lw_p25, List.forall_mem_cons.mpr ⟨lw_p26, List.forall_mem_cons.mpr ⟨lw_p27, List.forall_mem_cons.mpr ⟨lw_p28, List.forall_mem_cons.mpr ⟨lw_p29, List.forall_mem_cons.mpr ⟨lw_p30, List.forall_mem_cons.mpr ⟨lw_p31, fun _ h => absurd h List.not_mem_nil⟩⟩⟩⟩⟩⟩⟩⟩⟩⟩⟩⟩⟩⟩⟩⟩
theorem lw_p32 : lw_okq (⟨"HeronFordModel", "tollNow", "(I)I"⟩, 35) := ⟨⟨by decide +kernel, by decide +kernel⟩, List.mem_of_getElem? (i := 563) (by decide +kernel), List.mem_of_getElem? (i := 763) (by decide +kernel), List.mem_of_getElem? (i := 764) (by decide +kernel)⟩
theorem lw_p33 : lw_okq (⟨"HeronFordModel", "paySong", "(I)Z"⟩, 35) := ⟨⟨by decide +kernel, by decide +kernel⟩, List.mem_of_getElem? (i := 563) (by decide +kernel), List.mem_of_getElem? (i := 767) (by decide +kernel), List.mem_of_getElem? (i := 768) (by decide +kernel)⟩
theorem lw_p34 : lw_okq (⟨"HeronFordModel", "paySecret", "(I)Z"⟩, 35) := ⟨⟨by decide +kernel, by decide +kernel⟩, List.mem_of_getElem? (i := 563) (by decide +kernel), List.mem_of_getElem? (i := 771) (by decide +kernel), List.mem_of_getElem? (i := 772) (by decide +kernel)⟩
theorem lw_p35 : lw_okq (⟨"HeronFordModel", "payCredit", "(I)Z"⟩, 35) := ⟨⟨by decide +kernel, by decide +kernel⟩, List.mem_of_getElem? (i := 563) (by decide +kernel), List.mem_of_getElem? (i := 775) (by decide +kernel), List.mem_of_getElem? (i := 776) (by decide +kernel)⟩
theorem lw_p36 : lw_okq (⟨"HeronFordModel", "lender", "(II)I"⟩, 35) := ⟨⟨by decide +kernel, by decide +kernel⟩, List.mem_of_getElem? (i := 563) (by decide +kernel), List.mem_of_getElem? (i := 779) (by decide +kernel), List.mem_of_getElem? (i := 780) (by decide +kernel)⟩
theorem lw_p37 : lw_okq (⟨"HeronFordModel", "tellPasses", "(I)I"⟩, 35) := ⟨⟨by decide +kernel, by decide +kernel⟩, List.mem_of_getElem? (i := 563) (by decide +kernel), List.mem_of_getElem? (i := 783) (by decide +kernel), List.mem_of_getElem? (i := 784) (by decide +kernel)⟩
theorem lw_p38 : lw_okq (⟨"HeronFordModel", "goRow", "(IIII)I"⟩, 35) := ⟨⟨by decide +kernel, by decide +kernel⟩, List.mem_of_getElem? (i := 563) (by decide +kernel), List.mem_of_getElem? (i := 791) (by decide +kernel), List.mem_of_getElem? (i := 792) (by decide +kernel)⟩
theorem lw_p39 : lw_okq (⟨"HeronFordModel", "findLeast", "(I)V"⟩, 35) := ⟨⟨by decide +kernel, by decide +kernel⟩, List.mem_of_getElem? (i := 563) (by decide +kernel), List.mem_of_getElem? (i := 803) (by decide +kernel), List.mem_of_getElem? (i := 804) (by decide +kernel)⟩
theorem lw_p40 : lw_okq (⟨"HeronFordModel", "goWays", "(II)I"⟩, 35) := ⟨⟨by decide +kernel, by decide +kernel⟩, List.mem_of_getElem? (i := 563) (by decide +kernel), List.mem_of_getElem? (i := 807) (by decide +kernel), List.mem_of_getElem? (i := 808) (by decide +kernel)⟩
theorem lw_p41 : lw_okq (⟨"HeronFordModel", "nextOrder", "()Z"⟩, 35) := ⟨⟨by decide +kernel, by decide +kernel⟩, List.mem_of_getElem? (i := 563) (by decide +kernel), List.mem_of_getElem? (i := 811) (by decide +kernel), List.mem_of_getElem? (i := 812) (by decide +kernel)⟩
theorem lw_p42 : lw_okq (⟨"HeronFordModel", "swap", "(II)V"⟩, 35) := ⟨⟨by decide +kernel, by decide +kernel⟩, List.mem_of_getElem? (i := 563) (by decide +kernel), List.mem_of_getElem? (i := 815) (by decide +kernel), List.mem_of_getElem? (i := 816) (by decide +kernel)⟩
theorem lw_p43 : lw_okq (⟨"HeronFordModel", "layNets", "()V"⟩, 35) := ⟨⟨by decide +kernel, by decide +kernel⟩, List.mem_of_getElem? (i := 563) (by decide +kernel), List.mem_of_getElem? (i := 823) (by decide +kernel), List.mem_of_getElem? (i := 824) (by decide +kernel)⟩
theorem lw_p44 : lw_okq (⟨"HeronFordModel", "mostParts", "()I"⟩, 35) := ⟨⟨by decide +kernel, by decide +kernel⟩, List.mem_of_getElem? (i := 563) (by decide +kernel), List.mem_of_getElem? (i := 827) (by decide +kernel), List.mem_of_getElem? (i := 828) (by decide +kernel)⟩
theorem lw_p45 : lw_okq (⟨"HeronFordModel", "isEven", "(I)Z"⟩, 35) := ⟨⟨by decide +kernel, by decide +kernel⟩, List.mem_of_getElem? (i := 563) (by decide +kernel), List.mem_of_getElem? (i := 831) (by decide +kernel), List.mem_of_getElem? (i := 832) (by decide +kernel)⟩
theorem lw_p46 : lw_okq (⟨"HeronFordModel", "lay", "(IIII)I"⟩, 35) := ⟨⟨by decide +kernel, by decide +kernel⟩, List.mem_of_getElem? (i := 563) (by decide +kernel), List.mem_of_getElem? (i := 851) (by decide +kernel), List.mem_of_getElem? (i := 852) (by decide +kernel)⟩
theorem lw_p47 : lw_okq (⟨"HeronFordModel", "areSo", "()Z"⟩, 35) := ⟨⟨by decide +kernel, by decide +kernel⟩, List.mem_of_getElem? (i := 563) (by decide +kernel), List.mem_of_getElem? (i := 855) (by decide +kernel), List.mem_of_getElem? (i := 856) (by decide +kernel)⟩
def lw_privs_3 : List (MethodName × Nat) := [(⟨"HeronFordModel", "tollNow", "(I)I"⟩, 35), (⟨"HeronFordModel", "paySong", "(I)Z"⟩, 35), (⟨"HeronFordModel", "paySecret", "(I)Z"⟩, 35), (⟨"HeronFordModel", "payCredit", "(I)Z"⟩, 35), (⟨"HeronFordModel", "lender", "(II)I"⟩, 35), (⟨"HeronFordModel", "tellPasses", "(I)I"⟩, 35), (⟨"HeronFordModel", "goRow", "(IIII)I"⟩, 35), (⟨"HeronFordModel", "findLeast", "(I)V"⟩, 35), (⟨"HeronFordModel", "goWays", "(II)I"⟩, 35), (⟨"HeronFordModel", "nextOrder", "()Z"⟩, 35), (⟨"HeronFordModel", "swap", "(II)V"⟩, 35), (⟨"HeronFordModel", "layNets", "()V"⟩, 35), (⟨"HeronFordModel", "mostParts", "()I"⟩, 35), (⟨"HeronFordModel", "isEven", "(I)Z"⟩, 35), (⟨"HeronFordModel", "lay", "(IIII)I"⟩, 35), (⟨"HeronFordModel", "areSo", "()Z"⟩, 35)]
theorem lw_r3 : ∀ q ∈ lw_privs_3, lw_okq q := List.forall_mem_cons.mpr ⟨lw_p32, List.forall_mem_cons.mpr ⟨lw_p33, List.forall_mem_cons.mpr ⟨lw_p34, List.forall_mem_cons.mpr ⟨lw_p35, List.forall_mem_cons.mpr ⟨lw_p36, List.forall_mem_cons.mpr ⟨lw_p37, List.forall_mem_cons.mpr ⟨lw_p38, List.forall_mem_cons.mpr ⟨lw_p39, List.forall_mem_cons.mpr ⟨lw_p40, List.forall_mem_cons.mpr ⟨lw_p41, List.forall_mem_cons.mpr ⟨lw_p42, List.forall_mem_cons.mpr ⟨lw_p43, List.forall_mem_cons.mpr ⟨lw_p44, List.forall_mem_cons.mpr ⟨lw_p45, List.forall_mem_cons.mpr ⟨lw_p46, List.forall_mem_cons.mpr ⟨lw_p47, fun _ h => absurd h List.not_mem_nil⟩⟩⟩⟩⟩⟩⟩⟩⟩⟩⟩⟩⟩⟩⟩⟩
theorem lw_p48 : lw_okq (⟨"HeronFordModel", "lost", "(I)J"⟩, 35) := ⟨⟨by decide +kernel, by decide +kernel⟩, List.mem_of_getElem? (i := 563) (by decide +kernel), List.mem_of_getElem? (i := 892) (by decide +kernel), List.mem_of_getElem? (i := 893) (by decide +kernel)⟩
theorem lw_p49 : lw_okq (⟨"HeronFordModel", "begins", "(I)V"⟩, 35) := ⟨⟨by decide +kernel, by decide +kernel⟩, List.mem_of_getElem? (i := 563) (by decide +kernel), List.mem_of_getElem? (i := 904) (by decide +kernel), List.mem_of_getElem? (i := 905) (by decide +kernel)⟩
def lw_privs_4 : List (MethodName × Nat) := [(⟨"HeronFordModel", "lost", "(I)J"⟩, 35), (⟨"HeronFordModel", "begins", "(I)V"⟩, 35)]
theorem lw_r4 : ∀ q ∈ lw_privs_4, lw_okq q := List.forall_mem_cons.mpr ⟨lw_p48, List.forall_mem_cons.mpr ⟨lw_p49, fun _ h => absurd h List.not_mem_nil⟩⟩
def lw_privs : List (MethodName × Nat) := lw_privs_1 ++ (lw_privs_2 ++ (lw_privs_3 ++ (lw_privs_4)))
def lw_tbl : List Cond := k2_sels lw_privs ++ tables_1
theorem lw_privs_ok : ∀ q ∈ lw_privs, lw_okq q := by
  show ∀ q ∈ lw_privs_1 ++ (lw_privs_2 ++ (lw_privs_3 ++ (lw_privs_4))), lw_okq q
  exact List.forall_mem_append.mpr ⟨lw_r1, List.forall_mem_append.mpr ⟨lw_r2, List.forall_mem_append.mpr ⟨lw_r3, lw_r4⟩⟩⟩
-- ===== end of PART A =====
def RX0 : String := "HeronFord$Crossing"
def TX0 : u_T := fun k => match k with
  | 0 => ("HeronFord$Crossing", "kind", "[I", true)
  | 1 => ("HeronFord$Crossing", "size", "[I", true)
  | 2 => ("HeronFord$Crossing", "scales", "[I", true)
  | 3 => ("HeronFord$Crossing", "song", "[I", true)
  | 4 => ("HeronFord$Crossing", "secret", "[I", true)
  | 5 => ("HeronFord$Crossing", "owed", "[[I", true)
  | 6 => ("HeronFord$Crossing", "groups", "[I", true)
  | 7 => ("HeronFord$Crossing", "sums", "[I", true)
  | 8 => ("HeronFord$Crossing", "count", "I", false)
  | 9 => ("HeronFord$Crossing", "dear", "I", false)
  | 10 => ("HeronFord$Crossing", "known", "I", false)
  | 11 => ("HeronFord$Crossing", "harmed", "I", false)
  | 12 => ("HeronFord$Crossing", "above", "I", false)
  | _ => ("HeronFord$Crossing", "got", "I", false)
def tyX0 : Nat → FieldType := fun k => match k with
  | 0 => .array .int
  | 1 => .array .int
  | 2 => .array .int
  | 3 => .array .int
  | 4 => .array .int
  | 5 => .array (.array .int)
  | 6 => .array .int
  | 7 => .array .int
  | 8 => .int
  | 9 => .int
  | 10 => .int
  | 11 => .int
  | 12 => .int
  | _ => .int
abbrev wsX00 : List Cond := u_ws RX0 TX0 14
theorem nmX0 : ∀ a, a < 14 → ∀ b, b < 14 → a ≠ b → (TX0 a).2.1 ≠ (TX0 b).2.1 := by decide +kernel
theorem tyX0_ok : ∀ k, k < 14 → parseFieldDescriptor (TX0 k).2.2.1 = some (tyX0 k) := by decide +kernel
abbrev cX0_init : ByteArray := prog_2_method_1_code
def yX0_init : MethodName := ⟨RX0, "<init>", "()V"⟩
abbrev cX0_start : ByteArray := prog_2_method_2_code
def yX0_start : MethodName := ⟨RX0, "start", "(LHeronFord$Told;)V"⟩
abbrev cX0_walk : ByteArray := prog_2_method_3_code
def yX0_walk : MethodName := ⟨RX0, "walk", "(LHeronFord$Sheet;II)I"⟩
abbrev cX0_pass : ByteArray := prog_2_method_4_code
def yX0_pass : MethodName := ⟨RX0, "pass", "(II)I"⟩
abbrev cX0_unpass : ByteArray := prog_2_method_5_code
def yX0_unpass : MethodName := ⟨RX0, "unpass", "(III)V"⟩
abbrev cX0_payerOf : ByteArray := prog_2_method_6_code
def yX0_payerOf : MethodName := ⟨RX0, "payerOf", "(II)I"⟩
abbrev cX0_pay : ByteArray := prog_2_method_7_code
def yX0_pay : MethodName := ⟨RX0, "pay", "(III)V"⟩
abbrev cX0_turnWord : ByteArray := prog_2_method_8_code
def yX0_turnWord : MethodName := ⟨RX0, "turnWord", "(II)V"⟩
abbrev cX0_hasNewSong : ByteArray := prog_2_method_9_code
def yX0_hasNewSong : MethodName := ⟨RX0, "hasNewSong", "(I)Z"⟩
abbrev cX0_hasSecret : ByteArray := prog_2_method_10_code
def yX0_hasSecret : MethodName := ⟨RX0, "hasSecret", "(I)Z"⟩
abbrev cX0_lenderFor : ByteArray := prog_2_method_11_code
def yX0_lenderFor : MethodName := ⟨RX0, "lenderFor", "(II)I"⟩
abbrev cX0_tollOf : ByteArray := prog_2_method_12_code
def yX0_tollOf : MethodName := ⟨RX0, "tollOf", "(I)I"⟩
abbrev cX0_isBelow : ByteArray := prog_2_method_13_code
def yX0_isBelow : MethodName := ⟨RX0, "isBelow", "(I)Z"⟩
abbrev cX0_stillDue : ByteArray := prog_2_method_14_code
def yX0_stillDue : MethodName := ⟨RX0, "stillDue", "(I)I"⟩
abbrev cX0_cheapest : ByteArray := prog_2_method_15_code
def yX0_cheapest : MethodName := ⟨RX0, "cheapest", "(II)I"⟩
abbrev cX0_fewestPayments : ByteArray := prog_2_method_16_code
def yX0_fewestPayments : MethodName := ⟨RX0, "fewestPayments", "()I"⟩
abbrev cX0_netOf : ByteArray := prog_2_method_17_code
def yX0_netOf : MethodName := ⟨RX0, "netOf", "(I)I"⟩
def RX1 : String := "HeronFord$Fish"
def TX1 : u_T := fun k => match k with
  | 0 => ("HeronFord$Fish", "kind", "I", false)
  | 1 => ("HeronFord$Fish", "size", "I", false)
  | 2 => ("HeronFord$Fish", "scales", "I", false)
  | 3 => ("HeronFord$Fish", "song", "I", false)
  | _ => ("HeronFord$Fish", "secret", "I", false)
def tyX1 : Nat → FieldType := fun k => match k with
  | 0 => .int
  | 1 => .int
  | 2 => .int
  | 3 => .int
  | _ => .int
abbrev wsX10 : List Cond := u_ws RX1 TX1 5
theorem nmX1 : ∀ a, a < 5 → ∀ b, b < 5 → a ≠ b → (TX1 a).2.1 ≠ (TX1 b).2.1 := by decide +kernel
theorem tyX1_ok : ∀ k, k < 5 → parseFieldDescriptor (TX1 k).2.2.1 = some (tyX1 k) := by decide +kernel
abbrev cX1_init : ByteArray := prog_3_method_1_code
def yX1_init : MethodName := ⟨RX1, "<init>", "()V"⟩
abbrev cX1_take : ByteArray := prog_3_method_2_code
def yX1_take : MethodName := ⟨RX1, "take", "(LHeronFord$Sheet;I)V"⟩
def RX2 : String := "HeronFord$Readings"
def TX2 : u_T := fun k => match k with
  | 0 => ("HeronFord$Readings", "fish", "[I", true)
  | 1 => ("HeronFord$Readings", "left", "[I", true)
  | _ => ("HeronFord$Readings", "count", "I", false)
def tyX2 : Nat → FieldType := fun k => match k with
  | 0 => .array .int
  | 1 => .array .int
  | _ => .int
abbrev wsX20 : List Cond := u_ws RX2 TX2 3
theorem nmX2 : ∀ a, a < 3 → ∀ b, b < 3 → a ≠ b → (TX2 a).2.1 ≠ (TX2 b).2.1 := by decide +kernel
theorem tyX2_ok : ∀ k, k < 3 → parseFieldDescriptor (TX2 k).2.2.1 = some (tyX2 k) := by decide +kernel
abbrev cX2_init : ByteArray := prog_4_method_1_code
def yX2_init : MethodName := ⟨RX2, "<init>", "()V"⟩
abbrev cX2_add : ByteArray := prog_4_method_2_code
def yX2_add : MethodName := ⟨RX2, "add", "(II)I"⟩
abbrev cX2_areSo : ByteArray := prog_4_method_3_code
def yX2_areSo : MethodName := ⟨RX2, "areSo", "(LHeronFord$Crossing;)Z"⟩
def RX3 : String := "HeronFord$Search"
def TX3 : u_T := fun k => match k with
  | 0 => ("HeronFord$Search", "crossing", "LHeronFord$Crossing;", true)
  | 1 => ("HeronFord$Search", "row", "[I", true)
  | 2 => ("HeronFord$Search", "bestRow", "[I", true)
  | 3 => ("HeronFord$Search", "ways", "I", false)
  | _ => ("HeronFord$Search", "best", "I", false)
def tyX3 : Nat → FieldType := fun k => match k with
  | 0 => .object "HeronFord$Crossing"
  | 1 => .array .int
  | 2 => .array .int
  | 3 => .int
  | _ => .int
abbrev wsX30 : List Cond := u_ws RX3 TX3 5
theorem nmX3 : ∀ a, a < 5 → ∀ b, b < 5 → a ≠ b → (TX3 a).2.1 ≠ (TX3 b).2.1 := by decide +kernel
theorem tyX3_ok : ∀ k, k < 5 → parseFieldDescriptor (TX3 k).2.2.1 = some (tyX3 k) := by decide +kernel
abbrev cX3_init : ByteArray := prog_5_method_1_code
def yX3_init : MethodName := ⟨RX3, "<init>", "()V"⟩
abbrev cX3_forget : ByteArray := prog_5_method_2_code
def yX3_forget : MethodName := ⟨RX3, "forget", "()V"⟩
abbrev cX3_find : ByteArray := prog_5_method_3_code
def yX3_find : MethodName := ⟨RX3, "find", "(LHeronFord$Told;I)V"⟩
abbrev cX3_goOn : ByteArray := prog_5_method_4_code
def yX3_goOn : MethodName := ⟨RX3, "goOn", "(LHeronFord$Search;I)V"⟩
def RX4 : String := "HeronFord$Sheet"
def TX4 : u_T := fun k => match k with
  | 0 => ("HeronFord$Sheet", "cells", "[I", true)
  | 1 => ("HeronFord$Sheet", "hasRow", "Z", false)
  | 2 => ("HeronFord$Sheet", "lane", "I", false)
  | _ => ("HeronFord$Sheet", "length", "I", false)
def tyX4 : Nat → FieldType := fun k => match k with
  | 0 => .array .int
  | 1 => .boolean
  | 2 => .int
  | _ => .int
abbrev wsX40 : List Cond := u_ws RX4 TX4 4
theorem nmX4 : ∀ a, a < 4 → ∀ b, b < 4 → a ≠ b → (TX4 a).2.1 ≠ (TX4 b).2.1 := by decide +kernel
theorem tyX4_ok : ∀ k, k < 4 → parseFieldDescriptor (TX4 k).2.2.1 = some (tyX4 k) := by decide +kernel
abbrev cX4_init : ByteArray := prog_6_method_1_code
def yX4_init : MethodName := ⟨RX4, "<init>", "()V"⟩
abbrev cX4_begin : ByteArray := prog_6_method_2_code
def yX4_begin : MethodName := ⟨RX4, "begin", "(II)V"⟩
abbrev cX4_holds : ByteArray := prog_6_method_3_code
def yX4_holds : MethodName := ⟨RX4, "holds", "(II)Z"⟩
abbrev cX4_faultAt : ByteArray := prog_6_method_4_code
def yX4_faultAt : MethodName := ⟨RX4, "faultAt", "(III)I"⟩
abbrev cX4_at : ByteArray := prog_6_method_5_code
def yX4_at : MethodName := ⟨RX4, "at", "(I)I"⟩
abbrev cX4_set : ByteArray := prog_6_method_6_code
def yX4_set : MethodName := ⟨RX4, "set", "(II)V"⟩
abbrev cX4_cut : ByteArray := prog_6_method_7_code
def yX4_cut : MethodName := ⟨RX4, "cut", "(I)I"⟩
def RX5 : String := "HeronFord$Told"
def TX5 : u_T := fun k => match k with
  | 0 => ("HeronFord$Told", "fish", "[LHeronFord$Fish;", true)
  | 1 => ("HeronFord$Told", "count", "I", false)
  | 2 => ("HeronFord$Told", "dear", "I", false)
  | _ => ("HeronFord$Told", "known", "I", false)
def tyX5 : Nat → FieldType := fun k => match k with
  | 0 => .array (.object "HeronFord$Fish")
  | 1 => .int
  | 2 => .int
  | _ => .int
abbrev wsX50 : List Cond := u_ws RX5 TX5 4
theorem nmX5 : ∀ a, a < 4 → ∀ b, b < 4 → a ≠ b → (TX5 a).2.1 ≠ (TX5 b).2.1 := by decide +kernel
theorem tyX5_ok : ∀ k, k < 4 → parseFieldDescriptor (TX5 k).2.2.1 = some (tyX5 k) := by decide +kernel
abbrev cX5_init : ByteArray := prog_7_method_1_code
def yX5_init : MethodName := ⟨RX5, "<init>", "()V"⟩
abbrev cX5_has : ByteArray := prog_7_method_2_code
def yX5_has : MethodName := ⟨RX5, "has", "(I)Z"⟩
abbrev cX5_take : ByteArray := prog_7_method_3_code
def yX5_take : MethodName := ⟨RX5, "take", "(LHeronFord$Sheet;II)V"⟩
def RX6 : String := "HeronFord"
def TX6 : u_T := fun k => match k with
  | 0 => ("HeronFord", "sheets", "[LHeronFord$Sheet;", true)
  | 1 => ("HeronFord", "told", "LHeronFord$Told;", true)
  | 2 => ("HeronFord", "crossing", "LHeronFord$Crossing;", true)
  | 3 => ("HeronFord", "search", "LHeronFord$Search;", true)
  | 4 => ("HeronFord", "readings", "LHeronFord$Readings;", true)
  | 5 => ("HeronFord", "trace", "I", false)
  | _ => ("HeronFord", "fault", "I", false)
def tyX6 : Nat → FieldType := fun k => match k with
  | 0 => .array (.object "HeronFord$Sheet")
  | 1 => .object "HeronFord$Told"
  | 2 => .object "HeronFord$Crossing"
  | 3 => .object "HeronFord$Search"
  | 4 => .object "HeronFord$Readings"
  | 5 => .int
  | _ => .int
abbrev wsX60 : List Cond := u_ws RX6 TX6 7
theorem nmX6 : ∀ a, a < 7 → ∀ b, b < 7 → a ≠ b → (TX6 a).2.1 ≠ (TX6 b).2.1 := by decide +kernel
theorem tyX6_ok : ∀ k, k < 7 → parseFieldDescriptor (TX6 k).2.2.1 = some (tyX6 k) := by decide +kernel
abbrev cX6_init : ByteArray := prog_1_method_1_code
def yX6_init : MethodName := ⟨RX6, "<init>", "()V"⟩
abbrev cX6_ford : ByteArray := prog_1_method_2_code
def yX6_ford : MethodName := ⟨RX6, "ford", "(IIII)I"⟩
abbrev cX6_ofFish : ByteArray := prog_1_method_3_code
def yX6_ofFish : MethodName := ⟨RX6, "ofFish", "(II)I"⟩
abbrev cX6_dear : ByteArray := prog_1_method_4_code
def yX6_dear : MethodName := ⟨RX6, "dear", "(I)I"⟩
abbrev cX6_scales : ByteArray := prog_1_method_5_code
def yX6_scales : MethodName := ⟨RX6, "scales", "(II)I"⟩
abbrev cX6_hear : ByteArray := prog_1_method_6_code
def yX6_hear : MethodName := ⟨RX6, "hear", "(I)I"⟩
abbrev cX6_passes : ByteArray := prog_1_method_7_code
def yX6_passes : MethodName := ⟨RX6, "passes", "(IIIII)I"⟩
abbrev cX6_owes : ByteArray := prog_1_method_8_code
def yX6_owes : MethodName := ⟨RX6, "owes", "(IIIIII)I"⟩
abbrev cX6_toll : ByteArray := prog_1_method_9_code
def yX6_toll : MethodName := ⟨RX6, "toll", "(IIIII)I"⟩
abbrev cX6_least : ByteArray := prog_1_method_10_code
def yX6_least : MethodName := ⟨RX6, "least", "(II)I"⟩
abbrev cX6_payments : ByteArray := prog_1_method_11_code
def yX6_payments : MethodName := ⟨RX6, "payments", "(IIII)I"⟩
abbrev cX6_wants : ByteArray := prog_1_method_12_code
def yX6_wants : MethodName := ⟨RX6, "wants", "(IIIII)I"⟩
abbrev cX6_reading : ByteArray := prog_1_method_13_code
def yX6_reading : MethodName := ⟨RX6, "reading", "(II)I"⟩
abbrev cX6_back : ByteArray := prog_1_method_14_code
def yX6_back : MethodName := ⟨RX6, "back", "(I)I"⟩
abbrev cX6_had : ByteArray := prog_1_method_15_code
def yX6_had : MethodName := ⟨RX6, "had", "(IIIII)I"⟩
abbrev cX6_dears : ByteArray := prog_1_method_16_code
def yX6_dears : MethodName := ⟨RX6, "dears", "(IIII)I"⟩
abbrev cX6_kinds : ByteArray := prog_1_method_17_code
def yX6_kinds : MethodName := ⟨RX6, "kinds", "(IIIII)I"⟩
abbrev cX6_odds : ByteArray := prog_1_method_18_code
def yX6_odds : MethodName := ⟨RX6, "odds", "(IIIII)J"⟩
abbrev cX6_sheet : ByteArray := prog_1_method_19_code
def yX6_sheet : MethodName := ⟨RX6, "sheet", "(III)I"⟩
abbrev cX6_lose : ByteArray := prog_1_method_20_code
def yX6_lose : MethodName := ⟨RX6, "lose", "(I)I"⟩
abbrev cX6_put : ByteArray := prog_1_method_21_code
def yX6_put : MethodName := ⟨RX6, "put", "(III)I"⟩
abbrev cX6_cell : ByteArray := prog_1_method_22_code
def yX6_cell : MethodName := ⟨RX6, "cell", "(III)J"⟩
abbrev cX6_copy : ByteArray := prog_1_method_23_code
def yX6_copy : MethodName := ⟨RX6, "copy", "(IIIII)I"⟩
abbrev cX6_tell : ByteArray := prog_1_method_24_code
def yX6_tell : MethodName := ⟨RX6, "tell", "(I)I"⟩
abbrev cX6_let : ByteArray := prog_1_method_25_code
def yX6_let : MethodName := ⟨RX6, "let", "(I)I"⟩
abbrev cX6_as : ByteArray := prog_1_method_26_code
def yX6_as : MethodName := ⟨RX6, "as", "(II)I"⟩
abbrev cX6_trace : ByteArray := prog_1_method_27_code
def yX6_trace : MethodName := ⟨RX6, "trace", "()I"⟩
abbrev cX6_fault : ByteArray := prog_1_method_28_code
def yX6_fault : MethodName := ⟨RX6, "fault", "()I"⟩
abbrev cX6_many : ByteArray := prog_1_method_29_code
def yX6_many : MethodName := ⟨RX6, "many", "(I)I"⟩
abbrev cX6_isWithin : ByteArray := prog_1_method_30_code
def yX6_isWithin : MethodName := ⟨RX6, "isWithin", "(III)Z"⟩
abbrev cX6_isSheet : ByteArray := prog_1_method_31_code
def yX6_isSheet : MethodName := ⟨RX6, "isSheet", "(I)Z"⟩
abbrev cX6_isLane : ByteArray := prog_1_method_32_code
def yX6_isLane : MethodName := ⟨RX6, "isLane", "(I)Z"⟩
abbrev cX6_mayBe : ByteArray := prog_1_method_33_code
def yX6_mayBe : MethodName := ⟨RX6, "mayBe", "(II)Z"⟩
abbrev cX6_bitIf : ByteArray := prog_1_method_34_code
def yX6_bitIf : MethodName := ⟨RX6, "bitIf", "(ZI)I"⟩
abbrev cX6_shareOf : ByteArray := prog_1_method_35_code
def yX6_shareOf : MethodName := ⟨RX6, "shareOf", "(II)I"⟩
abbrev cX6_faulty : ByteArray := prog_1_method_36_code
def yX6_faulty : MethodName := ⟨RX6, "faulty", "(I)I"⟩
abbrev cX6_unknownFish : ByteArray := prog_1_method_37_code
def yX6_unknownFish : MethodName := ⟨RX6, "unknownFish", "()I"⟩
abbrev cX6_refusalWithFish : ByteArray := prog_1_method_38_code
def yX6_refusalWithFish : MethodName := ⟨RX6, "refusalWithFish", "(IIIII)I"⟩
abbrev cX6_refusalOf : ByteArray := prog_1_method_39_code
def yX6_refusalOf : MethodName := ⟨RX6, "refusalOf", "(IIIIZ)I"⟩
abbrev cX6_walkAsTold : ByteArray := prog_1_method_40_code
def yX6_walkAsTold : MethodName := ⟨RX6, "walkAsTold", "(III)I"⟩
abbrev cX6_fits : ByteArray := prog_1_method_41_code
def yX6_fits : MethodName := ⟨RX6, "fits", "(III)Z"⟩
abbrev cX6_leaveTrace : ByteArray := prog_1_method_42_code
def yX6_leaveTrace : MethodName := ⟨RX6, "leaveTrace", "(I)V"⟩
abbrev cX6_fishsTelling : ByteArray := prog_1_method_43_code
def yX6_fishsTelling : MethodName := ⟨RX6, "fishsTelling", "(LHeronFord$Fish;)I"⟩
abbrev cX6_eelsTelling : ByteArray := prog_1_method_44_code
def yX6_eelsTelling : MethodName := ⟨RX6, "eelsTelling", "(LHeronFord$Fish;)I"⟩
abbrev cX6_pikesTelling : ByteArray := prog_1_method_45_code
def yX6_pikesTelling : MethodName := ⟨RX6, "pikesTelling", "(LHeronFord$Fish;)I"⟩
abbrev cX6_firstFault : ByteArray := prog_1_method_46_code
def yX6_firstFault : MethodName := ⟨RX6, "firstFault", "(LHeronFord$Sheet;II)I"⟩
abbrev cX6_goesOn : ByteArray := prog_1_method_47_code
def yX6_goesOn : MethodName := ⟨RX6, "goesOn", "(II)Z"⟩
abbrev cX6_isDigit : ByteArray := prog_1_method_48_code
def yX6_isDigit : MethodName := ⟨RX6, "isDigit", "(III)Z"⟩
abbrev cX6_kindOf : ByteArray := prog_1_method_49_code
def yX6_kindOf : MethodName := ⟨RX6, "kindOf", "(I)I"⟩
def RX7 : String := "HeronFordModel"
def TX7 : u_T := fun k => match k with
  | 0 => ("HeronFordModel", "fault", "I", false)
  | 1 => ("HeronFordModel", "trace", "I", false)
  | 2 => ("HeronFordModel", "sorts", "[I", true)
  | 3 => ("HeronFordModel", "sheetLong", "[I", true)
  | 4 => ("HeronFordModel", "cells", "[I", true)
  | 5 => ("HeronFordModel", "isFord", "Z", false)
  | 6 => ("HeronFordModel", "dear", "I", false)
  | 7 => ("HeronFordModel", "fish", "I", false)
  | 8 => ("HeronFordModel", "heardAhead", "I", false)
  | 9 => ("HeronFordModel", "kind", "[I", true)
  | 10 => ("HeronFordModel", "size", "[I", true)
  | 11 => ("HeronFordModel", "scalesAt", "[I", true)
  | 12 => ("HeronFordModel", "song", "[I", true)
  | 13 => ("HeronFordModel", "secret", "[I", true)
  | 14 => ("HeronFordModel", "at", "I", false)
  | 15 => ("HeronFordModel", "readDear", "I", false)
  | 16 => ("HeronFordModel", "readMany", "I", false)
  | 17 => ("HeronFordModel", "read", "[I", true)
  | 18 => ("HeronFordModel", "scalesNow", "[I", true)
  | 19 => ("HeronFordModel", "owed", "[I", true)
  | 20 => ("HeronFordModel", "aboveNow", "I", false)
  | 21 => ("HeronFordModel", "harmedNow", "I", false)
  | 22 => ("HeronFordModel", "heardNow", "I", false)
  | 23 => ("HeronFordModel", "gotNow", "I", false)
  | 24 => ("HeronFordModel", "passes", "I", false)
  | 25 => ("HeronFordModel", "passOf", "[I", true)
  | 26 => ("HeronFordModel", "passHow", "[I", true)
  | 27 => ("HeronFordModel", "row", "[I", true)
  | 28 => ("HeronFordModel", "bestRow", "I", false)
  | 29 => ("HeronFordModel", "bestGot", "I", false)
  | 30 => ("HeronFordModel", "net", "[I", true)
  | 31 => ("HeronFordModel", "evenParts", "[I", true)
  | 32 => ("HeronFordModel", "readings", "I", false)
  | 33 => ("HeronFordModel", "readFishOf", "[I", true)
  | _ => ("HeronFordModel", "readScales", "[I", true)
def tyX7 : Nat → FieldType := fun k => match k with
  | 0 => .int
  | 1 => .int
  | 2 => .array .int
  | 3 => .array .int
  | 4 => .array .int
  | 5 => .boolean
  | 6 => .int
  | 7 => .int
  | 8 => .int
  | 9 => .array .int
  | 10 => .array .int
  | 11 => .array .int
  | 12 => .array .int
  | 13 => .array .int
  | 14 => .int
  | 15 => .int
  | 16 => .int
  | 17 => .array .int
  | 18 => .array .int
  | 19 => .array .int
  | 20 => .int
  | 21 => .int
  | 22 => .int
  | 23 => .int
  | 24 => .int
  | 25 => .array .int
  | 26 => .array .int
  | 27 => .array .int
  | 28 => .int
  | 29 => .int
  | 30 => .array .int
  | 31 => .array .int
  | 32 => .int
  | 33 => .array .int
  | _ => .array .int
abbrev wsX70 : List Cond := u_ws RX7 TX7 35
theorem nmX7 : ∀ a, a < 35 → ∀ b, b < 35 → a ≠ b → (TX7 a).2.1 ≠ (TX7 b).2.1 := by decide +kernel
theorem tyX7_ok : ∀ k, k < 35 → parseFieldDescriptor (TX7 k).2.2.1 = some (tyX7 k) := by decide +kernel
abbrev cX7_init : ByteArray := prog_9_method_1_code
def yX7_init : MethodName := ⟨RX7, "<init>", "()V"⟩
abbrev cX7_fails : ByteArray := prog_9_method_3_code
def yX7_fails : MethodName := ⟨RX7, "fails", "(I)I"⟩
abbrev cX7_lost : ByteArray := prog_9_method_4_code
def yX7_lost : MethodName := ⟨RX7, "lost", "(I)J"⟩
abbrev cX7_within : ByteArray := prog_9_method_5_code
def yX7_within : MethodName := ⟨RX7, "within", "(III)Z"⟩
abbrev cX7_isSheet : ByteArray := prog_9_method_6_code
def yX7_isSheet : MethodName := ⟨RX7, "isSheet", "(I)Z"⟩
abbrev cX7_isSort : ByteArray := prog_9_method_7_code
def yX7_isSort : MethodName := ⟨RX7, "isSort", "(I)Z"⟩
abbrev cX7_against : ByteArray := prog_9_method_8_code
def yX7_against : MethodName := ⟨RX7, "against", "(IIII)I"⟩
abbrev cX7_isFish : ByteArray := prog_9_method_9_code
def yX7_isFish : MethodName := ⟨RX7, "isFish", "(I)Z"⟩
abbrev cX7_digit : ByteArray := prog_9_method_10_code
def yX7_digit : MethodName := ⟨RX7, "digit", "(III)I"⟩
abbrev cX7_isSign : ByteArray := prog_9_method_11_code
def yX7_isSign : MethodName := ⟨RX7, "isSign", "(II)Z"⟩
abbrev cX7_ford : ByteArray := prog_9_method_12_code
def yX7_ford : MethodName := ⟨RX7, "ford", "(IIII)I"⟩
abbrev cX7_readFord : ByteArray := prog_9_method_13_code
def yX7_readFord : MethodName := ⟨RX7, "readFord", "(I)Z"⟩
abbrev cX7_readFish : ByteArray := prog_9_method_14_code
def yX7_readFish : MethodName := ⟨RX7, "readFish", "(I)Z"⟩
abbrev cX7_share : ByteArray := prog_9_method_15_code
def yX7_share : MethodName := ⟨RX7, "share", "(I)I"⟩
abbrev cX7_ofFish : ByteArray := prog_9_method_16_code
def yX7_ofFish : MethodName := ⟨RX7, "ofFish", "(II)I"⟩
abbrev cX7_dear : ByteArray := prog_9_method_17_code
def yX7_dear : MethodName := ⟨RX7, "dear", "(I)I"⟩
abbrev cX7_scales : ByteArray := prog_9_method_18_code
def yX7_scales : MethodName := ⟨RX7, "scales", "(II)I"⟩
abbrev cX7_hear : ByteArray := prog_9_method_19_code
def yX7_hear : MethodName := ⟨RX7, "hear", "(I)I"⟩
abbrev cX7_begin : ByteArray := prog_9_method_20_code
def yX7_begin : MethodName := ⟨RX7, "begin", "()V"⟩
abbrev cX7_tollNow : ByteArray := prog_9_method_21_code
def yX7_tollNow : MethodName := ⟨RX7, "tollNow", "(I)I"⟩
abbrev cX7_lender : ByteArray := prog_9_method_22_code
def yX7_lender : MethodName := ⟨RX7, "lender", "(II)I"⟩
abbrev cX7_payScales : ByteArray := prog_9_method_23_code
def yX7_payScales : MethodName := ⟨RX7, "payScales", "(I)Z"⟩
abbrev cX7_paySong : ByteArray := prog_9_method_24_code
def yX7_paySong : MethodName := ⟨RX7, "paySong", "(I)Z"⟩
abbrev cX7_paySecret : ByteArray := prog_9_method_25_code
def yX7_paySecret : MethodName := ⟨RX7, "paySecret", "(I)Z"⟩
abbrev cX7_payCredit : ByteArray := prog_9_method_26_code
def yX7_payCredit : MethodName := ⟨RX7, "payCredit", "(I)Z"⟩
abbrev cX7_pass : ByteArray := prog_9_method_27_code
def yX7_pass : MethodName := ⟨RX7, "pass", "(II)Z"⟩
abbrev cX7_layPasses : ByteArray := prog_9_method_28_code
def yX7_layPasses : MethodName := ⟨RX7, "layPasses", "(IIII)I"⟩
abbrev cX7_go : ByteArray := prog_9_method_29_code
def yX7_go : MethodName := ⟨RX7, "go", "()I"⟩
abbrev cX7_arePairs : ByteArray := prog_9_method_30_code
def yX7_arePairs : MethodName := ⟨RX7, "arePairs", "(II)Z"⟩
abbrev cX7_goRow : ByteArray := prog_9_method_31_code
def yX7_goRow : MethodName := ⟨RX7, "goRow", "(IIII)I"⟩
abbrev cX7_passes : ByteArray := prog_9_method_32_code
def yX7_passes : MethodName := ⟨RX7, "passes", "(IIIII)I"⟩
abbrev cX7_tellPasses : ByteArray := prog_9_method_33_code
def yX7_tellPasses : MethodName := ⟨RX7, "tellPasses", "(I)I"⟩
abbrev cX7_owes : ByteArray := prog_9_method_34_code
def yX7_owes : MethodName := ⟨RX7, "owes", "(IIIIII)I"⟩
abbrev cX7_toll : ByteArray := prog_9_method_35_code
def yX7_toll : MethodName := ⟨RX7, "toll", "(IIIII)I"⟩
abbrev cX7_swap : ByteArray := prog_9_method_36_code
def yX7_swap : MethodName := ⟨RX7, "swap", "(II)V"⟩
abbrev cX7_nextOrder : ByteArray := prog_9_method_37_code
def yX7_nextOrder : MethodName := ⟨RX7, "nextOrder", "()Z"⟩
abbrev cX7_goWays : ByteArray := prog_9_method_38_code
def yX7_goWays : MethodName := ⟨RX7, "goWays", "(II)I"⟩
abbrev cX7_findLeast : ByteArray := prog_9_method_39_code
def yX7_findLeast : MethodName := ⟨RX7, "findLeast", "(I)V"⟩
abbrev cX7_least : ByteArray := prog_9_method_40_code
def yX7_least : MethodName := ⟨RX7, "least", "(II)I"⟩
abbrev cX7_layNets : ByteArray := prog_9_method_41_code
def yX7_layNets : MethodName := ⟨RX7, "layNets", "()V"⟩
abbrev cX7_isEven : ByteArray := prog_9_method_42_code
def yX7_isEven : MethodName := ⟨RX7, "isEven", "(I)Z"⟩
abbrev cX7_mostParts : ByteArray := prog_9_method_43_code
def yX7_mostParts : MethodName := ⟨RX7, "mostParts", "()I"⟩
abbrev cX7_payments : ByteArray := prog_9_method_44_code
def yX7_payments : MethodName := ⟨RX7, "payments", "(IIII)I"⟩
abbrev cX7_wants : ByteArray := prog_9_method_45_code
def yX7_wants : MethodName := ⟨RX7, "wants", "(IIIII)I"⟩
abbrev cX7_reading : ByteArray := prog_9_method_46_code
def yX7_reading : MethodName := ⟨RX7, "reading", "(II)I"⟩
abbrev cX7_back : ByteArray := prog_9_method_47_code
def yX7_back : MethodName := ⟨RX7, "back", "(I)I"⟩
abbrev cX7_areSo : ByteArray := prog_9_method_48_code
def yX7_areSo : MethodName := ⟨RX7, "areSo", "()Z"⟩
abbrev cX7_lay : ByteArray := prog_9_method_49_code
def yX7_lay : MethodName := ⟨RX7, "lay", "(IIII)I"⟩
abbrev cX7_had : ByteArray := prog_9_method_50_code
def yX7_had : MethodName := ⟨RX7, "had", "(IIIII)I"⟩
abbrev cX7_dears : ByteArray := prog_9_method_51_code
def yX7_dears : MethodName := ⟨RX7, "dears", "(IIII)I"⟩
abbrev cX7_kinds : ByteArray := prog_9_method_52_code
def yX7_kinds : MethodName := ⟨RX7, "kinds", "(IIIII)I"⟩
abbrev cX7_inLeastTerms : ByteArray := prog_9_method_53_code
def yX7_inLeastTerms : MethodName := ⟨RX7, "inLeastTerms", "(JJI)J"⟩
abbrev cX7_odds : ByteArray := prog_9_method_54_code
def yX7_odds : MethodName := ⟨RX7, "odds", "(IIIII)J"⟩
abbrev cX7_sheet : ByteArray := prog_9_method_55_code
def yX7_sheet : MethodName := ⟨RX7, "sheet", "(III)I"⟩
abbrev cX7_lose : ByteArray := prog_9_method_56_code
def yX7_lose : MethodName := ⟨RX7, "lose", "(I)I"⟩
abbrev cX7_put : ByteArray := prog_9_method_57_code
def yX7_put : MethodName := ⟨RX7, "put", "(III)I"⟩
abbrev cX7_cell : ByteArray := prog_9_method_58_code
def yX7_cell : MethodName := ⟨RX7, "cell", "(III)J"⟩
abbrev cX7_copy : ByteArray := prog_9_method_59_code
def yX7_copy : MethodName := ⟨RX7, "copy", "(IIIII)I"⟩
abbrev cX7_begins : ByteArray := prog_9_method_60_code
def yX7_begins : MethodName := ⟨RX7, "begins", "(I)V"⟩
abbrev cX7_tell : ByteArray := prog_9_method_61_code
def yX7_tell : MethodName := ⟨RX7, "tell", "(I)I"⟩
abbrev cX7_let : ByteArray := prog_9_method_62_code
def yX7_let : MethodName := ⟨RX7, "let", "(I)I"⟩
abbrev cX7_as : ByteArray := prog_9_method_63_code
def yX7_as : MethodName := ⟨RX7, "as", "(II)I"⟩
abbrev cX7_trace : ByteArray := prog_9_method_64_code
def yX7_trace : MethodName := ⟨RX7, "trace", "()I"⟩
abbrev cX7_fault : ByteArray := prog_9_method_65_code
def yX7_fault : MethodName := ⟨RX7, "fault", "()I"⟩
abbrev cX7_many : ByteArray := prog_9_method_66_code
def yX7_many : MethodName := ⟨RX7, "many", "(I)I"⟩
def RJ9 : String := "java/lang/Math"
abbrev cJ9_max_7cf53 : ByteArray := prog_10_method_65_code
def yJ9_max_7cf53 : MethodName := ⟨RJ9, "max", "(II)I"⟩
abbrev cJ9_min_7cf53 : ByteArray := prog_10_method_69_code
def yJ9_min_7cf53 : MethodName := ⟨RJ9, "min", "(II)I"⟩
def RJ10 : String := "java/lang/System"
def RJ7 : String := "java/util/Arrays"
abbrev cJ7_fill_53178 : ByteArray := prog_12_method_103_code
def yJ7_fill_53178 : MethodName := ⟨RJ7, "fill", "([II)V"⟩
def RL : String := "HeronFordLaw"
abbrev cL_law : ByteArray := code
def yL_law : MethodName := ⟨RL, "law", "([I)Z"⟩
abbrev vwCl : List vw_C := [(RX0, TX0, 14), (RX1, TX1, 5), (RX2, TX2, 3), (RX3, TX3, 5), (RX4, TX4, 4), (RX5, TX5, 4), (RX6, TX6, 7), (RX7, TX7, 35)]
end
section
/-! ===== the memory of both systems as numbers: a cell is (tag, index); its ints by places; its references never change ===== -/
abbrev AR : Type := Nat × Nat
abbrev AV : Type := Int32 ⊕ (Int64 ⊕ AR)
abbrev Mem : Type := Nat → Nat → Nat → Int32
abbrev ALs : Type := List (Option AV)
abbrev ASt : Type := List AV
def mset (m : Mem) (t i j : Nat) (v : Int32) : Mem := fun t' i' j' => if t' = t ∧ i' = i ∧ j' = j then v else m t' i' j'
def cv (A : AR → Nat) : AV → Value
  | .inl x => .int x
  | .inr (.inl x) => .long x
  | .inr (.inr r) => .ref (A r)
/-- the objects: class by its number in vwCl, how many fields -/
def sh_cls : Nat → Option (Nat × Nat)
  | 0 => some (6, 7)
  | 2 => some (4, 4)
  | 4 => some (5, 4)
  | 6 => some (1, 5)
  | 7 => some (0, 14)
  | 17 => some (3, 5)
  | 20 => some (2, 3)
  | 30 => some (7, 35)
  | _ => none
/-- the arrays: kind (0 ints, 1 Sheets, 2 Fish, 3 rows of ints), how long -/
def sh_arr : Nat → Option (Nat × Nat)
  | 1 => some (1, 4)
  | 3 => some (0, 60)
  | 5 => some (2, 5)
  | 8 => some (0, 5)
  | 9 => some (0, 5)
  | 10 => some (0, 5)
  | 11 => some (0, 5)
  | 12 => some (0, 5)
  | 13 => some (3, 5)
  | 14 => some (0, 5)
  | 15 => some (0, 32)
  | 16 => some (0, 32)
  | 18 => some (0, 5)
  | 19 => some (0, 5)
  | 21 => some (0, 8)
  | 22 => some (0, 8)
  | 31 => some (0, 4)
  | 32 => some (0, 4)
  | 33 => some (0, 240)
  | 34 => some (0, 5)
  | 35 => some (0, 5)
  | 36 => some (0, 5)
  | 37 => some (0, 5)
  | 38 => some (0, 5)
  | 39 => some (0, 25)
  | 40 => some (0, 5)
  | 41 => some (0, 25)
  | 42 => some (0, 20)
  | 43 => some (0, 20)
  | 44 => some (0, 5)
  | 45 => some (0, 5)
  | 46 => some (0, 32)
  | 47 => some (0, 8)
  | 48 => some (0, 8)
  | _ => none
/-- the references: a field's, or a place's -/
def sh_ref : Nat → Nat → Nat → Option AR
  | 0, _, k => match k with
    | 0 => some (1, 0)
    | 1 => some (4, 0)
    | 2 => some (7, 0)
    | 3 => some (17, 0)
    | 4 => some (20, 0)
    | _ => none
  | 1, _, k => some (2, k)
  | 2, i, k => match k with
    | 0 => some (3, i)
    | _ => none
  | 4, _, k => match k with
    | 0 => some (5, 0)
    | _ => none
  | 5, _, k => some (6, k)
  | 7, i, k => match k with
    | 0 => some (8, i)
    | 1 => some (9, i)
    | 2 => some (10, i)
    | 3 => some (11, i)
    | 4 => some (12, i)
    | 5 => some (13, i)
    | 6 => some (15, i)
    | 7 => some (16, i)
    | _ => none
  | 13, i, k => some (14, 5 * i + k)
  | 17, _, k => match k with
    | 0 => some (7, 1)
    | 1 => some (18, 0)
    | 2 => some (19, 0)
    | _ => none
  | 20, _, k => match k with
    | 0 => some (21, 0)
    | 1 => some (22, 0)
    | _ => none
  | 30, _, k => match k with
    | 2 => some (31, 0)
    | 3 => some (32, 0)
    | 4 => some (33, 0)
    | 9 => some (34, 0)
    | 10 => some (35, 0)
    | 11 => some (36, 0)
    | 12 => some (37, 0)
    | 13 => some (38, 0)
    | 17 => some (39, 0)
    | 18 => some (40, 0)
    | 19 => some (41, 0)
    | 25 => some (42, 0)
    | 26 => some (43, 0)
    | 27 => some (44, 0)
    | 30 => some (45, 0)
    | 31 => some (46, 0)
    | 33 => some (47, 0)
    | 34 => some (48, 0)
    | _ => none
  | _, _, _ => none
def vrefs : List AR := [(0,0),(1,0),(2,0),(3,0),(2,1),(3,1),(2,2),(3,2),(2,3),(3,3),(4,0),(5,0),(6,0),(6,1),(6,2),(6,3),(6,4),
  (7,0),(8,0),(9,0),(10,0),(11,0),(12,0),(13,0),(14,0),(14,1),(14,2),(14,3),(14,4),(15,0),(16,0),
  (17,0),(7,1),(8,1),(9,1),(10,1),(11,1),(12,1),(13,1),(14,5),(14,6),(14,7),(14,8),(14,9),(15,1),(16,1),(18,0),(19,0),(20,0),(21,0),(22,0),
  (30,0),(31,0),(32,0),(33,0),(34,0),(35,0),(36,0),(37,0),(38,0),(39,0),(40,0),(41,0),(42,0),(43,0),(44,0),(45,0),(46,0),(47,0),(48,0)]
theorem vrefs_nodup : vrefs.Nodup := by decide +kernel
/-- 0 an int that may be written, 1 a boolean, 2 a reference -/
def fkd (ci k : Nat) : Nat := match vwCl[ci]? with
  | some q => if (q.2.1 k).2.2.2 = false then (if (q.2.1 k).2.2.1 = "I" then 0 else if (q.2.1 k).2.2.1 = "Z" then 1 else 2) else 2
  | none => 2
def lenOf (t : Nat) : Nat := match sh_cls t with
  | some q => q.2
  | none => match sh_arr t with
    | some q => q.2
    | none => 0
theorem sh_closed0 : (vrefs.all fun r => (List.range (lenOf r.1)).all fun k => match sh_ref r.1 r.2 k with
  | some q => decide (q ∈ vrefs)
  | none => true) = true := by decide +kernel
theorem sh_closed {r : AR} (hr : r ∈ vrefs) {k : Nat} (hk : k < lenOf r.1) {q : AR} (hq : sh_ref r.1 r.2 k = some q) : q ∈ vrefs := by
  have h1 := List.all_eq_true.mp (List.all_eq_true.mp sh_closed0 r hr) k (List.mem_range.mpr hk)
  rw [hq] at h1
  exact of_decide_eq_true h1
/-- the classes of the objects fit their tables -/
theorem sh_ok0 : (vrefs.all fun r => match sh_cls r.1 with
  | some q => (match vwCl[q.1]? with
    | some z => decide (z.2.2 = q.2)
    | none => false)
  | none => (match sh_arr r.1 with
    | some q => decide (q.1 < 4)
    | none => false)) = true := by decide +kernel
theorem sh_ok {r : AR} (hr : r ∈ vrefs) {ci n : Nat} (h : sh_cls r.1 = some (ci, n)) : ∃ z, vwCl[ci]? = some z ∧ z.2.2 = n := by
  have h1 := List.all_eq_true.mp sh_ok0 r hr
  rw [h] at h1
  dsimp only at h1
  cases hz : vwCl[ci]? with
  | none => rw [hz] at h1; cases h1
  | some z => rw [hz] at h1; exact ⟨z, rfl, of_decide_eq_true h1⟩
def cellOf (A : AR → Nat) (cs : Nat → ClassId) (m : Mem) (r : AR) : va_E := match sh_cls r.1 with
  | some q => .inr (q.1, (List.range q.2).map (fun k => match sh_ref r.1 r.2 k with
    | some z => Value.ref (A z)
    | none => Value.int (m r.1 r.2 k)))
  | none => match sh_arr r.1 with
    | some q => if q.1 = 0 then .inl (cs 0, q.2, .inl (fun j => m r.1 r.2 j)) else .inl (cs q.1, q.2, .inr (.inr (.inr (.inr (fun j => if j < q.2 then (sh_ref r.1 r.2 j).map A else none)))))
    | none => .inl (cs 0, 0, .inl (fun _ => 0))
def wsM (A : AR → Nat) (cs : Nat → ClassId) (m : Mem) : va_W := vrefs.map (fun r => (A r, cellOf A cs m r))
def tysM (cs : Nat → ClassId) : List (ClassId × FieldType) := [(cs 0, .int), (cs 1, .object RX4), (cs 2, .object RX1), (cs 3, .array .int)]
def elT : Nat → FieldType
  | 0 => .int
  | 1 => .object RX4
  | 2 => .object RX1
  | _ => .array .int
theorem tysM_at {cs : Nat → ClassId} {k : Nat} (h : k < 4) : (tysM cs)[k]? = some (cs k, elT k) := by
  match k, h with
  | 0, _ => rfl
  | 1, _ => rfl
  | 2, _ => rfl
  | 3, _ => rfl
def injA (A : AR → Nat) : Prop := ∀ r ∈ vrefs, ∀ q ∈ vrefs, A r = A q → r = q
def frA (A : AR → Nat) : Nat → Prop := fun q => ∃ r ∈ vrefs, A r = q
theorem wsM_at {A : AR → Nat} {cs : Nat → ClassId} {m : Mem} {r : AR} (hr : r ∈ vrefs) : ∃ k : Nat, vrefs[k]? = some r ∧ (wsM A cs m)[k]? = some (A r, cellOf A cs m r) := by
  obtain ⟨k, hk⟩ := List.getElem?_of_mem hr
  exact ⟨k, hk, by simp [wsM, hk]⟩
theorem vrefs_inj {i j : Nat} {r : AR} (hi : vrefs[i]? = some r) (hj : vrefs[j]? = some r) : i = j := by
  have h1 := (List.getElem?_eq_some_iff.mp hi).1
  have h2 := (List.getElem?_eq_some_iff.mp hj).1
  have e := (List.getElem?_eq_some_iff.mp hi).2.trans (List.getElem?_eq_some_iff.mp hj).2.symm
  have hp := List.pairwise_iff_getElem.mp vrefs_nodup
  rcases Nat.lt_trichotomy i j with h | h | h
  · exact absurd e (hp i j h1 h2 h)
  · exact h
  · exact absurd e.symm (hp j i h2 h1 h)
theorem wsM_D {A : AR → Nat} {cs : Nat → ClassId} (hA : injA A) (m : Mem) : va_D (frA A) (wsM A cs m) := by
  refine ⟨fun i j x y hi hj hxy => ?_, fun k x hk => ?_⟩
  · simp only [wsM, List.getElem?_map, Option.map_eq_some_iff] at hi hj
    obtain ⟨r, hr, rfl⟩ := hi
    obtain ⟨q, hq, rfl⟩ := hj
    have := hA r (List.mem_of_getElem? hr) q (List.mem_of_getElem? hq) hxy
    subst this
    exact vrefs_inj hr hq
  · simp only [wsM, List.getElem?_map, Option.map_eq_some_iff] at hk
    obtain ⟨r, hr, rfl⟩ := hk
    exact ⟨r, List.mem_of_getElem? hr, rfl⟩
theorem cellOf_ne {A : AR → Nat} {cs : Nat → ClassId} {m : Mem} {t i j : Nat} {v : Int32} {r : AR} (h : r ≠ (t, i)) : cellOf A cs (mset m t i j v) r = cellOf A cs m r := by
  have e : ∀ k, mset m t i j v r.1 r.2 k = m r.1 r.2 k := fun k => by
    unfold mset
    rw [if_neg]
    rintro ⟨h1, h2, -⟩
    exact h (Prod.ext h1 h2)
  unfold cellOf
  simp only [e]
theorem cellOf_obj {A : AR → Nat} {cs : Nat → ClassId} {m : Mem} {t i k ci n : Nat} (hc : sh_cls t = some (ci, n)) : cellOf A cs m (t, i) = .inr (ci, (List.range n).map (fun k => match sh_ref t i k with
    | some z => Value.ref (A z)
    | none => Value.int (m t i k))) := by
  unfold cellOf
  rw [hc]
theorem cellOf_set {A : AR → Nat} {cs : Nat → ClassId} {m : Mem} {t i k ci n : Nat} {v : Int32} (hc : sh_cls t = some (ci, n)) (hr : sh_ref t i k = none) :
    cellOf A cs (mset m t i k v) (t, i) = .inr (ci, ((List.range n).map (fun k => match sh_ref t i k with
    | some z => Value.ref (A z)
    | none => Value.int (m t i k))).set k (.int v)) := by
  rw [cellOf_obj (k := k) hc]
  congr 2
  apply List.ext_getElem?
  intro j
  rw [List.getElem?_set]
  by_cases hj : k = j
  · subst hj
    rw [if_pos rfl, List.length_map, List.length_range, List.getElem?_map]
    by_cases hn : k < n
    · rw [if_pos hn, List.getElem?_range hn]
      simp [hr, mset]
    · rw [if_neg hn, List.getElem?_eq_none (by simpa using hn)]
      rfl
  · rw [if_neg hj, List.getElem?_map, List.getElem?_map]
    by_cases hn : j < n
    · rw [List.getElem?_range hn]
      have e : mset m t i k v t i j = m t i j := by
        unfold mset
        rw [if_neg]
        rintro ⟨-, -, h⟩
        exact hj h.symm
      simp only [Option.map_some, e]
    · rw [List.getElem?_eq_none (by simpa using hn)]
      rfl

theorem cellOf_arr {A : AR → Nat} {cs : Nat → ClassId} {m : Mem} {t i n : Nat} (hc : sh_cls t = none) (ha : sh_arr t = some (0, n)) : cellOf A cs m (t, i) = .inl (cs 0, n, .inl (fun j => m t i j)) := by
  unfold cellOf
  rw [hc]
  dsimp only
  rw [ha]
  rfl
theorem cellOf_arq {A : AR → Nat} {cs : Nat → ClassId} {m : Mem} {t i n kd : Nat} (hc : sh_cls t = none) (ha : sh_arr t = some (kd + 1, n)) : cellOf A cs m (t, i) = .inl (cs (kd + 1), n, .inr (.inr (.inr (.inr (fun j => if j < n then (sh_ref t i j).map A else none))))) := by
  unfold cellOf
  rw [hc]
  dsimp only
  rw [ha]
  rfl
theorem mset_row {m : Mem} {t i k : Nat} {v : Int32} : (fun j => mset m t i k v t i j) = upd (fun j => m t i j) k v := by
  funext j
  unfold mset upd
  by_cases h : j = k
  · rw [if_pos ⟨rfl, rfl, h⟩, if_pos h]
  · rw [if_neg (fun q => h q.2.2), if_neg h]
theorem wsM_set {A : AR → Nat} {cs : Nat → ClassId} {m : Mem} {t i j k : Nat} {v : Int32} (hk : vrefs[k]? = some (t, i)) : (wsM A cs m).set k (A (t, i), cellOf A cs (mset m t i j v) (t, i)) = wsM A cs (mset m t i j v) := by
  apply List.ext_getElem?
  intro q
  rw [List.getElem?_set]
  have hlen : (wsM A cs m).length = vrefs.length := by simp [wsM]
  have hkl := (List.getElem?_eq_some_iff.mp hk).1
  by_cases hq : k = q
  · subst hq
    rw [if_pos rfl, if_pos (by rw [hlen]; exact hkl)]
    simp [wsM, hk]
  · rw [if_neg hq]
    simp only [wsM, List.getElem?_map]
    cases hr : vrefs[q]? with
    | none => rfl
    | some r =>
      have hne : r ≠ (t, i) := fun e => hq (vrefs_inj hk (by rw [hr, e]))
      simp only [Option.map_some]
      rw [cellOf_ne hne]
end
section
/-! ===== one instruction at a time, over the memory as numbers ===== -/
abbrev XT : Type := Program × Launch × Env × Room × State × MethodId × Array Value × List Frame × Method × Code × (AR → Nat) × (Nat → ClassId) × (Nat → Nat → Nat) × (Nat → ClassId) × Nat × Nat × Nat
abbrev xp (X : XT) : Program := X.1
abbrev xl (X : XT) : Launch := X.2.1
abbrev xe (X : XT) : Env := X.2.2.1
abbrev xR (X : XT) : Room := X.2.2.2.1
abbrev xs (X : XT) : State := X.2.2.2.2.1
abbrev xm (X : XT) : MethodId := X.2.2.2.2.2.1
abbrev xa (X : XT) : Array Value := X.2.2.2.2.2.2.1
abbrev xb (X : XT) : List Frame := X.2.2.2.2.2.2.2.1
abbrev xM (X : XT) : Method := X.2.2.2.2.2.2.2.2.1
abbrev xc (X : XT) : Code := X.2.2.2.2.2.2.2.2.2.1
abbrev xA (X : XT) : AR → Nat := X.2.2.2.2.2.2.2.2.2.2.1
abbrev xC (X : XT) : Nat → ClassId := X.2.2.2.2.2.2.2.2.2.2.2.1
abbrev xI (X : XT) : Nat → Nat → Nat := X.2.2.2.2.2.2.2.2.2.2.2.2.1
abbrev xk (X : XT) : Nat → ClassId := X.2.2.2.2.2.2.2.2.2.2.2.2.2.1
abbrev xcl (X : XT) : Nat := X.2.2.2.2.2.2.2.2.2.2.2.2.2.2.1
abbrev xsl (X : XT) : Nat := X.2.2.2.2.2.2.2.2.2.2.2.2.2.2.2.1
abbrev xn (X : XT) : Nat := X.2.2.2.2.2.2.2.2.2.2.2.2.2.2.2.2
def wsC : List Cond := lw_tbl.filter goodWord
def nestC : List Cond := lw_tbl.filter (fun w => match w with
  | .methodLinkNest .. => true
  | _ => false)
def okV (v : AV) : Prop := match v with
  | .inr (.inr r) => r ∈ vrefs ∨ r.1 = 60
  | _ => True
theorem ok_cls {r : AR} (h : okV (.inr (.inr r))) {y : Nat × Nat} (hs : sh_cls r.1 = some y) : r ∈ vrefs := by
  rcases h with h | h
  · exact h
  · rw [h] at hs; cases hs
theorem ok_arr {r : AR} (h : okV (.inr (.inr r))) {y : Nat × Nat} (hs : sh_arr r.1 = some y) : r ∈ vrefs := by
  rcases h with h | h
  · exact h
  · rw [h] at hs; cases hs
def okS (st : ASt) : Prop := ∀ v ∈ st, okV v
def okL (ls : ALs) : Prop := ∀ v, some v ∈ ls → okV v
def lhas (A : AR → Nat) (nL : Nat) (lsa : Array Slot) (ls : ALs) : Prop := lsa.size = nL ∧ ls.length = nL ∧ lv_wf lsa ∧ ∀ (k : Nat) (v : AV), ls[k]? = some (some v) → lsa[k]? = some (.val (cv A v))
abbrev xW (X : XT) (Q : State → Prop) (H : Heap) (locs : List Loc) (g : JFrame) : Prop := W (xp X) (xl X) (xe X) (xR X) (xs X) (xm X) (xa X) (xb X) (xM X) (xc X) H locs (xcl X) (xsl X) Q g
/-- the machine, come to pc with these locals, this stack, this memory, ends in Q -/
def GG (X : XT) (Q : State → Prop) (pc : Nat) (ls : ALs) (st : ASt) (m : Mem) : Prop :=
  okS st → okL ls → ∀ (H : Heap) (locs : List Loc) (lsa : Array Slot), va_P (xC X, xI X) vwCl (wsM (xA X) (xk X) m) H → va_S (frA (xA X)) (xs X).heap H locs → lhas (xA X) (xn X) lsa ls →
    xW X Q H locs (F0 (xm X) pc lsa (st.map (cv (xA X))))
abbrev FT : Type := List (Nat × Nat × Nat)
/-- a class's pool: which field is which, its numbers -/
def ftOk (own : String) (ft : FT) : Prop := ∀ q ∈ ft, ∃ z, vwCl[q.2.1]? = some z ∧ q.2.2 < z.2.2 ∧ Cond.fieldLink own q.1 (z.2.1 q.2.2).1 (z.2.1 q.2.2).2.1 (z.2.1 q.2.2).2.2.1 ∈ wsC
def ctOk (own : String) (ct : List (Nat × Int32)) : Prop := ∀ q ∈ ct, Cond.constant own q.1 q.2 ∈ wsC
def clOk (own : String) (cl : List (Nat × Int64)) : Prop := ∀ q ∈ cl, Cond.constantLong own q.1 q.2 ∈ wsC
abbrev PT : Type := String × FT × List (Nat × Int32) × List (Nat × Int64)
def ptOk (P : PT) : Prop := ftOk P.1 P.2.1 ∧ ctOk P.1 P.2.2.1 ∧ clOk P.1 P.2.2.2
/-- what stands in every method: the machine, the code, the words, the classes, the addresses apart -/
def GC (X : XT) (cc : ByteArray) (P : PT) : Prop := (xp X).tables.exec = Jvm.exec ∧ (xc X).code = cc ∧ (xc X).maxLocals = xn X ∧ (xs X).vm.findClass P.1 = some (xm X).cls ∧ (∀ w ∈ wsC, w.before (xa X) (xs X) = true) ∧ (∀ w ∈ nestC, va_Nw w (xs X)) ∧
  va_K (xC X, xI X) vwCl (tysM (xk X)) (xs X) ∧ injA (xA X) ∧ (xM X).locks = false ∧ ptOk P
def ldv (ls : ALs) (k : Nat) : Option AV := match ls[k]? with
  | some (some v) => some v
  | _ => none
def isLg : Option AV → Bool
  | some (.inr (.inl _)) => true
  | _ => false
/-- a long whose second half is stored over is gone -/
def clrL : Option AV → Option AV
  | some (.inr (.inl _)) => none
  | o => o
/-- slot k stored to -/
def stA : ALs → Nat → AV → Option ALs
  | [], _, _ => none
  | _ :: r, 0, v => some (some v :: r)
  | o :: r, k + 1, v => match k with
    | 0 => match r with
      | [] => none
      | _ :: r2 => some (clrL o :: some v :: r2)
    | j + 1 => match stA r (j + 1) v with
      | some l => some (o :: l)
      | none => none
def stI (ls : ALs) (k : Nat) (v : AV) (r : ASt) (m : Mem) : Option (ALs × ASt × Mem) := match stA ls k v with
  | some l => some (l, r, m)
  | none => none
def stL (ls : ALs) (k : Nat) (v : AV) (r : ASt) (m : Mem) : Option (ALs × ASt × Mem) := match stA ls k v, Nat.blt (k + 1) ls.length with
  | some l, true => some (l.set (k + 1) none, r, m)
  | _, _ => none
def ldI (ls : ALs) (k : Nat) (st : ASt) (m : Mem) : Option (ALs × ASt × Mem) := match ldv ls k with
  | some (.inl x) => some (ls, .inl x :: st, m)
  | _ => none
def ldL (ls : ALs) (k : Nat) (st : ASt) (m : Mem) : Option (ALs × ASt × Mem) := match ldv ls k with
  | some (.inr (.inl x)) => some (ls, .inr (.inl x) :: st, m)
  | _ => none
def ldA (ls : ALs) (k : Nat) (st : ASt) (m : Mem) : Option (ALs × ASt × Mem) := match ldv ls k with
  | some (.inr (.inr x)) => some (ls, .inr (.inr x) :: st, m)
  | _ => none
def bin (f : Int32 → Int32 → Int32) (ls : ALs) (st : ASt) (m : Mem) : Option (ALs × ASt × Mem) := match st with
  | .inl y :: .inl x :: r => some (ls, .inl (f x y) :: r, m)
  | _ => none
def una (f : Int32 → Int32) (ls : ALs) (st : ASt) (m : Mem) : Option (ALs × ASt × Mem) := match st with
  | .inl x :: r => some (ls, .inl (f x) :: r, m)
  | _ => none
def getF (ft : FT) (index : Nat) (ls : ALs) (st : ASt) (m : Mem) : Option (ALs × ASt × Mem) := match st with
  | .inr (.inr q) :: r => match ft.lookup index, sh_cls q.1 with
    | some z, some y => match z.1 == y.1 && Nat.blt z.2 y.2 with
      | true => match sh_ref q.1 q.2 z.2 with
        | some a => some (ls, .inr (.inr a) :: r, m)
        | none => some (ls, .inl (m q.1 q.2 z.2) :: r, m)
      | false => none
    | _, _ => none
  | _ => none
def putF (ft : FT) (index : Nat) (ls : ALs) (st : ASt) (m : Mem) : Option (ALs × ASt × Mem) := match st with
  | .inl v :: .inr (.inr q) :: r => match ft.lookup index, sh_cls q.1 with
    | some z, some y => match z.1 == y.1 && Nat.blt z.2 y.2 with
      | true => match sh_ref q.1 q.2 z.2, fkd z.1 z.2 with
        | none, 0 => some (ls, r, mset m q.1 q.2 z.2 v)
        | none, 1 => if v = 0 ∨ v = 1 then some (ls, r, mset m q.1 q.2 z.2 v) else none
        | _, _ => none
      | false => none
    | _, _ => none
  | _ => none
def ilen : Instr → Nat
  | .iload _ => 2
  | .aload _ => 2
  | .lload _ => 2
  | .istore _ => 2
  | .astore _ => 2
  | .lstore _ => 2
  | .bipush _ => 2
  | .ldc _ => 2
  | .sipush _ => 3
  | .iinc _ _ => 3
  | .getfield _ => 3
  | .putfield _ => 3
  | .ldc2_w _ => 3
  | _ => 1
def ex1 (P : PT) (i : Instr) (ls : ALs) (st : ASt) (m : Mem) : Option (ALs × ASt × Mem) := match i with
  | .iconst n => some (ls, .inl (Int32.ofInt n) :: st, m)
  | .bipush n => some (ls, .inl (Int8.ofInt n).toInt32 :: st, m)
  | .sipush n => some (ls, .inl (Int16.ofInt n).toInt32 :: st, m)
  | .lconst n => some (ls, .inr (.inl (Int64.ofNat n.val)) :: st, m)
  | .iload k => ldI ls k st m
  | .iload_n k => ldI ls k.val st m
  | .lload k => ldL ls k st m
  | .lload_n k => ldL ls k.val st m
  | .aload k => ldA ls k st m
  | .aload_n k => ldA ls k.val st m
  | .istore k => match st with
    | .inl x :: r => stI ls k (.inl x) r m
    | _ => none
  | .istore_n k => match st with
    | .inl x :: r => stI ls k.val (.inl x) r m
    | _ => none
  | .astore k => match st with
    | .inr (.inr x) :: r => stI ls k (.inr (.inr x)) r m
    | _ => none
  | .astore_n k => match st with
    | .inr (.inr x) :: r => stI ls k.val (.inr (.inr x)) r m
    | _ => none
  | .lstore k => match st with
    | .inr (.inl x) :: r => stL ls k (.inr (.inl x)) r m
    | _ => none
  | .lstore_n k => match st with
    | .inr (.inl x) :: r => stL ls k.val (.inr (.inl x)) r m
    | _ => none
  | .iinc k n => match ldv ls k with
    | some (.inl x) => stI ls k (.inl (x + Int32.ofInt n)) st m
    | _ => none
  | .iadd => bin (fun x y => x + y) ls st m
  | .isub => bin (fun x y => x - y) ls st m
  | .imul => bin (fun x y => x * y) ls st m
  | .iand => bin (fun x y => x &&& y) ls st m
  | .ior => bin (fun x y => x ||| y) ls st m
  | .ixor => bin (fun x y => x ^^^ y) ls st m
  | .ishl => bin (fun x y => x <<< (y &&& 31)) ls st m
  | .ishr => bin (fun x y => x >>> (y &&& 31)) ls st m
  | .ineg => una (fun x => -x) ls st m
  | .i2b => una (fun x => x.toInt8.toInt32) ls st m
  | .i2s => una (fun x => x.toInt16.toInt32) ls st m
  | .i2l => match st with
    | .inl x :: r => some (ls, .inr (.inl x.toInt64) :: r, m)
    | _ => none
  | .lcmp => match st with
    | .inr (.inl y) :: .inr (.inl x) :: r => some (ls, .inl (lg_cmp x y) :: r, m)
    | _ => none
  | .dup => match st with
    | .inl x :: r => some (ls, .inl x :: .inl x :: r, m)
    | .inr (.inr x) :: r => some (ls, .inr (.inr x) :: .inr (.inr x) :: r, m)
    | _ => none
  | .dup2 => match st with
    | .inl x :: .inl y :: r => some (ls, .inl x :: .inl y :: .inl x :: .inl y :: r, m)
    | .inl x :: .inr (.inr y) :: r => some (ls, .inl x :: .inr (.inr y) :: .inl x :: .inr (.inr y) :: r, m)
    | _ => none
  | .getfield k => getF P.2.1 k ls st m
  | .putfield k => putF P.2.1 k ls st m
  | .ldc k => match P.2.2.1.lookup k with
    | some x => some (ls, .inl x :: st, m)
    | none => none
  | .ldc2_w k => match P.2.2.2.lookup k with
    | some x => some (ls, .inr (.inl x) :: st, m)
    | none => none
  | _ => none
end
section
/-! ===== the locals ===== -/
def lsL (A : AR → Nat) (ls : ALs) : List (Nat × Value) := (List.range ls.length).filterMap fun k => match ls[k]? with
  | some (some v) => some (k, cv A v)
  | _ => none
theorem mem_lsL {A : AR → Nat} {ls : ALs} {q : Nat × Value} : q ∈ lsL A ls ↔ ∃ v, ls[q.1]? = some (some v) ∧ q.2 = cv A v := by
  unfold lsL
  rw [List.mem_filterMap]
  constructor
  · rintro ⟨k, hk, h⟩
    cases hv : ls[k]? with
    | none => rw [hv] at h; cases h
    | some o =>
      cases o with
      | none => rw [hv] at h; cases h
      | some v => rw [hv] at h; cases h; exact ⟨v, hv, rfl⟩
  · rintro ⟨v, h1, h2⟩
    refine ⟨q.1, List.mem_range.mpr (List.getElem?_eq_some_iff.mp h1).1, ?_⟩
    rw [h1]
    exact congrArg some (Prod.ext rfl h2.symm)
theorem lhas_has {A : AR → Nat} {nL : Nat} {lsa : Array Slot} {ls : ALs} (h : lhas A nL lsa ls) : lv_has lsa nL (lsL A ls) := by
  refine ⟨h.1, h.2.2.1, fun q hq => ?_⟩
  obtain ⟨v, h1, h2⟩ := mem_lsL.mp hq
  rw [h.2.2.2 q.1 v h1, h2]
theorem stA_spec : ∀ {ls : ALs} {k : Nat} {v : AV} {l : ALs}, stA ls k v = some l → k < ls.length ∧ l.length = ls.length ∧ ∀ (j : Nat) (w : AV), l[j]? = some (some w) → (j = k ∧ w = v) ∨ (j ≠ k ∧ ls[j]? = some (some w) ∧ (j + 1 = k → isLg (some w) = false))
  | [], _, _, _, h => by cases h
  | o :: r, 0, v, l, h => by
    cases h
    refine ⟨by simp, by simp, fun j w hw => ?_⟩
    cases j with
    | zero => simp only [List.getElem?_cons_zero] at hw; cases hw; exact Or.inl ⟨rfl, rfl⟩
    | succ j => exact Or.inr ⟨by omega, by simpa using hw, fun q => by omega⟩
  | o :: r, 1, v, l, h => by
    cases r with
    | nil => cases h
    | cons a r2 =>
      cases h
      refine ⟨by simp, by simp, fun j w hw => ?_⟩
      match j with
      | 0 =>
        simp only [List.getElem?_cons_zero] at hw
        have hw : clrL o = some w := Option.some.inj hw
        match o, hw with
        | none, hw => cases hw
        | some (.inl x), hw => cases hw; exact Or.inr ⟨by omega, rfl, fun _ => rfl⟩
        | some (.inr (.inl x)), hw => cases hw
        | some (.inr (.inr x)), hw => cases hw; exact Or.inr ⟨by omega, rfl, fun _ => rfl⟩
      | 1 => simp only [List.getElem?_cons_succ, List.getElem?_cons_zero] at hw; cases hw; exact Or.inl ⟨rfl, rfl⟩
      | j + 2 => exact Or.inr ⟨by omega, by simpa using hw, fun q => by omega⟩
  | o :: r, k + 2, v, l, h => by
    have h' : (match stA r (k + 1) v with
      | some l => some (o :: l)
      | none => none) = some l := h
    cases hr : stA r (k + 1) v with
    | none => rw [hr] at h'; cases h'
    | some l2 =>
      rw [hr] at h'
      cases h'
      obtain ⟨h1, h2, h3⟩ := stA_spec hr
      refine ⟨by simp only [List.length_cons]; omega, by simp [h2], fun j w hw => ?_⟩
      cases j with
      | zero => exact Or.inr ⟨by omega, by simpa using hw, fun q => by omega⟩
      | succ j =>
        rcases h3 j w (by simpa using hw) with ⟨g1, g2⟩ | ⟨g1, g2, g3⟩
        · exact Or.inl ⟨by omega, g2⟩
        · exact Or.inr ⟨by omega, by simpa using g2, fun q => g3 (by omega)⟩
theorem cat_of {A : AR → Nat} {w : AV} (h : isLg (some w) = false) : (cv A w).category = 1 := by
  match w, h with
  | .inl _, _ => rfl
  | .inr (.inr _), _ => rfl
theorem lhas_set {A : AR → Nat} {nL : Nat} {lsa : Array Slot} {ls l : ALs} {k : Nat} {v : AV} (hn : ls.length = nL) (hk : stA ls k v = some l)
    (h : lv_has lsa nL ((k, cv A v) :: (lsL A ls).filter (fun q => !(q.1 == k) && !(q.1 + 1 == k && q.2.category == 2)))) : lhas A nL lsa l := by
  obtain ⟨hkl, hlen, hst⟩ := stA_spec hk
  refine ⟨h.1, hlen.trans hn, h.2.1, fun j w hj => ?_⟩
  rcases hst j w hj with ⟨rfl, rfl⟩ | ⟨e, hj, hlg⟩
  · exact h.2.2 (j, cv A w) List.mem_cons_self
  · refine h.2.2 (j, cv A w) (List.mem_cons_of_mem _ (List.mem_filter.mpr ⟨mem_lsL.mpr ⟨w, hj, rfl⟩, ?_⟩))
    have e2 : (j == k) = false := by simpa using e
    by_cases e3 : j + 1 = k
    · have hc := cat_of (A := A) (hlg e3)
      simp [e2, hc]
    · have e4 : (j + 1 == k) = false := by simpa using e3
      simp [e2, e4]
theorem lhas_setL {A : AR → Nat} {nL : Nat} {lsa : Array Slot} {ls l : ALs} {k : Nat} {v : AV} (hn : ls.length = nL) (hk : stA ls k v = some l)
    (h : lv_has lsa nL ((k, cv A v) :: (lsL A ls).filter (fun q => !(q.1 == k) && (!(q.1 == k + 1) && !(q.1 + 1 == k && q.2.category == 2))))) : lhas A nL lsa (l.set (k + 1) none) := by
  obtain ⟨hkl, hlen, hst⟩ := stA_spec hk
  refine ⟨h.1, by simpa using hlen.trans hn, h.2.1, fun j w hj => ?_⟩
  rw [List.getElem?_set] at hj
  by_cases e0 : k + 1 = j
  · rw [if_pos e0] at hj
    split at hj <;> cases hj
  rw [if_neg e0] at hj
  rcases hst j w hj with ⟨rfl, rfl⟩ | ⟨e, hj, hlg⟩
  · exact h.2.2 (j, cv A w) List.mem_cons_self
  · refine h.2.2 (j, cv A w) (List.mem_cons_of_mem _ (List.mem_filter.mpr ⟨mem_lsL.mpr ⟨w, hj, rfl⟩, ?_⟩))
    have e2 : (j == k) = false := by simpa using e
    have e5 : (j == k + 1) = false := by simpa using fun q => e0 q.symm
    by_cases e3 : j + 1 = k
    · have hc := cat_of (A := A) (hlg e3)
      simp [e2, e5, hc]
    · have e4 : (j + 1 == k) = false := by simpa using e3
      simp [e2, e5, e4]
theorem ldv_spec {ls : ALs} {k : Nat} {v : AV} (h : ldv ls k = some v) : ls[k]? = some (some v) := by
  unfold ldv at h
  split at h
  · cases h; assumption
  · cases h
theorem okL_at {ls : ALs} {k : Nat} {v : AV} (h : okL ls) (hk : ls[k]? = some (some v)) : okV v := h v (List.mem_of_getElem? hk)
theorem okL_set {ls l : ALs} {k : Nat} {v : AV} (h : okL ls) (hv : okV v) (hk : stA ls k v = some l) : okL l := by
  intro w hw
  obtain ⟨j, hj⟩ := List.getElem?_of_mem hw
  rcases (stA_spec hk).2.2 j w hj with ⟨-, rfl⟩ | ⟨-, hj, -⟩
  · exact hv
  · exact h w (List.mem_of_getElem? hj)
theorem okL_setN {ls : ALs} {k : Nat} (h : okL ls) : okL (ls.set k none) := by
  intro w hw
  rcases List.mem_or_eq_of_mem_set hw with h1 | h1
  · exact h w h1
  · cases h1
theorem okS_cons {v : AV} {st : ASt} : okS (v :: st) ↔ okV v ∧ okS st := by
  constructor
  · intro h; exact ⟨h v List.mem_cons_self, fun w hw => h w (List.mem_cons_of_mem _ hw)⟩
  · rintro ⟨h1, h2⟩ w hw
    rcases List.mem_cons.mp hw with rfl | hw
    · exact h1
    · exact h2 w hw
theorem cl_cases {P : Nat → vw_C → Prop} (h0 : P 0 (RX0, TX0, 14)) (h1 : P 1 (RX1, TX1, 5)) (h2 : P 2 (RX2, TX2, 3)) (h3 : P 3 (RX3, TX3, 5)) (h4 : P 4 (RX4, TX4, 4)) (h5 : P 5 (RX5, TX5, 4)) (h6 : P 6 (RX6, TX6, 7)) (h7 : P 7 (RX7, TX7, 35)) :
    ∀ (ci : Nat) (z : vw_C), vwCl[ci]? = some z → P ci z := by
  intro ci z h
  match ci, h with
  | 0, h => cases h; exact h0
  | 1, h => cases h; exact h1
  | 2, h => cases h; exact h2
  | 3, h => cases h; exact h3
  | 4, h => cases h; exact h4
  | 5, h => cases h; exact h5
  | 6, h => cases h; exact h6
  | 7, h => cases h; exact h7
  | n + 8, h => simp [vwCl] at h
theorem u_all : ∀ (ci : Nat) (z : vw_C), vwCl[ci]? = some z → ∀ w ∈ u_ws z.1 z.2.1 z.2.2, w ∈ wsC :=
  cl_cases (by decide +kernel) (by decide +kernel) (by decide +kernel) (by decide +kernel) (by decide +kernel) (by decide +kernel) (by decide +kernel) (by decide +kernel)
def tyK (ci : Nat) : Nat → FieldType := match ci with
  | 0 => tyX0
  | 1 => tyX1
  | 2 => tyX2
  | 3 => tyX3
  | 4 => tyX4
  | 5 => tyX5
  | 6 => tyX6
  | _ => tyX7
theorem ty_all : ∀ (ci : Nat) (z : vw_C), vwCl[ci]? = some z → ∀ k, k < z.2.2 → parseFieldDescriptor (z.2.1 k).2.2.1 = some (tyK ci k) :=
  cl_cases tyX0_ok tyX1_ok tyX2_ok tyX3_ok tyX4_ok tyX5_ok tyX6_ok tyX7_ok
theorem nm_all : ∀ (ci : Nat) (z : vw_C), vwCl[ci]? = some z → ∀ a, a < z.2.2 → ∀ b, b < z.2.2 → a ≠ b → (z.2.1 a).2.1 ≠ (z.2.1 b).2.1 :=
  cl_cases nmX0 nmX1 nmX2 nmX3 nmX4 nmX5 nmX6 nmX7
theorem fkd_spec {ci k : Nat} {z : vw_C} (hz : vwCl[ci]? = some z) (h : fkd ci k = 0 ∨ fkd ci k = 1) : (z.2.1 k).2.2.2 = false ∧ (fkd ci k = 0 → parseFieldDescriptor (z.2.1 k).2.2.1 = some .int) ∧ (fkd ci k = 1 → parseFieldDescriptor (z.2.1 k).2.2.1 = some .boolean) := by
  unfold fkd at h ⊢
  rw [hz] at h ⊢
  dsimp only at h ⊢
  by_cases h1 : (z.2.1 k).2.2.2 = false
  · rw [if_pos h1] at h ⊢
    by_cases h2 : (z.2.1 k).2.2.1 = "I"
    · rw [if_pos h2] at h ⊢
      refine ⟨h1, fun _ => ?_, (fun q => absurd q (by decide))⟩
      rw [h2]
      decide +kernel
    · rw [if_neg h2] at h ⊢
      by_cases h3 : (z.2.1 k).2.2.1 = "Z"
      · rw [if_pos h3] at h ⊢
        refine ⟨h1, (fun q => absurd q (by decide)), fun _ => ?_⟩
        rw [h3]
        decide +kernel
      · rw [if_neg h3] at h
        omega
  · rw [if_neg h1] at h
    omega
/-! ===== a step ===== -/
theorem gg_get {X : XT} {cc : ByteArray} {P : PT} {Q : State → Prop} (hC : GC X cc P) {pc k : Nat} {ls ls' : ALs} {st st' : ASt} {m m' : Mem} (hd : decode cc pc = .ok (.getfield k, 3)) (hx : getF P.2.1 k ls st m = some (ls', st', m')) (kk : GG X Q (pc + 3) ls' st' m') : GG X Q pc ls st m := by
  obtain ⟨hexec, hb, hml, hown, hts, -, hK, hA, -, hpt, -, -⟩ := hC
  intro hS hL H locs lsa hP hSt hl
  unfold getF at hx
  split at hx
  case h_2 => cases hx
  rename_i q r
  split at hx
  case h_2 => cases hx
  rename_i z y hz hy
  split at hx
  case h_2 => cases hx
  rename_i hb2
  simp only [Bool.and_eq_true, beq_iff_eq] at hb2
  obtain ⟨e1, e2⟩ := hb2
  have e2 : z.2 < y.2 := Nat.blt_eq.mp e2
  obtain ⟨t, i⟩ := q
  have hq : (t, i) ∈ vrefs := ok_cls (hS _ List.mem_cons_self) hy
  obtain ⟨ci, n⟩ := y
  obtain ⟨index, ci', k'⟩ : Nat × Nat × Nat := (k, z)
  obtain ⟨cz, hcz, hlt, hlink⟩ := hpt (k, z) (by
    have := List.lookup_eq_some_iff.mp hz
    obtain ⟨l1, l2, h1, -⟩ := this
    rw [h1]; simp)
  obtain ⟨q0, hq0, hw⟩ := wsM_at (A := xA X) (cs := xk X) (m := m) hq
  rw [cellOf_obj (k := z.2) hy] at hw
  dsimp only at e1 e2 hlt hlink hcz
  rw [e1] at hcz
  have hv : ((List.range n).map (fun k => match sh_ref t i k with
    | some z => Value.ref (xA X z)
    | none => Value.int (m t i k)))[z.2]? = some (match sh_ref t i z.2 with
    | some z => Value.ref (xA X z)
    | none => Value.int (m t i z.2)) := by
    rw [List.getElem?_map, List.getElem?_range e2]; rfl
  refine va_get (D := (xC X, xI X)) (ci := ci) (C := cz.1) (T := cz.2.1) (N := cz.2.2) hexec hb hts (u_all ci cz hcz) hown hK hP q0 hw hcz z.2 hlt (hts _ hlink) (fun _ h9 => h9) hv hd ?_
  have hS' : okS r := (okS_cons.mp hS).2
  cases hr : sh_ref t i z.2 with
  | none =>
    rw [hr] at hx
    cases hx
    exact kk (okS_cons.mpr ⟨trivial, hS'⟩) hL H locs lsa hP hSt hl
  | some a =>
    rw [hr] at hx
    cases hx
    refine kk (okS_cons.mpr ⟨Or.inl (sh_closed hq (k := z.2) ?_ hr), hS'⟩) hL H locs lsa hP hSt hl
    show z.2 < lenOf t
    unfold lenOf
    rw [hy]
    exact e2
theorem gg_put {X : XT} {cc : ByteArray} {P : PT} {Q : State → Prop} (hC : GC X cc P) {pc k : Nat} {ls ls' : ALs} {st st' : ASt} {m m' : Mem} (hd : decode cc pc = .ok (.putfield k, 3)) (hx : putF P.2.1 k ls st m = some (ls', st', m')) (kk : GG X Q (pc + 3) ls' st' m') : GG X Q pc ls st m := by
  obtain ⟨hexec, hb, hml, hown, hts, -, hK, hA, -, hpt, -, -⟩ := hC
  intro hS hL H locs lsa hP hSt hl
  unfold putF at hx
  split at hx
  case h_2 => cases hx
  rename_i v q r
  split at hx
  case h_2 => cases hx
  rename_i z y hz hy
  split at hx
  case h_2 => cases hx
  rename_i hb2
  simp only [Bool.and_eq_true, beq_iff_eq] at hb2
  obtain ⟨e1, e2⟩ := hb2
  have e2 : z.2 < y.2 := Nat.blt_eq.mp e2
  obtain ⟨t, i⟩ := q
  have hS1 := (okS_cons.mp hS).2
  have hq : (t, i) ∈ vrefs := ok_cls (hS1 _ List.mem_cons_self) hy
  have hS' : okS r := (okS_cons.mp hS1).2
  obtain ⟨ci, n⟩ := y
  obtain ⟨cz, hcz, hlt, hlink⟩ := hpt (k, z) (by
    have := List.lookup_eq_some_iff.mp hz
    obtain ⟨l1, l2, h1, -⟩ := this
    rw [h1]; simp)
  obtain ⟨q0, hq0, hw⟩ := wsM_at (A := xA X) (cs := xk X) (m := m) hq
  rw [cellOf_obj (k := z.2) hy] at hw
  dsimp only at e1 e2 hlt hlink hcz
  rw [e1] at hcz
  have key : ∀ ty : FieldType, sh_ref t i z.2 = none → (cz.2.1 z.2).2.2.2 = false → parseFieldDescriptor (cz.2.1 z.2).2.2.1 = some ty → narrow ty (.int v) = .int v → fits ty (.int v) = true → GG X Q (pc + 3) ls r (mset m t i z.2 v) → xW X Q H locs (F0 (xm X) pc lsa (List.map (cv (xA X)) (Sum.inl v :: Sum.inr (Sum.inr (t, i)) :: r))) := by
    intro ty hr hfin hd2 hn hf kk
    refine va_put (D := (xC X, xI X)) (ci := ci) (v := .int v) (ty := ty) (C := cz.1) (T := cz.2.1) (N := cz.2.2) hexec hb hts (u_all ci cz hcz) (tyK ci) (ty_all ci cz hcz) (nm_all ci cz hcz) hown hK hP (wsM_D hA m) hSt q0 hw hcz z.2 hlt (hts _ hlink) (fun _ h9 => h9) hfin hd2 hn hf (by simpa using e2) hd (fun H1 locs1 hP1 _ hS1 => ?_)
    rw [← cellOf_set (cs := xk X) hy hr, wsM_set hq0] at hP1
    exact kk hS' hL H1 locs1 lsa hP1 hS1 hl
  split at hx
  case h_3 => cases hx
  case h_1 h5 h6 =>
    cases hx
    obtain ⟨f1, f2, f3⟩ := fkd_spec hcz (k := z.2) (Or.inl (by rw [← e1]; exact h6))
    exact key .int h5 f1 (f2 (by rw [← e1]; exact h6)) rfl rfl kk
  case h_2 h5 h6 =>
    split at hx
    case isFalse => cases hx
    case isTrue hv =>
      cases hx
      obtain ⟨f1, f2, f3⟩ := fkd_spec hcz (k := z.2) (Or.inr (by rw [← e1]; exact h6))
      refine key .boolean h5 f1 (f3 (by rw [← e1]; exact h6)) ?_ ?_ kk
      · rcases hv with rfl | rfl <;> rfl
      · rcases hv with rfl | rfl <;> rfl
theorem gg_bin {X : XT} {Q : State → Prop} {f : Int32 → Int32 → Int32} {pc : Nat} {ls ls' : ALs} {st st' : ASt} {m m' : Mem} (row : ∀ (x y : Int32) (H : Heap) (locs : List Loc) (lsa : Array Slot) (rest : List Value), xW X Q H locs (F0 (xm X) (pc + 1) lsa (.int (f x y) :: rest)) → xW X Q H locs (F0 (xm X) pc lsa (.int y :: .int x :: rest)))
    (hx : bin f ls st m = some (ls', st', m')) (kk : GG X Q (pc + 1) ls' st' m') : GG X Q pc ls st m := by
  intro hS hL H locs lsa hP hSt hl
  unfold bin at hx
  split at hx
  case h_2 => cases hx
  cases hx
  exact row _ _ _ _ _ _ (kk (okS_cons.mpr ⟨trivial, (okS_cons.mp (okS_cons.mp hS).2).2⟩) hL H locs lsa hP hSt hl)
theorem gg_una {X : XT} {Q : State → Prop} {f : Int32 → Int32} {pc : Nat} {ls ls' : ALs} {st st' : ASt} {m m' : Mem} (row : ∀ (x : Int32) (H : Heap) (locs : List Loc) (lsa : Array Slot) (rest : List Value), xW X Q H locs (F0 (xm X) (pc + 1) lsa (.int (f x) :: rest)) → xW X Q H locs (F0 (xm X) pc lsa (.int x :: rest)))
    (hx : una f ls st m = some (ls', st', m')) (kk : GG X Q (pc + 1) ls' st' m') : GG X Q pc ls st m := by
  intro hS hL H locs lsa hP hSt hl
  unfold una at hx
  split at hx
  case h_2 => cases hx
  cases hx
  exact row _ _ _ _ _ (kk (okS_cons.mpr ⟨trivial, (okS_cons.mp hS).2⟩) hL H locs lsa hP hSt hl)
/-- a constant comes upon the stack -/
theorem gg_push {X : XT} {Q : State → Prop} {pc n : Nat} {v : AV} {ls : ALs} {st : ASt} {m : Mem} (row : ∀ (H : Heap) (locs : List Loc) (lsa : Array Slot) (rest : List Value), xW X Q H locs (F0 (xm X) (pc + n) lsa (cv (xA X) v :: rest)) → xW X Q H locs (F0 (xm X) pc lsa rest)) (hv : okV v)
    (kk : GG X Q (pc + n) ls (v :: st) m) : GG X Q pc ls st m := by
  intro hS hL H locs lsa hP hSt hl
  exact row _ _ _ _ (kk (okS_cons.mpr ⟨hv, hS⟩) hL H locs lsa hP hSt hl)
/-- a local comes upon the stack -/
theorem gg_load {X : XT} {Q : State → Prop} {pc n k : Nat} {v : AV} {ls : ALs} {st : ASt} {m : Mem} (hv : ldv ls k = some v) (row : ∀ (H : Heap) (locs : List Loc) (lsa : Array Slot) (rest : List Value), lsa[k]? = some (.val (cv (xA X) v)) → xW X Q H locs (F0 (xm X) (pc + n) lsa (cv (xA X) v :: rest)) → xW X Q H locs (F0 (xm X) pc lsa rest))
    (kk : GG X Q (pc + n) ls (v :: st) m) : GG X Q pc ls st m := by
  intro hS hL H locs lsa hP hSt hl
  have h1 := ldv_spec hv
  exact row _ _ _ _ (hl.2.2.2 k v h1) (kk (okS_cons.mpr ⟨okL_at hL h1, hS⟩) hL H locs lsa hP hSt hl)
theorem gg_ldI {X : XT} {Q : State → Prop} {pc n k : Nat} {ls ls' : ALs} {st st' : ASt} {m m' : Mem} (row : ∀ (x : Int32) (H : Heap) (locs : List Loc) (lsa : Array Slot) (rest : List Value), lsa[k]? = some (.val (.int x)) → xW X Q H locs (F0 (xm X) (pc + n) lsa (.int x :: rest)) → xW X Q H locs (F0 (xm X) pc lsa rest))
    (hx : ldI ls k st m = some (ls', st', m')) (kk : GG X Q (pc + n) ls' st' m') : GG X Q pc ls st m := by
  unfold ldI at hx
  split at hx
  case h_2 => cases hx
  rename_i x hv
  cases hx
  exact gg_load hv (row x) kk
theorem gg_ldL {X : XT} {Q : State → Prop} {pc n k : Nat} {ls ls' : ALs} {st st' : ASt} {m m' : Mem} (row : ∀ (x : Int64) (H : Heap) (locs : List Loc) (lsa : Array Slot) (rest : List Value), lsa[k]? = some (.val (.long x)) → xW X Q H locs (F0 (xm X) (pc + n) lsa (.long x :: rest)) → xW X Q H locs (F0 (xm X) pc lsa rest))
    (hx : ldL ls k st m = some (ls', st', m')) (kk : GG X Q (pc + n) ls' st' m') : GG X Q pc ls st m := by
  unfold ldL at hx
  split at hx
  case h_2 => cases hx
  rename_i x hv
  cases hx
  exact gg_load hv (row x) kk
theorem gg_ldA {X : XT} {Q : State → Prop} {pc n k : Nat} {ls ls' : ALs} {st st' : ASt} {m m' : Mem} (row : ∀ (x : Nat) (H : Heap) (locs : List Loc) (lsa : Array Slot) (rest : List Value), lsa[k]? = some (.val (.ref x)) → xW X Q H locs (F0 (xm X) (pc + n) lsa (.ref x :: rest)) → xW X Q H locs (F0 (xm X) pc lsa rest))
    (hx : ldA ls k st m = some (ls', st', m')) (kk : GG X Q (pc + n) ls' st' m') : GG X Q pc ls st m := by
  unfold ldA at hx
  split at hx
  case h_2 => cases hx
  rename_i x hv
  cases hx
  exact gg_load hv (row (xA X x)) kk
theorem gg_stI {X : XT} {Q : State → Prop} {pc n k : Nat} {v : AV} {pre : List Value} {ls ls' : ALs} {r st' : ASt} {m m' : Mem} (row : ∀ (H : Heap) (locs : List Loc) (lsa : Array Slot) (lv : List (Nat × Value)), lv_has lsa (xn X) lv → k < xn X → (∀ j, ldv ls k = some j → lsa[k]? = some (.val (cv (xA X) j)) ∧ (k, cv (xA X) j) ∈ lv) →
      (∀ ls' : Array Slot, lv_has ls' (xn X) ((k, cv (xA X) v) :: lv.filter (fun q => !(q.1 == k) && !(q.1 + 1 == k && q.2.category == 2))) → xW X Q H locs (F0 (xm X) (pc + n) ls' (r.map (cv (xA X))))) → xW X Q H locs (F0 (xm X) pc lsa (pre ++ r.map (cv (xA X)))))
    (hx : stI ls k v r m = some (ls', st', m')) (kk : GG X Q (pc + n) ls' st' m') (hv : okL ls → okV v) : okS r → okL ls → ∀ (H : Heap) (locs : List Loc) (lsa : Array Slot), va_P (xC X, xI X) vwCl (wsM (xA X) (xk X) m) H → va_S (frA (xA X)) (xs X).heap H locs → lhas (xA X) (xn X) lsa ls →
    xW X Q H locs (F0 (xm X) pc lsa (pre ++ r.map (cv (xA X)))) := by
  intro hS hL H locs lsa hP hSt hl
  unfold stI at hx
  split at hx
  case h_2 => cases hx
  rename_i l hm
  cases hx
  have hk := (stA_spec hm).1
  refine row H locs lsa _ (lhas_has hl) (by rw [← hl.2.1]; exact hk) (fun j hj => ?_) (fun lsa' h' => kk hS (okL_set hL (hv hL) hm) H locs lsa' hP hSt (lhas_set hl.2.1 hm h'))
  exact ⟨hl.2.2.2 k j (ldv_spec hj), mem_lsL.mpr ⟨j, ldv_spec hj, rfl⟩⟩
theorem gg_stL {X : XT} {Q : State → Prop} {pc n k : Nat} {v : AV} {pre : List Value} {ls ls' : ALs} {r st' : ASt} {m m' : Mem} (row : ∀ (H : Heap) (locs : List Loc) (lsa : Array Slot) (lv : List (Nat × Value)), lv_has lsa (xn X) lv → k + 1 < xn X →
      (∀ ls' : Array Slot, lv_has ls' (xn X) ((k, cv (xA X) v) :: lv.filter (fun q => !(q.1 == k) && (!(q.1 == k + 1) && !(q.1 + 1 == k && q.2.category == 2)))) → xW X Q H locs (F0 (xm X) (pc + n) ls' (r.map (cv (xA X))))) → xW X Q H locs (F0 (xm X) pc lsa (pre ++ r.map (cv (xA X)))))
    (hx : stL ls k v r m = some (ls', st', m')) (kk : GG X Q (pc + n) ls' st' m') (hv : okV v) : okS r → okL ls → ∀ (H : Heap) (locs : List Loc) (lsa : Array Slot), va_P (xC X, xI X) vwCl (wsM (xA X) (xk X) m) H → va_S (frA (xA X)) (xs X).heap H locs → lhas (xA X) (xn X) lsa ls →
    xW X Q H locs (F0 (xm X) pc lsa (pre ++ r.map (cv (xA X)))) := by
  intro hS hL H locs lsa hP hSt hl
  unfold stL at hx
  split at hx
  case h_2 => cases hx
  rename_i l hm hb
  have hb : k + 1 < ls.length := Nat.blt_eq.mp hb
  cases hx
  exact row H locs lsa _ (lhas_has hl) (by rw [← hl.2.1]; exact hb) (fun lsa' h' => kk hS (okL_setN (okL_set hL hv hm)) H locs lsa' hP hSt (lhas_setL hl.2.1 hm h'))
set_option maxHeartbeats 4000000 in
theorem gg_ex1 {X : XT} {cc : ByteArray} {P : PT} {Q : State → Prop} (hC : GC X cc P) {pc : Nat} {i : Instr} {ls ls' : ALs} {st st' : ASt} {m m' : Mem} (hd : decode cc pc = .ok (i, ilen i)) (hx : ex1 P i ls st m = some (ls', st', m')) (kk : GG X Q (pc + ilen i) ls' st' m') : GG X Q pc ls st m := by
  have hexec := hC.1
  have hb := hC.2.1
  have hown := hC.2.2.2.1
  have hts := hC.2.2.2.2.1
  have hpt := hC.2.2.2.2.2.2.2.2.2
  unfold ex1 at hx
  split at hx
  · cases hx; exact gg_push (v := .inl _) (fun H locs lsa rest k => lv_iconst hexec hb hd rfl k) trivial kk
  · cases hx; exact gg_push (v := .inl _) (fun H locs lsa rest k => lv_bipush hexec hb hd rfl k) trivial kk
  · cases hx; exact gg_push (v := .inl _) (fun H locs lsa rest k => lv_sipush hexec hb hd rfl k) trivial kk
  · cases hx; exact gg_push (v := .inr (.inl _)) (fun H locs lsa rest k => lv_lconst hexec hb hd rfl k) trivial kk
  · exact gg_ldI (fun x H locs lsa rest h k => lv_iload hexec hb hd h k) hx kk
  · exact gg_ldI (fun x H locs lsa rest h k => lv_iload_n hexec hb hd rfl h k) hx kk
  · exact gg_ldL (fun x H locs lsa rest h k => lv_lload hexec hb hd h k) hx kk
  · exact gg_ldL (fun x H locs lsa rest h k => lv_lload_n hexec hb hd rfl h k) hx kk
  · exact gg_ldA (fun x H locs lsa rest h k => lv_aload hexec hb hd h k) hx kk
  · exact gg_ldA (fun x H locs lsa rest h k => lv_aload_n hexec hb hd rfl h k) hx kk
  · split at hx
    case h_2 => cases hx
    rename_i x r
    exact fun hS hL => gg_stI (n := 2) (v := .inl x) (pre := [.int x]) (fun H locs lsa lv h hn _ k => lv_istore hexec hb hd h hn rfl k) hx kk (fun _ => trivial) (okS_cons.mp hS).2 hL
  · split at hx
    case h_2 => cases hx
    rename_i x r
    exact fun hS hL => gg_stI (n := 1) (v := .inl x) (pre := [.int x]) (fun H locs lsa lv h hn _ k => lv_istore_n hexec hb hd rfl h hn rfl k) hx kk (fun _ => trivial) (okS_cons.mp hS).2 hL
  · split at hx
    case h_2 => cases hx
    rename_i x r
    exact fun hS hL => gg_stI (n := 2) (v := .inr (.inr x)) (pre := [.ref (xA X x)]) (fun H locs lsa lv h hn _ k => lv_astore hexec hb hd h hn rfl k) hx kk (fun _ => (okS_cons.mp hS).1) (okS_cons.mp hS).2 hL
  · split at hx
    case h_2 => cases hx
    rename_i x r
    exact fun hS hL => gg_stI (n := 1) (v := .inr (.inr x)) (pre := [.ref (xA X x)]) (fun H locs lsa lv h hn _ k => lv_astore_n hexec hb hd rfl h hn rfl k) hx kk (fun _ => (okS_cons.mp hS).1) (okS_cons.mp hS).2 hL
  · split at hx
    case h_2 => cases hx
    rename_i x r
    exact fun hS hL => gg_stL (n := 2) (v := .inr (.inl x)) (pre := [.long x]) (fun H locs lsa lv h hn k => lv_lstore hexec hb hd h hn rfl k) hx kk trivial (okS_cons.mp hS).2 hL
  · split at hx
    case h_2 => cases hx
    rename_i x r
    exact fun hS hL => gg_stL (n := 1) (v := .inr (.inl x)) (pre := [.long x]) (fun H locs lsa lv h hn k => lv_lstore_n hexec hb hd rfl h hn rfl k) hx kk trivial (okS_cons.mp hS).2 hL
  · split at hx
    case h_2 => cases hx
    rename_i x hv
    refine fun hS hL => gg_stI (n := 3) (v := .inl _) (pre := []) (fun H locs lsa lv h hn hj k => ?_) hx kk (fun _ => trivial) hS hL
    obtain ⟨q, hq⟩ := List.getElem?_of_mem (hj _ hv).2
    exact lv_iinc hexec hb hd h hq rfl hn rfl k
  · exact gg_bin (fun x y H locs lsa rest k => lv_iadd hexec hb hd k) hx kk
  · exact gg_bin (fun x y H locs lsa rest k => lv_isub hexec hb hd k) hx kk
  · exact gg_bin (fun x y H locs lsa rest k => lv_imul hexec hb hd k) hx kk
  · exact gg_bin (fun x y H locs lsa rest k => lv_iand hexec hb hd k) hx kk
  · exact gg_bin (fun x y H locs lsa rest k => lv_ior hexec hb hd k) hx kk
  · exact gg_bin (fun x y H locs lsa rest k => lv_ixor hexec hb hd k) hx kk
  · exact gg_bin (fun x y H locs lsa rest k => lv_ishl hexec hb hd k) hx kk
  · exact gg_bin (fun x y H locs lsa rest k => lv_ishr hexec hb hd k) hx kk
  · exact gg_una (fun x H locs lsa rest k => lv_ineg hexec hb hd k) hx kk
  · exact gg_una (fun x H locs lsa rest k => lv_i2b hexec hb hd rfl k) hx kk
  · exact gg_una (fun x H locs lsa rest k => lv_i2s hexec hb hd rfl k) hx kk
  · split at hx
    case h_2 => cases hx
    cases hx
    exact fun hS hL H locs lsa hP hSt hl => lv_i2l hexec hb hd rfl (kk (okS_cons.mpr ⟨trivial, (okS_cons.mp hS).2⟩) hL H locs lsa hP hSt hl)
  · split at hx
    case h_2 => cases hx
    cases hx
    exact fun hS hL H locs lsa hP hSt hl => W.lcmp hexec hb hd (kk (okS_cons.mpr ⟨trivial, (okS_cons.mp (okS_cons.mp hS).2).2⟩) hL H locs lsa hP hSt hl)
  · split at hx
    case h_3 => cases hx
    · cases hx
      exact fun hS hL H locs lsa hP hSt hl => lv_dup hexec hb hd rfl (kk (okS_cons.mpr ⟨trivial, hS⟩) hL H locs lsa hP hSt hl)
    · cases hx
      exact fun hS hL H locs lsa hP hSt hl => lv_dup hexec hb hd rfl (kk (okS_cons.mpr ⟨(okS_cons.mp hS).1, hS⟩) hL H locs lsa hP hSt hl)
  · split at hx
    case h_3 => cases hx
    · cases hx
      exact fun hS hL H locs lsa hP hSt hl => lv_dup2_11 hexec hb hd rfl rfl (kk (okS_cons.mpr ⟨trivial, okS_cons.mpr ⟨trivial, hS⟩⟩) hL H locs lsa hP hSt hl)
    · cases hx
      exact fun hS hL H locs lsa hP hSt hl => lv_dup2_11 hexec hb hd rfl rfl (kk (okS_cons.mpr ⟨trivial, okS_cons.mpr ⟨(okS_cons.mp (okS_cons.mp hS).2).1, hS⟩⟩) hL H locs lsa hP hSt hl)
  · exact gg_get hC hd hx kk
  · exact gg_put hC hd hx kk
  · split at hx
    case h_2 => cases hx
    rename_i x hz
    cases hx
    refine gg_push (v := .inl x) (fun H locs lsa rest k => lv_ldc hexec hb hown (hts _ (hpt.2.1 (_, x) ?_)) hd k) trivial kk
    obtain ⟨l1, l2, h1, -⟩ := List.lookup_eq_some_iff.mp hz
    rw [h1]; simp
  · split at hx
    case h_2 => cases hx
    rename_i x hz
    cases hx
    refine gg_push (v := .inr (.inl x)) (fun H locs lsa rest k => lv_ldc2 hexec hb hown (hts _ (hpt.2.2 (_, x) ?_)) hd k) trivial kk
    obtain ⟨l1, l2, h1, -⟩ := List.lookup_eq_some_iff.mp hz
    rw [h1]; simp
  · cases hx
end
